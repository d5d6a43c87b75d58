/-! ===== the reference, 4: printed by wip/whole/drive.py out of the bytecode ===== -/
theorem q_839 : (Jvm.Cond.instanceMethod ({ cls := "YearBasketsModel", name := "drift", desc := "(IIIII)J" } : Jvm.MethodName)) ∈ zG := zt_5 (List.mem_of_getElem? (i := 200) rfl) rfl
theorem q_840 : (Jvm.Cond.selects "YearBasketsModel" ({ cls := "YearBasketsModel", name := "drift", desc := "(IIIII)J" } : Jvm.MethodName) ({ cls := "YearBasketsModel", name := "drift", desc := "(IIIII)J" } : Jvm.MethodName)) ∈ zG := zt_5 (List.mem_of_getElem? (i := 201) rfl) rfl
theorem q_841 : (Jvm.Cond.code ({ cls := "YearBasketsModel", name := "drift", desc := "(IIIII)J" } : Jvm.MethodName) prog_10_method_68_code (10 : Nat) (Option.some Jvm.ClassFile.FieldType.long)) ∈ zG := zt_5 (List.mem_of_getElem? (i := 202) rfl) rfl
theorem q_842 : (Jvm.Cond.instanceMethod ({ cls := "YearBasketsModel", name := "chosenAhead", desc := "(III)I" } : Jvm.MethodName)) ∈ zG := zt_5 (List.mem_of_getElem? (i := 209) rfl) rfl
theorem q_843 : (Jvm.Cond.selects "YearBasketsModel" ({ cls := "YearBasketsModel", name := "chosenAhead", desc := "(III)I" } : Jvm.MethodName) ({ cls := "YearBasketsModel", name := "chosenAhead", desc := "(III)I" } : Jvm.MethodName)) ∈ zG := zG_s (List.mem_of_getElem? (i := 73) rfl) rfl
theorem q_844 : (Jvm.Cond.code ({ cls := "YearBasketsModel", name := "chosenAhead", desc := "(III)I" } : Jvm.MethodName) prog_10_method_69_code (6 : Nat) (Option.some Jvm.ClassFile.FieldType.int)) ∈ zG := zt_5 (List.mem_of_getElem? (i := 210) rfl) rfl
theorem q_845 : (Jvm.Cond.instanceMethod ({ cls := "YearBasketsModel", name := "chosen", desc := "(III)I" } : Jvm.MethodName)) ∈ zG := zt_5 (List.mem_of_getElem? (i := 204) rfl) rfl
theorem q_846 : (Jvm.Cond.selects "YearBasketsModel" ({ cls := "YearBasketsModel", name := "chosen", desc := "(III)I" } : Jvm.MethodName) ({ cls := "YearBasketsModel", name := "chosen", desc := "(III)I" } : Jvm.MethodName)) ∈ zG := zt_5 (List.mem_of_getElem? (i := 205) rfl) rfl
theorem q_847 : (Jvm.Cond.code ({ cls := "YearBasketsModel", name := "chosen", desc := "(III)I" } : Jvm.MethodName) prog_10_method_70_code (4 : Nat) (Option.some Jvm.ClassFile.FieldType.int)) ∈ zG := zt_5 (List.mem_of_getElem? (i := 206) rfl) rfl
theorem q_848 : (Jvm.Cond.methodLink "YearBasketsModel" (351 : Nat) ({ cls := "YearBasketsModel", name := "chosenAhead", desc := "(III)I" } : Jvm.MethodName)) ∈ zG := zt_5 (List.mem_of_getElem? (i := 207) rfl) rfl
theorem q_849 : (Jvm.Cond.instanceMethod ({ cls := "YearBasketsModel", name := "findWalks", desc := "(I)V" } : Jvm.MethodName)) ∈ zG := zt_5 (List.mem_of_getElem? (i := 217) rfl) rfl
theorem q_850 : (Jvm.Cond.selects "YearBasketsModel" ({ cls := "YearBasketsModel", name := "findWalks", desc := "(I)V" } : Jvm.MethodName) ({ cls := "YearBasketsModel", name := "findWalks", desc := "(I)V" } : Jvm.MethodName)) ∈ zG := zG_s (List.mem_of_getElem? (i := 74) rfl) rfl
theorem q_851 : (Jvm.Cond.code ({ cls := "YearBasketsModel", name := "findWalks", desc := "(I)V" } : Jvm.MethodName) prog_10_method_71_code (8 : Nat) (Option.none : Option Jvm.ClassFile.FieldType)) ∈ zG := zt_5 (List.mem_of_getElem? (i := 218) rfl) rfl
theorem q_852 : (Jvm.Cond.fieldLink "YearBasketsModel" (79 : Nat) "YearBasketsModel" "comes" "[Z") ∈ zG := zt_4 (List.mem_of_getElem? (i := 86) rfl) rfl
theorem q_853 : (Jvm.Cond.fieldLink "YearBasketsModel" (85 : Nat) "YearBasketsModel" "edge" "[I") ∈ zG := zt_4 (List.mem_of_getElem? (i := 88) rfl) rfl
theorem q_854 : (Jvm.Cond.fieldLink "YearBasketsModel" (82 : Nat) "YearBasketsModel" "comesSure" "[Z") ∈ zG := zt_4 (List.mem_of_getElem? (i := 87) rfl) rfl
theorem q_855 : (Jvm.Cond.instanceMethod ({ cls := "YearBasketsModel", name := "ring", desc := "(II)I" } : Jvm.MethodName)) ∈ zG := zt_5 (List.mem_of_getElem? (i := 212) rfl) rfl
theorem q_856 : (Jvm.Cond.selects "YearBasketsModel" ({ cls := "YearBasketsModel", name := "ring", desc := "(II)I" } : Jvm.MethodName) ({ cls := "YearBasketsModel", name := "ring", desc := "(II)I" } : Jvm.MethodName)) ∈ zG := zt_5 (List.mem_of_getElem? (i := 213) rfl) rfl
theorem q_857 : (Jvm.Cond.code ({ cls := "YearBasketsModel", name := "ring", desc := "(II)I" } : Jvm.MethodName) prog_10_method_72_code (13 : Nat) (Option.some Jvm.ClassFile.FieldType.int)) ∈ zG := zt_5 (List.mem_of_getElem? (i := 214) rfl) rfl
theorem q_858 : (Jvm.Cond.methodLink "YearBasketsModel" (354 : Nat) ({ cls := "YearBasketsModel", name := "findWalks", desc := "(I)V" } : Jvm.MethodName)) ∈ zG := zt_5 (List.mem_of_getElem? (i := 215) rfl) rfl
theorem q_859 : (Jvm.Cond.instanceMethod ({ cls := "YearBasketsModel", name := "need", desc := "(IIII)I" } : Jvm.MethodName)) ∈ zG := zt_5 (List.mem_of_getElem? (i := 220) rfl) rfl
theorem q_860 : (Jvm.Cond.selects "YearBasketsModel" ({ cls := "YearBasketsModel", name := "need", desc := "(IIII)I" } : Jvm.MethodName) ({ cls := "YearBasketsModel", name := "need", desc := "(IIII)I" } : Jvm.MethodName)) ∈ zG := zt_5 (List.mem_of_getElem? (i := 221) rfl) rfl
theorem q_861 : (Jvm.Cond.code ({ cls := "YearBasketsModel", name := "need", desc := "(IIII)I" } : Jvm.MethodName) prog_10_method_73_code (11 : Nat) (Option.some Jvm.ClassFile.FieldType.int)) ∈ zG := zt_5 (List.mem_of_getElem? (i := 222) rfl) rfl
theorem q_862 : (Jvm.Cond.instanceMethod ({ cls := "YearBasketsModel", name := "part", desc := "(IIIII)I" } : Jvm.MethodName)) ∈ zG := zt_5 (List.mem_of_getElem? (i := 224) rfl) rfl
theorem q_863 : (Jvm.Cond.selects "YearBasketsModel" ({ cls := "YearBasketsModel", name := "part", desc := "(IIIII)I" } : Jvm.MethodName) ({ cls := "YearBasketsModel", name := "part", desc := "(IIIII)I" } : Jvm.MethodName)) ∈ zG := zt_5 (List.mem_of_getElem? (i := 225) rfl) rfl
theorem q_864 : (Jvm.Cond.code ({ cls := "YearBasketsModel", name := "part", desc := "(IIIII)I" } : Jvm.MethodName) prog_10_method_74_code (10 : Nat) (Option.some Jvm.ClassFile.FieldType.int)) ∈ zG := zt_5 (List.mem_of_getElem? (i := 226) rfl) rfl
theorem q_865 : (Jvm.Cond.static ({ cls := "YearBasketsModel", name := "rootOf", desc := "(J)J" } : Jvm.MethodName)) ∈ zG := zt_5 (List.mem_of_getElem? (i := 235) rfl) rfl
theorem q_866 : (Jvm.Cond.code ({ cls := "YearBasketsModel", name := "rootOf", desc := "(J)J" } : Jvm.MethodName) prog_10_method_75_code (9 : Nat) (Option.some Jvm.ClassFile.FieldType.long)) ∈ zG := zt_5 (List.mem_of_getElem? (i := 236) rfl) rfl
theorem q_867 : (Jvm.Cond.constantLong "YearBasketsModel" (357 : Nat) (1000000001 : Int64)) ∈ zG := zt_5 (List.mem_of_getElem? (i := 237) rfl) rfl
abbrev b_M_drift : ByteArray := prog_10_method_68_code
abbrev y_M_drift : MethodName := ⟨"YearBasketsModel", "drift", "(IIIII)J"⟩
abbrev b_M_chosenAhead : ByteArray := prog_10_method_69_code
abbrev y_M_chosenAhead : MethodName := ⟨"YearBasketsModel", "chosenAhead", "(III)I"⟩
abbrev b_M_chosen : ByteArray := prog_10_method_70_code
abbrev y_M_chosen : MethodName := ⟨"YearBasketsModel", "chosen", "(III)I"⟩
abbrev b_M_findWalks : ByteArray := prog_10_method_71_code
abbrev y_M_findWalks : MethodName := ⟨"YearBasketsModel", "findWalks", "(I)V"⟩
abbrev b_M_ring : ByteArray := prog_10_method_72_code
abbrev y_M_ring : MethodName := ⟨"YearBasketsModel", "ring", "(II)I"⟩
abbrev b_M_need : ByteArray := prog_10_method_73_code
abbrev y_M_need : MethodName := ⟨"YearBasketsModel", "need", "(IIII)I"⟩
abbrev b_M_part : ByteArray := prog_10_method_74_code
abbrev y_M_part : MethodName := ⟨"YearBasketsModel", "part", "(IIIII)I"⟩
abbrev b_M_rootOf : ByteArray := prog_10_method_75_code
abbrev y_M_rootOf : MethodName := ⟨"YearBasketsModel", "rootOf", "(J)J"⟩
theorem w_M_drift : Cond.code y_M_drift b_M_drift 10 (some .long) ∈ zG ∧ (Cond.instanceMethod y_M_drift ∈ zG ∧ Cond.selects y_M_drift.cls y_M_drift y_M_drift ∈ zG) ∧ Cond.initialized y_M_drift.cls ∈ zG ∧ zY y_M_drift 5 := ⟨q_841, ⟨q_839, q_840⟩, q_547, by decide +kernel⟩
theorem w_M_chosenAhead : Cond.code y_M_chosenAhead b_M_chosenAhead 6 (some .int) ∈ zG ∧ (Cond.instanceMethod y_M_chosenAhead ∈ zG ∧ Cond.selects y_M_chosenAhead.cls y_M_chosenAhead y_M_chosenAhead ∈ zG) ∧ Cond.initialized y_M_chosenAhead.cls ∈ zG ∧ zY y_M_chosenAhead 3 := ⟨q_844, ⟨q_842, q_843⟩, q_547, by decide +kernel⟩
theorem w_M_chosen : Cond.code y_M_chosen b_M_chosen 4 (some .int) ∈ zG ∧ (Cond.instanceMethod y_M_chosen ∈ zG ∧ Cond.selects y_M_chosen.cls y_M_chosen y_M_chosen ∈ zG) ∧ Cond.initialized y_M_chosen.cls ∈ zG ∧ zY y_M_chosen 3 := ⟨q_847, ⟨q_845, q_846⟩, q_547, by decide +kernel⟩
theorem w_M_findWalks : Cond.code y_M_findWalks b_M_findWalks 8 (none) ∈ zG ∧ (Cond.instanceMethod y_M_findWalks ∈ zG ∧ Cond.selects y_M_findWalks.cls y_M_findWalks y_M_findWalks ∈ zG) ∧ Cond.initialized y_M_findWalks.cls ∈ zG ∧ zY y_M_findWalks 1 := ⟨q_851, ⟨q_849, q_850⟩, q_547, by decide +kernel⟩
theorem w_M_ring : Cond.code y_M_ring b_M_ring 13 (some .int) ∈ zG ∧ (Cond.instanceMethod y_M_ring ∈ zG ∧ Cond.selects y_M_ring.cls y_M_ring y_M_ring ∈ zG) ∧ Cond.initialized y_M_ring.cls ∈ zG ∧ zY y_M_ring 2 := ⟨q_857, ⟨q_855, q_856⟩, q_547, by decide +kernel⟩
theorem w_M_need : Cond.code y_M_need b_M_need 11 (some .int) ∈ zG ∧ (Cond.instanceMethod y_M_need ∈ zG ∧ Cond.selects y_M_need.cls y_M_need y_M_need ∈ zG) ∧ Cond.initialized y_M_need.cls ∈ zG ∧ zY y_M_need 4 := ⟨q_861, ⟨q_859, q_860⟩, q_547, by decide +kernel⟩
theorem w_M_part : Cond.code y_M_part b_M_part 10 (some .int) ∈ zG ∧ (Cond.instanceMethod y_M_part ∈ zG ∧ Cond.selects y_M_part.cls y_M_part y_M_part ∈ zG) ∧ Cond.initialized y_M_part.cls ∈ zG ∧ zY y_M_part 5 := ⟨q_864, ⟨q_862, q_863⟩, q_547, by decide +kernel⟩
theorem w_M_rootOf : Cond.code y_M_rootOf b_M_rootOf 9 (some .long) ∈ zG ∧ Cond.static y_M_rootOf ∈ zG ∧ Cond.initialized y_M_rootOf.cls ∈ zG ∧ zY y_M_rootOf 1 := ⟨q_866, q_865, q_547, by decide +kernel⟩
theorem d_M_drift_0 : decode b_M_drift 0 = .ok (.aload_n 0, 1) := by decide +kernel
theorem d_M_drift_1 : decode b_M_drift 1 = .ok (.iload_n 1, 1) := by decide +kernel
theorem d_M_drift_2 : decode b_M_drift 2 = .ok (.invokevirtual 271, 3) := by decide +kernel
theorem d_M_drift_5 : decode b_M_drift 5 = .ok (.ifCond .eq 25, 3) := by decide +kernel
theorem d_M_drift_8 : decode b_M_drift 8 = .ok (.iload_n 2, 1) := by decide +kernel
theorem d_M_drift_9 : decode b_M_drift 9 = .ok (.invokestatic 115, 3) := by decide +kernel
theorem d_M_drift_12 : decode b_M_drift 12 = .ok (.ifCond .eq 18, 3) := by decide +kernel
theorem d_M_drift_15 : decode b_M_drift 15 = .ok (.iload_n 3, 1) := by decide +kernel
theorem d_M_drift_16 : decode b_M_drift 16 = .ok (.invokestatic 98, 3) := by decide +kernel
theorem d_M_drift_19 : decode b_M_drift 19 = .ok (.ifCond .eq 11, 3) := by decide +kernel
theorem d_M_drift_22 : decode b_M_drift 22 = .ok (.iload 4, 2) := by decide +kernel
theorem d_M_drift_24 : decode b_M_drift 24 = .ok (.invokestatic 98, 3) := by decide +kernel
theorem d_M_drift_27 : decode b_M_drift 27 = .ok (.ifCond .ne 7, 3) := by decide +kernel
theorem d_M_drift_30 : decode b_M_drift 30 = .ok (.ldc2_w 274, 3) := by decide +kernel
theorem d_M_drift_33 : decode b_M_drift 33 = .ok (.lreturn, 1) := by decide +kernel
theorem d_M_drift_34 : decode b_M_drift 34 = .ok (.iload 5, 2) := by decide +kernel
theorem d_M_drift_36 : decode b_M_drift 36 = .ok (.i2l, 1) := by decide +kernel
theorem d_M_drift_37 : decode b_M_drift 37 = .ok (.lconst 0, 1) := by decide +kernel
theorem d_M_drift_38 : decode b_M_drift 38 = .ok (.lconst 1, 1) := by decide +kernel
theorem d_M_drift_39 : decode b_M_drift 39 = .ok (.invokestatic 90, 3) := by decide +kernel
theorem d_M_drift_42 : decode b_M_drift 42 = .ok (.ifCond .ne 7, 3) := by decide +kernel
theorem d_M_drift_45 : decode b_M_drift 45 = .ok (.ldc2_w 276, 3) := by decide +kernel
theorem d_M_drift_48 : decode b_M_drift 48 = .ok (.lreturn, 1) := by decide +kernel
theorem d_M_drift_49 : decode b_M_drift 49 = .ok (.aload_n 0, 1) := by decide +kernel
theorem d_M_drift_50 : decode b_M_drift 50 = .ok (.lconst 1, 1) := by decide +kernel
theorem d_M_drift_51 : decode b_M_drift 51 = .ok (.lconst 1, 1) := by decide +kernel
theorem d_M_drift_52 : decode b_M_drift 52 = .ok (.iconst 0, 1) := by decide +kernel
theorem d_M_drift_53 : decode b_M_drift 53 = .ok (.invokevirtual 214, 3) := by decide +kernel
theorem d_M_drift_56 : decode b_M_drift 56 = .ok (.istore 6, 2) := by decide +kernel
theorem d_M_drift_58 : decode b_M_drift 58 = .ok (.aload_n 0, 1) := by decide +kernel
theorem d_M_drift_59 : decode b_M_drift 59 = .ok (.iconst 0, 1) := by decide +kernel
theorem d_M_drift_60 : decode b_M_drift 60 = .ok (.invokevirtual 281, 3) := by decide +kernel
theorem d_M_drift_63 : decode b_M_drift 63 = .ok (.iload_n 3, 1) := by decide +kernel
theorem d_M_drift_64 : decode b_M_drift 64 = .ok (.istore 7, 2) := by decide +kernel
theorem d_M_drift_66 : decode b_M_drift 66 = .ok (.iload 6, 2) := by decide +kernel
theorem d_M_drift_68 : decode b_M_drift 68 = .ok (.ifCond .ne 168, 3) := by decide +kernel
theorem d_M_drift_71 : decode b_M_drift 71 = .ok (.iload 7, 2) := by decide +kernel
theorem d_M_drift_73 : decode b_M_drift 73 = .ok (.iload 4, 2) := by decide +kernel
theorem d_M_drift_75 : decode b_M_drift 75 = .ok (.if_icmp .eq 161, 3) := by decide +kernel
theorem d_M_drift_78 : decode b_M_drift 78 = .ok (.iload 7, 2) := by decide +kernel
theorem d_M_drift_80 : decode b_M_drift 80 = .ok (.iload 4, 2) := by decide +kernel
theorem d_M_drift_82 : decode b_M_drift 82 = .ok (.iload 7, 2) := by decide +kernel
theorem d_M_drift_84 : decode b_M_drift 84 = .ok (.if_icmp .le 7, 3) := by decide +kernel
theorem d_M_drift_87 : decode b_M_drift 87 = .ok (.iconst 1, 1) := by decide +kernel
theorem d_M_drift_88 : decode b_M_drift 88 = .ok (.goto 4, 3) := by decide +kernel
theorem d_M_drift_91 : decode b_M_drift 91 = .ok (.iconst (-1), 1) := by decide +kernel
theorem d_M_drift_92 : decode b_M_drift 92 = .ok (.iadd, 1) := by decide +kernel
theorem d_M_drift_93 : decode b_M_drift 93 = .ok (.istore 8, 2) := by decide +kernel
theorem d_M_drift_95 : decode b_M_drift 95 = .ok (.aload_n 0, 1) := by decide +kernel
theorem d_M_drift_96 : decode b_M_drift 96 = .ok (.iload_n 1, 1) := by decide +kernel
theorem d_M_drift_97 : decode b_M_drift 97 = .ok (.iload_n 2, 1) := by decide +kernel
theorem d_M_drift_98 : decode b_M_drift 98 = .ok (.iload 7, 2) := by decide +kernel
theorem d_M_drift_100 : decode b_M_drift 100 = .ok (.iload 8, 2) := by decide +kernel
theorem d_M_drift_102 : decode b_M_drift 102 = .ok (.iconst 1, 1) := by decide +kernel
theorem d_M_drift_103 : decode b_M_drift 103 = .ok (.invokevirtual 284, 3) := by decide +kernel
theorem d_M_drift_106 : decode b_M_drift 106 = .ok (.istore 6, 2) := by decide +kernel
theorem d_M_drift_108 : decode b_M_drift 108 = .ok (.iload 7, 2) := by decide +kernel
theorem d_M_drift_110 : decode b_M_drift 110 = .ok (.iload_n 3, 1) := by decide +kernel
theorem d_M_drift_111 : decode b_M_drift 111 = .ok (.if_icmp .eq 22, 3) := by decide +kernel
theorem d_M_drift_114 : decode b_M_drift 114 = .ok (.aload_n 0, 1) := by decide +kernel
theorem d_M_drift_115 : decode b_M_drift 115 = .ok (.getfield 67, 3) := by decide +kernel
theorem d_M_drift_118 : decode b_M_drift 118 = .ok (.iconst 0, 1) := by decide +kernel
theorem d_M_drift_119 : decode b_M_drift 119 = .ok (.baload, 1) := by decide +kernel
theorem d_M_drift_120 : decode b_M_drift 120 = .ok (.aload_n 0, 1) := by decide +kernel
theorem d_M_drift_121 : decode b_M_drift 121 = .ok (.getfield 67, 3) := by decide +kernel
theorem d_M_drift_124 : decode b_M_drift 124 = .ok (.iconst 1, 1) := by decide +kernel
theorem d_M_drift_125 : decode b_M_drift 125 = .ok (.baload, 1) := by decide +kernel
theorem d_M_drift_126 : decode b_M_drift 126 = .ok (.if_icmp .eq 7, 3) := by decide +kernel
theorem d_M_drift_129 : decode b_M_drift 129 = .ok (.iconst 1, 1) := by decide +kernel
theorem d_M_drift_130 : decode b_M_drift 130 = .ok (.goto 4, 3) := by decide +kernel
theorem d_M_drift_133 : decode b_M_drift 133 = .ok (.iconst 0, 1) := by decide +kernel
theorem d_M_drift_134 : decode b_M_drift 134 = .ok (.istore 9, 2) := by decide +kernel
theorem d_M_drift_136 : decode b_M_drift 136 = .ok (.iload 6, 2) := by decide +kernel
theorem d_M_drift_138 : decode b_M_drift 138 = .ok (.ifCond .ge 8, 3) := by decide +kernel
theorem d_M_drift_141 : decode b_M_drift 141 = .ok (.iload 6, 2) := by decide +kernel
theorem d_M_drift_143 : decode b_M_drift 143 = .ok (.goto 79, 3) := by decide +kernel
theorem d_M_drift_146 : decode b_M_drift 146 = .ok (.iload 9, 2) := by decide +kernel
theorem d_M_drift_148 : decode b_M_drift 148 = .ok (.ifCond .eq 9, 3) := by decide +kernel
theorem d_M_drift_151 : decode b_M_drift 151 = .ok (.sipush (-1003), 3) := by decide +kernel
theorem d_M_drift_154 : decode b_M_drift 154 = .ok (.goto 68, 3) := by decide +kernel
theorem d_M_drift_157 : decode b_M_drift 157 = .ok (.iload 7, 2) := by decide +kernel
theorem d_M_drift_159 : decode b_M_drift 159 = .ok (.iload_n 3, 1) := by decide +kernel
theorem d_M_drift_160 : decode b_M_drift 160 = .ok (.if_icmp .ne 28, 3) := by decide +kernel
theorem d_M_drift_163 : decode b_M_drift 163 = .ok (.aload_n 0, 1) := by decide +kernel
theorem d_M_drift_164 : decode b_M_drift 164 = .ok (.aload_n 0, 1) := by decide +kernel
theorem d_M_drift_165 : decode b_M_drift 165 = .ok (.getfield 61, 3) := by decide +kernel
theorem d_M_drift_168 : decode b_M_drift 168 = .ok (.iconst 1, 1) := by decide +kernel
theorem d_M_drift_169 : decode b_M_drift 169 = .ok (.laload, 1) := by decide +kernel
theorem d_M_drift_170 : decode b_M_drift 170 = .ok (.aload_n 0, 1) := by decide +kernel
theorem d_M_drift_171 : decode b_M_drift 171 = .ok (.getfield 64, 3) := by decide +kernel
theorem d_M_drift_174 : decode b_M_drift 174 = .ok (.iconst 1, 1) := by decide +kernel
theorem d_M_drift_175 : decode b_M_drift 175 = .ok (.laload, 1) := by decide +kernel
theorem d_M_drift_176 : decode b_M_drift 176 = .ok (.aload_n 0, 1) := by decide +kernel
theorem d_M_drift_177 : decode b_M_drift 177 = .ok (.getfield 67, 3) := by decide +kernel
theorem d_M_drift_180 : decode b_M_drift 180 = .ok (.iconst 1, 1) := by decide +kernel
theorem d_M_drift_181 : decode b_M_drift 181 = .ok (.baload, 1) := by decide +kernel
theorem d_M_drift_182 : decode b_M_drift 182 = .ok (.invokevirtual 214, 3) := by decide +kernel
theorem d_M_drift_185 : decode b_M_drift 185 = .ok (.goto 37, 3) := by decide +kernel
theorem d_M_drift_188 : decode b_M_drift 188 = .ok (.aload_n 0, 1) := by decide +kernel
theorem d_M_drift_189 : decode b_M_drift 189 = .ok (.aload_n 0, 1) := by decide +kernel
theorem d_M_drift_190 : decode b_M_drift 190 = .ok (.getfield 61, 3) := by decide +kernel
theorem d_M_drift_193 : decode b_M_drift 193 = .ok (.iconst 0, 1) := by decide +kernel
theorem d_M_drift_194 : decode b_M_drift 194 = .ok (.laload, 1) := by decide +kernel
theorem d_M_drift_195 : decode b_M_drift 195 = .ok (.aload_n 0, 1) := by decide +kernel
theorem d_M_drift_196 : decode b_M_drift 196 = .ok (.getfield 64, 3) := by decide +kernel
theorem d_M_drift_199 : decode b_M_drift 199 = .ok (.iconst 0, 1) := by decide +kernel
theorem d_M_drift_200 : decode b_M_drift 200 = .ok (.laload, 1) := by decide +kernel
theorem d_M_drift_201 : decode b_M_drift 201 = .ok (.aload_n 0, 1) := by decide +kernel
theorem d_M_drift_202 : decode b_M_drift 202 = .ok (.getfield 61, 3) := by decide +kernel
theorem d_M_drift_205 : decode b_M_drift 205 = .ok (.iconst 1, 1) := by decide +kernel
theorem d_M_drift_206 : decode b_M_drift 206 = .ok (.laload, 1) := by decide +kernel
theorem d_M_drift_207 : decode b_M_drift 207 = .ok (.aload_n 0, 1) := by decide +kernel
theorem d_M_drift_208 : decode b_M_drift 208 = .ok (.getfield 64, 3) := by decide +kernel
theorem d_M_drift_211 : decode b_M_drift 211 = .ok (.iconst 1, 1) := by decide +kernel
theorem d_M_drift_212 : decode b_M_drift 212 = .ok (.laload, 1) := by decide +kernel
theorem d_M_drift_213 : decode b_M_drift 213 = .ok (.aload_n 0, 1) := by decide +kernel
theorem d_M_drift_214 : decode b_M_drift 214 = .ok (.getfield 67, 3) := by decide +kernel
theorem d_M_drift_217 : decode b_M_drift 217 = .ok (.iconst 0, 1) := by decide +kernel
theorem d_M_drift_218 : decode b_M_drift 218 = .ok (.baload, 1) := by decide +kernel
theorem d_M_drift_219 : decode b_M_drift 219 = .ok (.invokevirtual 218, 3) := by decide +kernel
theorem d_M_drift_222 : decode b_M_drift 222 = .ok (.istore 6, 2) := by decide +kernel
theorem d_M_drift_224 : decode b_M_drift 224 = .ok (.aload_n 0, 1) := by decide +kernel
theorem d_M_drift_225 : decode b_M_drift 225 = .ok (.iconst 0, 1) := by decide +kernel
theorem d_M_drift_226 : decode b_M_drift 226 = .ok (.invokevirtual 281, 3) := by decide +kernel
theorem d_M_drift_229 : decode b_M_drift 229 = .ok (.iload 8, 2) := by decide +kernel
theorem d_M_drift_231 : decode b_M_drift 231 = .ok (.istore 7, 2) := by decide +kernel
theorem d_M_drift_233 : decode b_M_drift 233 = .ok (.goto (-167), 3) := by decide +kernel
theorem d_M_drift_236 : decode b_M_drift 236 = .ok (.iload 6, 2) := by decide +kernel
theorem d_M_drift_238 : decode b_M_drift 238 = .ok (.ifCond .ge 8, 3) := by decide +kernel
theorem d_M_drift_241 : decode b_M_drift 241 = .ok (.iload 6, 2) := by decide +kernel
theorem d_M_drift_243 : decode b_M_drift 243 = .ok (.goto 13, 3) := by decide +kernel
theorem d_M_drift_246 : decode b_M_drift 246 = .ok (.aload_n 0, 1) := by decide +kernel
theorem d_M_drift_247 : decode b_M_drift 247 = .ok (.iload_n 1, 1) := by decide +kernel
theorem d_M_drift_248 : decode b_M_drift 248 = .ok (.iload_n 2, 1) := by decide +kernel
theorem d_M_drift_249 : decode b_M_drift 249 = .ok (.iload_n 3, 1) := by decide +kernel
theorem d_M_drift_250 : decode b_M_drift 250 = .ok (.iload 4, 2) := by decide +kernel
theorem d_M_drift_252 : decode b_M_drift 252 = .ok (.iconst 1, 1) := by decide +kernel
theorem d_M_drift_253 : decode b_M_drift 253 = .ok (.invokevirtual 284, 3) := by decide +kernel
theorem d_M_drift_256 : decode b_M_drift 256 = .ok (.istore 6, 2) := by decide +kernel
theorem d_M_drift_258 : decode b_M_drift 258 = .ok (.iload 6, 2) := by decide +kernel
theorem d_M_drift_260 : decode b_M_drift 260 = .ok (.ifCond .ge 8, 3) := by decide +kernel
theorem d_M_drift_263 : decode b_M_drift 263 = .ok (.iload 6, 2) := by decide +kernel
theorem d_M_drift_265 : decode b_M_drift 265 = .ok (.goto 67, 3) := by decide +kernel
theorem d_M_drift_268 : decode b_M_drift 268 = .ok (.aload_n 0, 1) := by decide +kernel
theorem d_M_drift_269 : decode b_M_drift 269 = .ok (.getfield 67, 3) := by decide +kernel
theorem d_M_drift_272 : decode b_M_drift 272 = .ok (.iconst 0, 1) := by decide +kernel
theorem d_M_drift_273 : decode b_M_drift 273 = .ok (.baload, 1) := by decide +kernel
theorem d_M_drift_274 : decode b_M_drift 274 = .ok (.ifCond .ne 23, 3) := by decide +kernel
theorem d_M_drift_277 : decode b_M_drift 277 = .ok (.aload_n 0, 1) := by decide +kernel
theorem d_M_drift_278 : decode b_M_drift 278 = .ok (.getfield 67, 3) := by decide +kernel
theorem d_M_drift_281 : decode b_M_drift 281 = .ok (.iconst 1, 1) := by decide +kernel
theorem d_M_drift_282 : decode b_M_drift 282 = .ok (.baload, 1) := by decide +kernel
theorem d_M_drift_283 : decode b_M_drift 283 = .ok (.ifCond .ne 14, 3) := by decide +kernel
theorem d_M_drift_286 : decode b_M_drift 286 = .ok (.aload_n 0, 1) := by decide +kernel
theorem d_M_drift_287 : decode b_M_drift 287 = .ok (.getfield 61, 3) := by decide +kernel
theorem d_M_drift_290 : decode b_M_drift 290 = .ok (.iconst 1, 1) := by decide +kernel
theorem d_M_drift_291 : decode b_M_drift 291 = .ok (.laload, 1) := by decide +kernel
theorem d_M_drift_292 : decode b_M_drift 292 = .ok (.lconst 0, 1) := by decide +kernel
theorem d_M_drift_293 : decode b_M_drift 293 = .ok (.lcmp, 1) := by decide +kernel
theorem d_M_drift_294 : decode b_M_drift 294 = .ok (.ifCond .ne 9, 3) := by decide +kernel
theorem d_M_drift_297 : decode b_M_drift 297 = .ok (.sipush (-1003), 3) := by decide +kernel
theorem d_M_drift_300 : decode b_M_drift 300 = .ok (.goto 32, 3) := by decide +kernel
theorem d_M_drift_303 : decode b_M_drift 303 = .ok (.aload_n 0, 1) := by decide +kernel
theorem d_M_drift_304 : decode b_M_drift 304 = .ok (.aload_n 0, 1) := by decide +kernel
theorem d_M_drift_305 : decode b_M_drift 305 = .ok (.getfield 61, 3) := by decide +kernel
theorem d_M_drift_308 : decode b_M_drift 308 = .ok (.iconst 0, 1) := by decide +kernel
theorem d_M_drift_309 : decode b_M_drift 309 = .ok (.laload, 1) := by decide +kernel
theorem d_M_drift_310 : decode b_M_drift 310 = .ok (.aload_n 0, 1) := by decide +kernel
theorem d_M_drift_311 : decode b_M_drift 311 = .ok (.getfield 64, 3) := by decide +kernel
theorem d_M_drift_314 : decode b_M_drift 314 = .ok (.iconst 0, 1) := by decide +kernel
theorem d_M_drift_315 : decode b_M_drift 315 = .ok (.laload, 1) := by decide +kernel
theorem d_M_drift_316 : decode b_M_drift 316 = .ok (.aload_n 0, 1) := by decide +kernel
theorem d_M_drift_317 : decode b_M_drift 317 = .ok (.getfield 64, 3) := by decide +kernel
theorem d_M_drift_320 : decode b_M_drift 320 = .ok (.iconst 1, 1) := by decide +kernel
theorem d_M_drift_321 : decode b_M_drift 321 = .ok (.laload, 1) := by decide +kernel
theorem d_M_drift_322 : decode b_M_drift 322 = .ok (.aload_n 0, 1) := by decide +kernel
theorem d_M_drift_323 : decode b_M_drift 323 = .ok (.getfield 61, 3) := by decide +kernel
theorem d_M_drift_326 : decode b_M_drift 326 = .ok (.iconst 1, 1) := by decide +kernel
theorem d_M_drift_327 : decode b_M_drift 327 = .ok (.laload, 1) := by decide +kernel
theorem d_M_drift_328 : decode b_M_drift 328 = .ok (.iconst 0, 1) := by decide +kernel
theorem d_M_drift_329 : decode b_M_drift 329 = .ok (.invokevirtual 218, 3) := by decide +kernel
theorem d_M_drift_332 : decode b_M_drift 332 = .ok (.istore 6, 2) := by decide +kernel
theorem d_M_drift_334 : decode b_M_drift 334 = .ok (.iload 6, 2) := by decide +kernel
theorem d_M_drift_336 : decode b_M_drift 336 = .ok (.ifCond .ge 9, 3) := by decide +kernel
theorem d_M_drift_339 : decode b_M_drift 339 = .ok (.iload 6, 2) := by decide +kernel
theorem d_M_drift_341 : decode b_M_drift 341 = .ok (.i2l, 1) := by decide +kernel
theorem d_M_drift_342 : decode b_M_drift 342 = .ok (.goto 19, 3) := by decide +kernel
theorem d_M_drift_345 : decode b_M_drift 345 = .ok (.iload 5, 2) := by decide +kernel
theorem d_M_drift_347 : decode b_M_drift 347 = .ok (.ifCond .ne 10, 3) := by decide +kernel
theorem d_M_drift_350 : decode b_M_drift 350 = .ok (.aload_n 0, 1) := by decide +kernel
theorem d_M_drift_351 : decode b_M_drift 351 = .ok (.getfield 201, 3) := by decide +kernel
theorem d_M_drift_354 : decode b_M_drift 354 = .ok (.goto 7, 3) := by decide +kernel
theorem d_M_drift_357 : decode b_M_drift 357 = .ok (.aload_n 0, 1) := by decide +kernel
theorem d_M_drift_358 : decode b_M_drift 358 = .ok (.getfield 205, 3) := by decide +kernel
theorem d_M_drift_361 : decode b_M_drift 361 = .ok (.lreturn, 1) := by decide +kernel
theorem d_M_chosenAhead_0 : decode b_M_chosenAhead 0 = .ok (.aload_n 0, 1) := by decide +kernel
theorem d_M_chosenAhead_1 : decode b_M_chosenAhead 1 = .ok (.iload_n 1, 1) := by decide +kernel
theorem d_M_chosenAhead_2 : decode b_M_chosenAhead 2 = .ok (.iload_n 2, 1) := by decide +kernel
theorem d_M_chosenAhead_3 : decode b_M_chosenAhead 3 = .ok (.iload_n 2, 1) := by decide +kernel
theorem d_M_chosenAhead_4 : decode b_M_chosenAhead 4 = .ok (.bipush 31, 2) := by decide +kernel
theorem d_M_chosenAhead_6 : decode b_M_chosenAhead 6 = .ok (.invokevirtual 118, 3) := by decide +kernel
theorem d_M_chosenAhead_9 : decode b_M_chosenAhead 9 = .ok (.istore 4, 2) := by decide +kernel
theorem d_M_chosenAhead_11 : decode b_M_chosenAhead 11 = .ok (.aload_n 0, 1) := by decide +kernel
theorem d_M_chosenAhead_12 : decode b_M_chosenAhead 12 = .ok (.iload_n 1, 1) := by decide +kernel
theorem d_M_chosenAhead_13 : decode b_M_chosenAhead 13 = .ok (.iload_n 2, 1) := by decide +kernel
theorem d_M_chosenAhead_14 : decode b_M_chosenAhead 14 = .ok (.iload_n 3, 1) := by decide +kernel
theorem d_M_chosenAhead_15 : decode b_M_chosenAhead 15 = .ok (.bipush 31, 2) := by decide +kernel
theorem d_M_chosenAhead_17 : decode b_M_chosenAhead 17 = .ok (.invokevirtual 118, 3) := by decide +kernel
theorem d_M_chosenAhead_20 : decode b_M_chosenAhead 20 = .ok (.istore 5, 2) := by decide +kernel
theorem d_M_chosenAhead_22 : decode b_M_chosenAhead 22 = .ok (.iload 4, 2) := by decide +kernel
theorem d_M_chosenAhead_24 : decode b_M_chosenAhead 24 = .ok (.ifCond .lt 15, 3) := by decide +kernel
theorem d_M_chosenAhead_27 : decode b_M_chosenAhead 27 = .ok (.iload 5, 2) := by decide +kernel
theorem d_M_chosenAhead_29 : decode b_M_chosenAhead 29 = .ok (.ifCond .lt 10, 3) := by decide +kernel
theorem d_M_chosenAhead_32 : decode b_M_chosenAhead 32 = .ok (.iload 4, 2) := by decide +kernel
theorem d_M_chosenAhead_34 : decode b_M_chosenAhead 34 = .ok (.iload 5, 2) := by decide +kernel
theorem d_M_chosenAhead_36 : decode b_M_chosenAhead 36 = .ok (.if_icmp .ge 7, 3) := by decide +kernel
theorem d_M_chosenAhead_39 : decode b_M_chosenAhead 39 = .ok (.iconst 0, 1) := by decide +kernel
theorem d_M_chosenAhead_40 : decode b_M_chosenAhead 40 = .ok (.goto 15, 3) := by decide +kernel
theorem d_M_chosenAhead_43 : decode b_M_chosenAhead 43 = .ok (.iload 4, 2) := by decide +kernel
theorem d_M_chosenAhead_45 : decode b_M_chosenAhead 45 = .ok (.iload 5, 2) := by decide +kernel
theorem d_M_chosenAhead_47 : decode b_M_chosenAhead 47 = .ok (.if_icmp .le 7, 3) := by decide +kernel
theorem d_M_chosenAhead_50 : decode b_M_chosenAhead 50 = .ok (.iconst 2, 1) := by decide +kernel
theorem d_M_chosenAhead_51 : decode b_M_chosenAhead 51 = .ok (.goto 4, 3) := by decide +kernel
theorem d_M_chosenAhead_54 : decode b_M_chosenAhead 54 = .ok (.iconst 1, 1) := by decide +kernel
theorem d_M_chosenAhead_55 : decode b_M_chosenAhead 55 = .ok (.ireturn, 1) := by decide +kernel
theorem d_M_chosen_0 : decode b_M_chosen 0 = .ok (.iload_n 1, 1) := by decide +kernel
theorem d_M_chosen_1 : decode b_M_chosen 1 = .ok (.invokestatic 115, 3) := by decide +kernel
theorem d_M_chosen_4 : decode b_M_chosen 4 = .ok (.ifCond .eq 27, 3) := by decide +kernel
theorem d_M_chosen_7 : decode b_M_chosen 7 = .ok (.iload_n 2, 1) := by decide +kernel
theorem d_M_chosen_8 : decode b_M_chosen 8 = .ok (.invokestatic 98, 3) := by decide +kernel
theorem d_M_chosen_11 : decode b_M_chosen 11 = .ok (.ifCond .eq 20, 3) := by decide +kernel
theorem d_M_chosen_14 : decode b_M_chosen 14 = .ok (.iload_n 3, 1) := by decide +kernel
theorem d_M_chosen_15 : decode b_M_chosen 15 = .ok (.invokestatic 98, 3) := by decide +kernel
theorem d_M_chosen_18 : decode b_M_chosen 18 = .ok (.ifCond .eq 13, 3) := by decide +kernel
theorem d_M_chosen_21 : decode b_M_chosen 21 = .ok (.aload_n 0, 1) := by decide +kernel
theorem d_M_chosen_22 : decode b_M_chosen 22 = .ok (.iload_n 1, 1) := by decide +kernel
theorem d_M_chosen_23 : decode b_M_chosen 23 = .ok (.iload_n 2, 1) := by decide +kernel
theorem d_M_chosen_24 : decode b_M_chosen 24 = .ok (.iload_n 3, 1) := by decide +kernel
theorem d_M_chosen_25 : decode b_M_chosen 25 = .ok (.invokevirtual 351, 3) := by decide +kernel
theorem d_M_chosen_28 : decode b_M_chosen 28 = .ok (.goto 6, 3) := by decide +kernel
theorem d_M_chosen_31 : decode b_M_chosen 31 = .ok (.sipush (-1001), 3) := by decide +kernel
theorem d_M_chosen_34 : decode b_M_chosen 34 = .ok (.ireturn, 1) := by decide +kernel
theorem d_M_findWalks_0 : decode b_M_findWalks 0 = .ok (.iconst 0, 1) := by decide +kernel
theorem d_M_findWalks_1 : decode b_M_findWalks 1 = .ok (.istore_n 2, 1) := by decide +kernel
theorem d_M_findWalks_2 : decode b_M_findWalks 2 = .ok (.iload_n 2, 1) := by decide +kernel
theorem d_M_findWalks_3 : decode b_M_findWalks 3 = .ok (.sipush 1100, 3) := by decide +kernel
theorem d_M_findWalks_6 : decode b_M_findWalks 6 = .ok (.if_icmp .ge 44, 3) := by decide +kernel
theorem d_M_findWalks_9 : decode b_M_findWalks 9 = .ok (.aload_n 0, 1) := by decide +kernel
theorem d_M_findWalks_10 : decode b_M_findWalks 10 = .ok (.getfield 79, 3) := by decide +kernel
theorem d_M_findWalks_13 : decode b_M_findWalks 13 = .ok (.iload_n 2, 1) := by decide +kernel
theorem d_M_findWalks_14 : decode b_M_findWalks 14 = .ok (.iload_n 2, 1) := by decide +kernel
theorem d_M_findWalks_15 : decode b_M_findWalks 15 = .ok (.bipush 100, 2) := by decide +kernel
theorem d_M_findWalks_17 : decode b_M_findWalks 17 = .ok (.if_icmp .ge 18, 3) := by decide +kernel
theorem d_M_findWalks_20 : decode b_M_findWalks 20 = .ok (.iload_n 2, 1) := by decide +kernel
theorem d_M_findWalks_21 : decode b_M_findWalks 21 = .ok (.bipush 10, 2) := by decide +kernel
theorem d_M_findWalks_23 : decode b_M_findWalks 23 = .ok (.idiv, 1) := by decide +kernel
theorem d_M_findWalks_24 : decode b_M_findWalks 24 = .ok (.iload_n 2, 1) := by decide +kernel
theorem d_M_findWalks_25 : decode b_M_findWalks 25 = .ok (.bipush 10, 2) := by decide +kernel
theorem d_M_findWalks_27 : decode b_M_findWalks 27 = .ok (.irem, 1) := by decide +kernel
theorem d_M_findWalks_28 : decode b_M_findWalks 28 = .ok (.if_icmp .ne 7, 3) := by decide +kernel
theorem d_M_findWalks_31 : decode b_M_findWalks 31 = .ok (.iconst 1, 1) := by decide +kernel
theorem d_M_findWalks_32 : decode b_M_findWalks 32 = .ok (.goto 4, 3) := by decide +kernel
theorem d_M_findWalks_35 : decode b_M_findWalks 35 = .ok (.iconst 0, 1) := by decide +kernel
theorem d_M_findWalks_36 : decode b_M_findWalks 36 = .ok (.bastore, 1) := by decide +kernel
theorem d_M_findWalks_37 : decode b_M_findWalks 37 = .ok (.aload_n 0, 1) := by decide +kernel
theorem d_M_findWalks_38 : decode b_M_findWalks 38 = .ok (.getfield 82, 3) := by decide +kernel
theorem d_M_findWalks_41 : decode b_M_findWalks 41 = .ok (.iload_n 2, 1) := by decide +kernel
theorem d_M_findWalks_42 : decode b_M_findWalks 42 = .ok (.iconst 0, 1) := by decide +kernel
theorem d_M_findWalks_43 : decode b_M_findWalks 43 = .ok (.bastore, 1) := by decide +kernel
theorem d_M_findWalks_44 : decode b_M_findWalks 44 = .ok (.iinc 2 1, 3) := by decide +kernel
theorem d_M_findWalks_47 : decode b_M_findWalks 47 = .ok (.goto (-45), 3) := by decide +kernel
theorem d_M_findWalks_50 : decode b_M_findWalks 50 = .ok (.iconst 0, 1) := by decide +kernel
theorem d_M_findWalks_51 : decode b_M_findWalks 51 = .ok (.istore_n 2, 1) := by decide +kernel
theorem d_M_findWalks_52 : decode b_M_findWalks 52 = .ok (.iload_n 2, 1) := by decide +kernel
theorem d_M_findWalks_53 : decode b_M_findWalks 53 = .ok (.bipush 8, 2) := by decide +kernel
theorem d_M_findWalks_55 : decode b_M_findWalks 55 = .ok (.if_icmp .ge 50, 3) := by decide +kernel
theorem d_M_findWalks_58 : decode b_M_findWalks 58 = .ok (.iconst 0, 1) := by decide +kernel
theorem d_M_findWalks_59 : decode b_M_findWalks 59 = .ok (.istore_n 3, 1) := by decide +kernel
theorem d_M_findWalks_60 : decode b_M_findWalks 60 = .ok (.iload_n 3, 1) := by decide +kernel
theorem d_M_findWalks_61 : decode b_M_findWalks 61 = .ok (.bipush 8, 2) := by decide +kernel
theorem d_M_findWalks_63 : decode b_M_findWalks 63 = .ok (.if_icmp .ge 36, 3) := by decide +kernel
theorem d_M_findWalks_66 : decode b_M_findWalks 66 = .ok (.aload_n 0, 1) := by decide +kernel
theorem d_M_findWalks_67 : decode b_M_findWalks 67 = .ok (.getfield 85, 3) := by decide +kernel
theorem d_M_findWalks_70 : decode b_M_findWalks 70 = .ok (.bipush 10, 2) := by decide +kernel
theorem d_M_findWalks_72 : decode b_M_findWalks 72 = .ok (.iload_n 2, 1) := by decide +kernel
theorem d_M_findWalks_73 : decode b_M_findWalks 73 = .ok (.imul, 1) := by decide +kernel
theorem d_M_findWalks_74 : decode b_M_findWalks 74 = .ok (.iload_n 3, 1) := by decide +kernel
theorem d_M_findWalks_75 : decode b_M_findWalks 75 = .ok (.iadd, 1) := by decide +kernel
theorem d_M_findWalks_76 : decode b_M_findWalks 76 = .ok (.iload_n 2, 1) := by decide +kernel
theorem d_M_findWalks_77 : decode b_M_findWalks 77 = .ok (.iload_n 3, 1) := by decide +kernel
theorem d_M_findWalks_78 : decode b_M_findWalks 78 = .ok (.if_icmp .ne 7, 3) := by decide +kernel
theorem d_M_findWalks_81 : decode b_M_findWalks 81 = .ok (.iconst 0, 1) := by decide +kernel
theorem d_M_findWalks_82 : decode b_M_findWalks 82 = .ok (.goto 10, 3) := by decide +kernel
theorem d_M_findWalks_85 : decode b_M_findWalks 85 = .ok (.aload_n 0, 1) := by decide +kernel
theorem d_M_findWalks_86 : decode b_M_findWalks 86 = .ok (.iload_n 1, 1) := by decide +kernel
theorem d_M_findWalks_87 : decode b_M_findWalks 87 = .ok (.iload_n 2, 1) := by decide +kernel
theorem d_M_findWalks_88 : decode b_M_findWalks 88 = .ok (.iload_n 3, 1) := by decide +kernel
theorem d_M_findWalks_89 : decode b_M_findWalks 89 = .ok (.invokevirtual 351, 3) := by decide +kernel
theorem d_M_findWalks_92 : decode b_M_findWalks 92 = .ok (.iastore, 1) := by decide +kernel
theorem d_M_findWalks_93 : decode b_M_findWalks 93 = .ok (.iinc 3 1, 3) := by decide +kernel
theorem d_M_findWalks_96 : decode b_M_findWalks 96 = .ok (.goto (-36), 3) := by decide +kernel
theorem d_M_findWalks_99 : decode b_M_findWalks 99 = .ok (.iinc 2 1, 3) := by decide +kernel
theorem d_M_findWalks_102 : decode b_M_findWalks 102 = .ok (.goto (-50), 3) := by decide +kernel
theorem d_M_findWalks_105 : decode b_M_findWalks 105 = .ok (.iconst 1, 1) := by decide +kernel
theorem d_M_findWalks_106 : decode b_M_findWalks 106 = .ok (.istore_n 2, 1) := by decide +kernel
theorem d_M_findWalks_107 : decode b_M_findWalks 107 = .ok (.iload_n 2, 1) := by decide +kernel
theorem d_M_findWalks_108 : decode b_M_findWalks 108 = .ok (.bipush 8, 2) := by decide +kernel
theorem d_M_findWalks_110 : decode b_M_findWalks 110 = .ok (.if_icmp .gt 191, 3) := by decide +kernel
theorem d_M_findWalks_113 : decode b_M_findWalks 113 = .ok (.iconst 0, 1) := by decide +kernel
theorem d_M_findWalks_114 : decode b_M_findWalks 114 = .ok (.istore_n 3, 1) := by decide +kernel
theorem d_M_findWalks_115 : decode b_M_findWalks 115 = .ok (.iload_n 3, 1) := by decide +kernel
theorem d_M_findWalks_116 : decode b_M_findWalks 116 = .ok (.bipush 8, 2) := by decide +kernel
theorem d_M_findWalks_118 : decode b_M_findWalks 118 = .ok (.if_icmp .ge 177, 3) := by decide +kernel
theorem d_M_findWalks_121 : decode b_M_findWalks 121 = .ok (.iconst 0, 1) := by decide +kernel
theorem d_M_findWalks_122 : decode b_M_findWalks 122 = .ok (.istore 4, 2) := by decide +kernel
theorem d_M_findWalks_124 : decode b_M_findWalks 124 = .ok (.iload 4, 2) := by decide +kernel
theorem d_M_findWalks_126 : decode b_M_findWalks 126 = .ok (.bipush 8, 2) := by decide +kernel
theorem d_M_findWalks_128 : decode b_M_findWalks 128 = .ok (.if_icmp .ge 161, 3) := by decide +kernel
theorem d_M_findWalks_131 : decode b_M_findWalks 131 = .ok (.iconst 0, 1) := by decide +kernel
theorem d_M_findWalks_132 : decode b_M_findWalks 132 = .ok (.istore 5, 2) := by decide +kernel
theorem d_M_findWalks_134 : decode b_M_findWalks 134 = .ok (.iload 5, 2) := by decide +kernel
theorem d_M_findWalks_136 : decode b_M_findWalks 136 = .ok (.bipush 8, 2) := by decide +kernel
theorem d_M_findWalks_138 : decode b_M_findWalks 138 = .ok (.if_icmp .ge 145, 3) := by decide +kernel
theorem d_M_findWalks_141 : decode b_M_findWalks 141 = .ok (.aload_n 0, 1) := by decide +kernel
theorem d_M_findWalks_142 : decode b_M_findWalks 142 = .ok (.getfield 85, 3) := by decide +kernel
theorem d_M_findWalks_145 : decode b_M_findWalks 145 = .ok (.bipush 10, 2) := by decide +kernel
theorem d_M_findWalks_147 : decode b_M_findWalks 147 = .ok (.iload_n 3, 1) := by decide +kernel
theorem d_M_findWalks_148 : decode b_M_findWalks 148 = .ok (.imul, 1) := by decide +kernel
theorem d_M_findWalks_149 : decode b_M_findWalks 149 = .ok (.iload 4, 2) := by decide +kernel
theorem d_M_findWalks_151 : decode b_M_findWalks 151 = .ok (.iadd, 1) := by decide +kernel
theorem d_M_findWalks_152 : decode b_M_findWalks 152 = .ok (.iaload, 1) := by decide +kernel
theorem d_M_findWalks_153 : decode b_M_findWalks 153 = .ok (.ifCond .le 130, 3) := by decide +kernel
theorem d_M_findWalks_156 : decode b_M_findWalks 156 = .ok (.bipush 100, 2) := by decide +kernel
theorem d_M_findWalks_158 : decode b_M_findWalks 158 = .ok (.iload_n 2, 1) := by decide +kernel
theorem d_M_findWalks_159 : decode b_M_findWalks 159 = .ok (.imul, 1) := by decide +kernel
theorem d_M_findWalks_160 : decode b_M_findWalks 160 = .ok (.bipush 10, 2) := by decide +kernel
theorem d_M_findWalks_162 : decode b_M_findWalks 162 = .ok (.iload_n 3, 1) := by decide +kernel
theorem d_M_findWalks_163 : decode b_M_findWalks 163 = .ok (.imul, 1) := by decide +kernel
theorem d_M_findWalks_164 : decode b_M_findWalks 164 = .ok (.iadd, 1) := by decide +kernel
theorem d_M_findWalks_165 : decode b_M_findWalks 165 = .ok (.iload 5, 2) := by decide +kernel
theorem d_M_findWalks_167 : decode b_M_findWalks 167 = .ok (.iadd, 1) := by decide +kernel
theorem d_M_findWalks_168 : decode b_M_findWalks 168 = .ok (.istore 6, 2) := by decide +kernel
theorem d_M_findWalks_170 : decode b_M_findWalks 170 = .ok (.bipush 100, 2) := by decide +kernel
theorem d_M_findWalks_172 : decode b_M_findWalks 172 = .ok (.iload_n 2, 1) := by decide +kernel
theorem d_M_findWalks_173 : decode b_M_findWalks 173 = .ok (.iconst 1, 1) := by decide +kernel
theorem d_M_findWalks_174 : decode b_M_findWalks 174 = .ok (.isub, 1) := by decide +kernel
theorem d_M_findWalks_175 : decode b_M_findWalks 175 = .ok (.imul, 1) := by decide +kernel
theorem d_M_findWalks_176 : decode b_M_findWalks 176 = .ok (.bipush 10, 2) := by decide +kernel
theorem d_M_findWalks_178 : decode b_M_findWalks 178 = .ok (.iload 4, 2) := by decide +kernel
theorem d_M_findWalks_180 : decode b_M_findWalks 180 = .ok (.imul, 1) := by decide +kernel
theorem d_M_findWalks_181 : decode b_M_findWalks 181 = .ok (.iadd, 1) := by decide +kernel
theorem d_M_findWalks_182 : decode b_M_findWalks 182 = .ok (.iload 5, 2) := by decide +kernel
theorem d_M_findWalks_184 : decode b_M_findWalks 184 = .ok (.iadd, 1) := by decide +kernel
theorem d_M_findWalks_185 : decode b_M_findWalks 185 = .ok (.istore 7, 2) := by decide +kernel
theorem d_M_findWalks_187 : decode b_M_findWalks 187 = .ok (.aload_n 0, 1) := by decide +kernel
theorem d_M_findWalks_188 : decode b_M_findWalks 188 = .ok (.getfield 79, 3) := by decide +kernel
theorem d_M_findWalks_191 : decode b_M_findWalks 191 = .ok (.iload 6, 2) := by decide +kernel
theorem d_M_findWalks_193 : decode b_M_findWalks 193 = .ok (.aload_n 0, 1) := by decide +kernel
theorem d_M_findWalks_194 : decode b_M_findWalks 194 = .ok (.getfield 79, 3) := by decide +kernel
theorem d_M_findWalks_197 : decode b_M_findWalks 197 = .ok (.iload 6, 2) := by decide +kernel
theorem d_M_findWalks_199 : decode b_M_findWalks 199 = .ok (.baload, 1) := by decide +kernel
theorem d_M_findWalks_200 : decode b_M_findWalks 200 = .ok (.ifCond .ne 13, 3) := by decide +kernel
theorem d_M_findWalks_203 : decode b_M_findWalks 203 = .ok (.aload_n 0, 1) := by decide +kernel
theorem d_M_findWalks_204 : decode b_M_findWalks 204 = .ok (.getfield 79, 3) := by decide +kernel
theorem d_M_findWalks_207 : decode b_M_findWalks 207 = .ok (.iload 7, 2) := by decide +kernel
theorem d_M_findWalks_209 : decode b_M_findWalks 209 = .ok (.baload, 1) := by decide +kernel
theorem d_M_findWalks_210 : decode b_M_findWalks 210 = .ok (.ifCond .eq 7, 3) := by decide +kernel
theorem d_M_findWalks_213 : decode b_M_findWalks 213 = .ok (.iconst 1, 1) := by decide +kernel
theorem d_M_findWalks_214 : decode b_M_findWalks 214 = .ok (.goto 4, 3) := by decide +kernel
theorem d_M_findWalks_217 : decode b_M_findWalks 217 = .ok (.iconst 0, 1) := by decide +kernel
theorem d_M_findWalks_218 : decode b_M_findWalks 218 = .ok (.bastore, 1) := by decide +kernel
theorem d_M_findWalks_219 : decode b_M_findWalks 219 = .ok (.aload_n 0, 1) := by decide +kernel
theorem d_M_findWalks_220 : decode b_M_findWalks 220 = .ok (.getfield 82, 3) := by decide +kernel
theorem d_M_findWalks_223 : decode b_M_findWalks 223 = .ok (.iload 6, 2) := by decide +kernel
theorem d_M_findWalks_225 : decode b_M_findWalks 225 = .ok (.aload_n 0, 1) := by decide +kernel
theorem d_M_findWalks_226 : decode b_M_findWalks 226 = .ok (.getfield 82, 3) := by decide +kernel
theorem d_M_findWalks_229 : decode b_M_findWalks 229 = .ok (.iload 6, 2) := by decide +kernel
theorem d_M_findWalks_231 : decode b_M_findWalks 231 = .ok (.baload, 1) := by decide +kernel
theorem d_M_findWalks_232 : decode b_M_findWalks 232 = .ok (.ifCond .ne 39, 3) := by decide +kernel
theorem d_M_findWalks_235 : decode b_M_findWalks 235 = .ok (.aload_n 0, 1) := by decide +kernel
theorem d_M_findWalks_236 : decode b_M_findWalks 236 = .ok (.getfield 82, 3) := by decide +kernel
theorem d_M_findWalks_239 : decode b_M_findWalks 239 = .ok (.iload 7, 2) := by decide +kernel
theorem d_M_findWalks_241 : decode b_M_findWalks 241 = .ok (.baload, 1) := by decide +kernel
theorem d_M_findWalks_242 : decode b_M_findWalks 242 = .ok (.ifCond .ne 29, 3) := by decide +kernel
theorem d_M_findWalks_245 : decode b_M_findWalks 245 = .ok (.aload_n 0, 1) := by decide +kernel
theorem d_M_findWalks_246 : decode b_M_findWalks 246 = .ok (.getfield 85, 3) := by decide +kernel
theorem d_M_findWalks_249 : decode b_M_findWalks 249 = .ok (.bipush 10, 2) := by decide +kernel
theorem d_M_findWalks_251 : decode b_M_findWalks 251 = .ok (.iload_n 3, 1) := by decide +kernel
theorem d_M_findWalks_252 : decode b_M_findWalks 252 = .ok (.imul, 1) := by decide +kernel
theorem d_M_findWalks_253 : decode b_M_findWalks 253 = .ok (.iload 4, 2) := by decide +kernel
theorem d_M_findWalks_255 : decode b_M_findWalks 255 = .ok (.iadd, 1) := by decide +kernel
theorem d_M_findWalks_256 : decode b_M_findWalks 256 = .ok (.iaload, 1) := by decide +kernel
theorem d_M_findWalks_257 : decode b_M_findWalks 257 = .ok (.iconst 2, 1) := by decide +kernel
theorem d_M_findWalks_258 : decode b_M_findWalks 258 = .ok (.if_icmp .ne 17, 3) := by decide +kernel
theorem d_M_findWalks_261 : decode b_M_findWalks 261 = .ok (.aload_n 0, 1) := by decide +kernel
theorem d_M_findWalks_262 : decode b_M_findWalks 262 = .ok (.getfield 79, 3) := by decide +kernel
theorem d_M_findWalks_265 : decode b_M_findWalks 265 = .ok (.iload 7, 2) := by decide +kernel
theorem d_M_findWalks_267 : decode b_M_findWalks 267 = .ok (.baload, 1) := by decide +kernel
theorem d_M_findWalks_268 : decode b_M_findWalks 268 = .ok (.ifCond .eq 7, 3) := by decide +kernel
theorem d_M_findWalks_271 : decode b_M_findWalks 271 = .ok (.iconst 1, 1) := by decide +kernel
theorem d_M_findWalks_272 : decode b_M_findWalks 272 = .ok (.goto 4, 3) := by decide +kernel
theorem d_M_findWalks_275 : decode b_M_findWalks 275 = .ok (.iconst 0, 1) := by decide +kernel
theorem d_M_findWalks_276 : decode b_M_findWalks 276 = .ok (.bastore, 1) := by decide +kernel
theorem d_M_findWalks_277 : decode b_M_findWalks 277 = .ok (.iinc 5 1, 3) := by decide +kernel
theorem d_M_findWalks_280 : decode b_M_findWalks 280 = .ok (.goto (-146), 3) := by decide +kernel
theorem d_M_findWalks_283 : decode b_M_findWalks 283 = .ok (.iinc 4 1, 3) := by decide +kernel
theorem d_M_findWalks_286 : decode b_M_findWalks 286 = .ok (.goto (-162), 3) := by decide +kernel
theorem d_M_findWalks_289 : decode b_M_findWalks 289 = .ok (.iinc 3 1, 3) := by decide +kernel
theorem d_M_findWalks_292 : decode b_M_findWalks 292 = .ok (.goto (-177), 3) := by decide +kernel
theorem d_M_findWalks_295 : decode b_M_findWalks 295 = .ok (.iinc 2 1, 3) := by decide +kernel
theorem d_M_findWalks_298 : decode b_M_findWalks 298 = .ok (.goto (-191), 3) := by decide +kernel
theorem d_M_findWalks_301 : decode b_M_findWalks 301 = .ok (.return_, 1) := by decide +kernel
theorem d_M_ring_0 : decode b_M_ring 0 = .ok (.iload_n 1, 1) := by decide +kernel
theorem d_M_ring_1 : decode b_M_ring 1 = .ok (.invokestatic 115, 3) := by decide +kernel
theorem d_M_ring_4 : decode b_M_ring 4 = .ok (.ifCond .ne 7, 3) := by decide +kernel
theorem d_M_ring_7 : decode b_M_ring 7 = .ok (.sipush (-1001), 3) := by decide +kernel
theorem d_M_ring_10 : decode b_M_ring 10 = .ok (.ireturn, 1) := by decide +kernel
theorem d_M_ring_11 : decode b_M_ring 11 = .ok (.aload_n 0, 1) := by decide +kernel
theorem d_M_ring_12 : decode b_M_ring 12 = .ok (.iload_n 1, 1) := by decide +kernel
theorem d_M_ring_13 : decode b_M_ring 13 = .ok (.invokevirtual 354, 3) := by decide +kernel
theorem d_M_ring_16 : decode b_M_ring 16 = .ok (.iconst 0, 1) := by decide +kernel
theorem d_M_ring_17 : decode b_M_ring 17 = .ok (.istore_n 3, 1) := by decide +kernel
theorem d_M_ring_18 : decode b_M_ring 18 = .ok (.iconst (-1), 1) := by decide +kernel
theorem d_M_ring_19 : decode b_M_ring 19 = .ok (.istore 4, 2) := by decide +kernel
theorem d_M_ring_21 : decode b_M_ring 21 = .ok (.iconst 2, 1) := by decide +kernel
theorem d_M_ring_22 : decode b_M_ring 22 = .ok (.istore 5, 2) := by decide +kernel
theorem d_M_ring_24 : decode b_M_ring 24 = .ok (.iload 5, 2) := by decide +kernel
theorem d_M_ring_26 : decode b_M_ring 26 = .ok (.bipush 8, 2) := by decide +kernel
theorem d_M_ring_28 : decode b_M_ring 28 = .ok (.if_icmp .gt 72, 3) := by decide +kernel
theorem d_M_ring_31 : decode b_M_ring 31 = .ok (.iload_n 3, 1) := by decide +kernel
theorem d_M_ring_32 : decode b_M_ring 32 = .ok (.ifCond .ne 68, 3) := by decide +kernel
theorem d_M_ring_35 : decode b_M_ring 35 = .ok (.bipush 7, 2) := by decide +kernel
theorem d_M_ring_37 : decode b_M_ring 37 = .ok (.istore 6, 2) := by decide +kernel
theorem d_M_ring_39 : decode b_M_ring 39 = .ok (.iload 6, 2) := by decide +kernel
theorem d_M_ring_41 : decode b_M_ring 41 = .ok (.ifCond .lt 53, 3) := by decide +kernel
theorem d_M_ring_44 : decode b_M_ring 44 = .ok (.aload_n 0, 1) := by decide +kernel
theorem d_M_ring_45 : decode b_M_ring 45 = .ok (.getfield 82, 3) := by decide +kernel
theorem d_M_ring_48 : decode b_M_ring 48 = .ok (.bipush 100, 2) := by decide +kernel
theorem d_M_ring_50 : decode b_M_ring 50 = .ok (.iload 5, 2) := by decide +kernel
theorem d_M_ring_52 : decode b_M_ring 52 = .ok (.imul, 1) := by decide +kernel
theorem d_M_ring_53 : decode b_M_ring 53 = .ok (.bipush 11, 2) := by decide +kernel
theorem d_M_ring_55 : decode b_M_ring 55 = .ok (.iload 6, 2) := by decide +kernel
theorem d_M_ring_57 : decode b_M_ring 57 = .ok (.imul, 1) := by decide +kernel
theorem d_M_ring_58 : decode b_M_ring 58 = .ok (.iadd, 1) := by decide +kernel
theorem d_M_ring_59 : decode b_M_ring 59 = .ok (.baload, 1) := by decide +kernel
theorem d_M_ring_60 : decode b_M_ring 60 = .ok (.istore 7, 2) := by decide +kernel
theorem d_M_ring_62 : decode b_M_ring 62 = .ok (.iload 7, 2) := by decide +kernel
theorem d_M_ring_64 : decode b_M_ring 64 = .ok (.ifCond .eq 8, 3) := by decide +kernel
theorem d_M_ring_67 : decode b_M_ring 67 = .ok (.iload 6, 2) := by decide +kernel
theorem d_M_ring_69 : decode b_M_ring 69 = .ok (.goto 5, 3) := by decide +kernel
theorem d_M_ring_72 : decode b_M_ring 72 = .ok (.iload 4, 2) := by decide +kernel
theorem d_M_ring_74 : decode b_M_ring 74 = .ok (.istore 4, 2) := by decide +kernel
theorem d_M_ring_76 : decode b_M_ring 76 = .ok (.iload 7, 2) := by decide +kernel
theorem d_M_ring_78 : decode b_M_ring 78 = .ok (.ifCond .eq 8, 3) := by decide +kernel
theorem d_M_ring_81 : decode b_M_ring 81 = .ok (.iload 5, 2) := by decide +kernel
theorem d_M_ring_83 : decode b_M_ring 83 = .ok (.goto 4, 3) := by decide +kernel
theorem d_M_ring_86 : decode b_M_ring 86 = .ok (.iload_n 3, 1) := by decide +kernel
theorem d_M_ring_87 : decode b_M_ring 87 = .ok (.istore_n 3, 1) := by decide +kernel
theorem d_M_ring_88 : decode b_M_ring 88 = .ok (.iinc 6 (-1), 3) := by decide +kernel
theorem d_M_ring_91 : decode b_M_ring 91 = .ok (.goto (-52), 3) := by decide +kernel
theorem d_M_ring_94 : decode b_M_ring 94 = .ok (.iinc 5 1, 3) := by decide +kernel
theorem d_M_ring_97 : decode b_M_ring 97 = .ok (.goto (-73), 3) := by decide +kernel
theorem d_M_ring_100 : decode b_M_ring 100 = .ok (.iload_n 2, 1) := by decide +kernel
theorem d_M_ring_101 : decode b_M_ring 101 = .ok (.iconst (-1), 1) := by decide +kernel
theorem d_M_ring_102 : decode b_M_ring 102 = .ok (.if_icmp .eq 7, 3) := by decide +kernel
theorem d_M_ring_105 : decode b_M_ring 105 = .ok (.iload_n 3, 1) := by decide +kernel
theorem d_M_ring_106 : decode b_M_ring 106 = .ok (.ifCond .ne 14, 3) := by decide +kernel
theorem d_M_ring_109 : decode b_M_ring 109 = .ok (.iload_n 2, 1) := by decide +kernel
theorem d_M_ring_110 : decode b_M_ring 110 = .ok (.iconst (-1), 1) := by decide +kernel
theorem d_M_ring_111 : decode b_M_ring 111 = .ok (.if_icmp .ne 7, 3) := by decide +kernel
theorem d_M_ring_114 : decode b_M_ring 114 = .ok (.iload_n 3, 1) := by decide +kernel
theorem d_M_ring_115 : decode b_M_ring 115 = .ok (.goto 4, 3) := by decide +kernel
theorem d_M_ring_118 : decode b_M_ring 118 = .ok (.iconst (-1), 1) := by decide +kernel
theorem d_M_ring_119 : decode b_M_ring 119 = .ok (.ireturn, 1) := by decide +kernel
theorem d_M_ring_120 : decode b_M_ring 120 = .ok (.iload_n 2, 1) := by decide +kernel
theorem d_M_ring_121 : decode b_M_ring 121 = .ok (.i2l, 1) := by decide +kernel
theorem d_M_ring_122 : decode b_M_ring 122 = .ok (.lconst 0, 1) := by decide +kernel
theorem d_M_ring_123 : decode b_M_ring 123 = .ok (.iload_n 3, 1) := by decide +kernel
theorem d_M_ring_124 : decode b_M_ring 124 = .ok (.iconst 1, 1) := by decide +kernel
theorem d_M_ring_125 : decode b_M_ring 125 = .ok (.isub, 1) := by decide +kernel
theorem d_M_ring_126 : decode b_M_ring 126 = .ok (.i2l, 1) := by decide +kernel
theorem d_M_ring_127 : decode b_M_ring 127 = .ok (.invokestatic 90, 3) := by decide +kernel
theorem d_M_ring_130 : decode b_M_ring 130 = .ok (.ifCond .ne 5, 3) := by decide +kernel
theorem d_M_ring_133 : decode b_M_ring 133 = .ok (.iconst (-1), 1) := by decide +kernel
theorem d_M_ring_134 : decode b_M_ring 134 = .ok (.ireturn, 1) := by decide +kernel
theorem d_M_ring_135 : decode b_M_ring 135 = .ok (.iload 4, 2) := by decide +kernel
theorem d_M_ring_137 : decode b_M_ring 137 = .ok (.istore 5, 2) := by decide +kernel
theorem d_M_ring_139 : decode b_M_ring 139 = .ok (.iconst 0, 1) := by decide +kernel
theorem d_M_ring_140 : decode b_M_ring 140 = .ok (.istore 6, 2) := by decide +kernel
theorem d_M_ring_142 : decode b_M_ring 142 = .ok (.iconst 0, 1) := by decide +kernel
theorem d_M_ring_143 : decode b_M_ring 143 = .ok (.istore 7, 2) := by decide +kernel
theorem d_M_ring_145 : decode b_M_ring 145 = .ok (.iload 7, 2) := by decide +kernel
theorem d_M_ring_147 : decode b_M_ring 147 = .ok (.iload_n 2, 1) := by decide +kernel
theorem d_M_ring_148 : decode b_M_ring 148 = .ok (.if_icmp .ge 163, 3) := by decide +kernel
theorem d_M_ring_151 : decode b_M_ring 151 = .ok (.iload_n 3, 1) := by decide +kernel
theorem d_M_ring_152 : decode b_M_ring 152 = .ok (.iconst 1, 1) := by decide +kernel
theorem d_M_ring_153 : decode b_M_ring 153 = .ok (.isub, 1) := by decide +kernel
theorem d_M_ring_154 : decode b_M_ring 154 = .ok (.iload 7, 2) := by decide +kernel
theorem d_M_ring_156 : decode b_M_ring 156 = .ok (.isub, 1) := by decide +kernel
theorem d_M_ring_157 : decode b_M_ring 157 = .ok (.istore 8, 2) := by decide +kernel
theorem d_M_ring_159 : decode b_M_ring 159 = .ok (.iconst (-1), 1) := by decide +kernel
theorem d_M_ring_160 : decode b_M_ring 160 = .ok (.istore 9, 2) := by decide +kernel
theorem d_M_ring_162 : decode b_M_ring 162 = .ok (.bipush 7, 2) := by decide +kernel
theorem d_M_ring_164 : decode b_M_ring 164 = .ok (.istore 10, 2) := by decide +kernel
theorem d_M_ring_166 : decode b_M_ring 166 = .ok (.iload 10, 2) := by decide +kernel
theorem d_M_ring_168 : decode b_M_ring 168 = .ok (.ifCond .lt 104, 3) := by decide +kernel
theorem d_M_ring_171 : decode b_M_ring 171 = .ok (.iload 6, 2) := by decide +kernel
theorem d_M_ring_173 : decode b_M_ring 173 = .ok (.ifCond .ne 20, 3) := by decide +kernel
theorem d_M_ring_176 : decode b_M_ring 176 = .ok (.aload_n 0, 1) := by decide +kernel
theorem d_M_ring_177 : decode b_M_ring 177 = .ok (.getfield 85, 3) := by decide +kernel
theorem d_M_ring_180 : decode b_M_ring 180 = .ok (.bipush 10, 2) := by decide +kernel
theorem d_M_ring_182 : decode b_M_ring 182 = .ok (.iload 5, 2) := by decide +kernel
theorem d_M_ring_184 : decode b_M_ring 184 = .ok (.imul, 1) := by decide +kernel
theorem d_M_ring_185 : decode b_M_ring 185 = .ok (.iload 10, 2) := by decide +kernel
theorem d_M_ring_187 : decode b_M_ring 187 = .ok (.iadd, 1) := by decide +kernel
theorem d_M_ring_188 : decode b_M_ring 188 = .ok (.iaload, 1) := by decide +kernel
theorem d_M_ring_189 : decode b_M_ring 189 = .ok (.iconst 2, 1) := by decide +kernel
theorem d_M_ring_190 : decode b_M_ring 190 = .ok (.if_icmp .ne 7, 3) := by decide +kernel
theorem d_M_ring_193 : decode b_M_ring 193 = .ok (.iconst 1, 1) := by decide +kernel
theorem d_M_ring_194 : decode b_M_ring 194 = .ok (.goto 4, 3) := by decide +kernel
theorem d_M_ring_197 : decode b_M_ring 197 = .ok (.iconst 0, 1) := by decide +kernel
theorem d_M_ring_198 : decode b_M_ring 198 = .ok (.istore 11, 2) := by decide +kernel
theorem d_M_ring_200 : decode b_M_ring 200 = .ok (.bipush 100, 2) := by decide +kernel
theorem d_M_ring_202 : decode b_M_ring 202 = .ok (.iload 8, 2) := by decide +kernel
theorem d_M_ring_204 : decode b_M_ring 204 = .ok (.imul, 1) := by decide +kernel
theorem d_M_ring_205 : decode b_M_ring 205 = .ok (.bipush 10, 2) := by decide +kernel
theorem d_M_ring_207 : decode b_M_ring 207 = .ok (.iload 10, 2) := by decide +kernel
theorem d_M_ring_209 : decode b_M_ring 209 = .ok (.imul, 1) := by decide +kernel
theorem d_M_ring_210 : decode b_M_ring 210 = .ok (.iadd, 1) := by decide +kernel
theorem d_M_ring_211 : decode b_M_ring 211 = .ok (.iload 4, 2) := by decide +kernel
theorem d_M_ring_213 : decode b_M_ring 213 = .ok (.iadd, 1) := by decide +kernel
theorem d_M_ring_214 : decode b_M_ring 214 = .ok (.istore 12, 2) := by decide +kernel
theorem d_M_ring_216 : decode b_M_ring 216 = .ok (.aload_n 0, 1) := by decide +kernel
theorem d_M_ring_217 : decode b_M_ring 217 = .ok (.getfield 85, 3) := by decide +kernel
theorem d_M_ring_220 : decode b_M_ring 220 = .ok (.bipush 10, 2) := by decide +kernel
theorem d_M_ring_222 : decode b_M_ring 222 = .ok (.iload 5, 2) := by decide +kernel
theorem d_M_ring_224 : decode b_M_ring 224 = .ok (.imul, 1) := by decide +kernel
theorem d_M_ring_225 : decode b_M_ring 225 = .ok (.iload 10, 2) := by decide +kernel
theorem d_M_ring_227 : decode b_M_ring 227 = .ok (.iadd, 1) := by decide +kernel
theorem d_M_ring_228 : decode b_M_ring 228 = .ok (.iaload, 1) := by decide +kernel
theorem d_M_ring_229 : decode b_M_ring 229 = .ok (.ifCond .le 33, 3) := by decide +kernel
theorem d_M_ring_232 : decode b_M_ring 232 = .ok (.aload_n 0, 1) := by decide +kernel
theorem d_M_ring_233 : decode b_M_ring 233 = .ok (.getfield 82, 3) := by decide +kernel
theorem d_M_ring_236 : decode b_M_ring 236 = .ok (.iload 12, 2) := by decide +kernel
theorem d_M_ring_238 : decode b_M_ring 238 = .ok (.baload, 1) := by decide +kernel
theorem d_M_ring_239 : decode b_M_ring 239 = .ok (.ifCond .ne 18, 3) := by decide +kernel
theorem d_M_ring_242 : decode b_M_ring 242 = .ok (.iload 11, 2) := by decide +kernel
theorem d_M_ring_244 : decode b_M_ring 244 = .ok (.ifCond .eq 18, 3) := by decide +kernel
theorem d_M_ring_247 : decode b_M_ring 247 = .ok (.aload_n 0, 1) := by decide +kernel
theorem d_M_ring_248 : decode b_M_ring 248 = .ok (.getfield 79, 3) := by decide +kernel
theorem d_M_ring_251 : decode b_M_ring 251 = .ok (.iload 12, 2) := by decide +kernel
theorem d_M_ring_253 : decode b_M_ring 253 = .ok (.baload, 1) := by decide +kernel
theorem d_M_ring_254 : decode b_M_ring 254 = .ok (.ifCond .eq 8, 3) := by decide +kernel
theorem d_M_ring_257 : decode b_M_ring 257 = .ok (.iload 10, 2) := by decide +kernel
theorem d_M_ring_259 : decode b_M_ring 259 = .ok (.goto 5, 3) := by decide +kernel
theorem d_M_ring_262 : decode b_M_ring 262 = .ok (.iload 9, 2) := by decide +kernel
theorem d_M_ring_264 : decode b_M_ring 264 = .ok (.istore 9, 2) := by decide +kernel
theorem d_M_ring_266 : decode b_M_ring 266 = .ok (.iinc 10 (-1), 3) := by decide +kernel
theorem d_M_ring_269 : decode b_M_ring 269 = .ok (.goto (-103), 3) := by decide +kernel
theorem d_M_ring_272 : decode b_M_ring 272 = .ok (.iload 6, 2) := by decide +kernel
theorem d_M_ring_274 : decode b_M_ring 274 = .ok (.ifCond .ne 20, 3) := by decide +kernel
theorem d_M_ring_277 : decode b_M_ring 277 = .ok (.aload_n 0, 1) := by decide +kernel
theorem d_M_ring_278 : decode b_M_ring 278 = .ok (.getfield 85, 3) := by decide +kernel
theorem d_M_ring_281 : decode b_M_ring 281 = .ok (.bipush 10, 2) := by decide +kernel
theorem d_M_ring_283 : decode b_M_ring 283 = .ok (.iload 5, 2) := by decide +kernel
theorem d_M_ring_285 : decode b_M_ring 285 = .ok (.imul, 1) := by decide +kernel
theorem d_M_ring_286 : decode b_M_ring 286 = .ok (.iload 9, 2) := by decide +kernel
theorem d_M_ring_288 : decode b_M_ring 288 = .ok (.iadd, 1) := by decide +kernel
theorem d_M_ring_289 : decode b_M_ring 289 = .ok (.iaload, 1) := by decide +kernel
theorem d_M_ring_290 : decode b_M_ring 290 = .ok (.iconst 2, 1) := by decide +kernel
theorem d_M_ring_291 : decode b_M_ring 291 = .ok (.if_icmp .ne 7, 3) := by decide +kernel
theorem d_M_ring_294 : decode b_M_ring 294 = .ok (.iconst 1, 1) := by decide +kernel
theorem d_M_ring_295 : decode b_M_ring 295 = .ok (.goto 4, 3) := by decide +kernel
theorem d_M_ring_298 : decode b_M_ring 298 = .ok (.iconst 0, 1) := by decide +kernel
theorem d_M_ring_299 : decode b_M_ring 299 = .ok (.istore 6, 2) := by decide +kernel
theorem d_M_ring_301 : decode b_M_ring 301 = .ok (.iload 9, 2) := by decide +kernel
theorem d_M_ring_303 : decode b_M_ring 303 = .ok (.istore 5, 2) := by decide +kernel
theorem d_M_ring_305 : decode b_M_ring 305 = .ok (.iinc 7 1, 3) := by decide +kernel
theorem d_M_ring_308 : decode b_M_ring 308 = .ok (.goto (-163), 3) := by decide +kernel
theorem d_M_ring_311 : decode b_M_ring 311 = .ok (.iload 5, 2) := by decide +kernel
theorem d_M_ring_313 : decode b_M_ring 313 = .ok (.ireturn, 1) := by decide +kernel
theorem d_M_need_0 : decode b_M_need 0 = .ok (.iload_n 1, 1) := by decide +kernel
theorem d_M_need_1 : decode b_M_need 1 = .ok (.invokestatic 115, 3) := by decide +kernel
theorem d_M_need_4 : decode b_M_need 4 = .ok (.ifCond .eq 17, 3) := by decide +kernel
theorem d_M_need_7 : decode b_M_need 7 = .ok (.iload_n 2, 1) := by decide +kernel
theorem d_M_need_8 : decode b_M_need 8 = .ok (.invokestatic 98, 3) := by decide +kernel
theorem d_M_need_11 : decode b_M_need 11 = .ok (.ifCond .eq 10, 3) := by decide +kernel
theorem d_M_need_14 : decode b_M_need 14 = .ok (.iload_n 3, 1) := by decide +kernel
theorem d_M_need_15 : decode b_M_need 15 = .ok (.invokestatic 98, 3) := by decide +kernel
theorem d_M_need_18 : decode b_M_need 18 = .ok (.ifCond .ne 7, 3) := by decide +kernel
theorem d_M_need_21 : decode b_M_need 21 = .ok (.sipush (-1001), 3) := by decide +kernel
theorem d_M_need_24 : decode b_M_need 24 = .ok (.ireturn, 1) := by decide +kernel
theorem d_M_need_25 : decode b_M_need 25 = .ok (.iload 4, 2) := by decide +kernel
theorem d_M_need_27 : decode b_M_need 27 = .ok (.i2l, 1) := by decide +kernel
theorem d_M_need_28 : decode b_M_need 28 = .ok (.lconst 0, 1) := by decide +kernel
theorem d_M_need_29 : decode b_M_need 29 = .ok (.ldc2_w 107, 3) := by decide +kernel
theorem d_M_need_32 : decode b_M_need 32 = .ok (.invokestatic 90, 3) := by decide +kernel
theorem d_M_need_35 : decode b_M_need 35 = .ok (.ifCond .ne 7, 3) := by decide +kernel
theorem d_M_need_38 : decode b_M_need 38 = .ok (.sipush (-1002), 3) := by decide +kernel
theorem d_M_need_41 : decode b_M_need 41 = .ok (.ireturn, 1) := by decide +kernel
theorem d_M_need_42 : decode b_M_need 42 = .ok (.aload_n 0, 1) := by decide +kernel
theorem d_M_need_43 : decode b_M_need 43 = .ok (.iload_n 1, 1) := by decide +kernel
theorem d_M_need_44 : decode b_M_need 44 = .ok (.iload_n 2, 1) := by decide +kernel
theorem d_M_need_45 : decode b_M_need 45 = .ok (.iload_n 2, 1) := by decide +kernel
theorem d_M_need_46 : decode b_M_need 46 = .ok (.bipush 31, 2) := by decide +kernel
theorem d_M_need_48 : decode b_M_need 48 = .ok (.invokevirtual 118, 3) := by decide +kernel
theorem d_M_need_51 : decode b_M_need 51 = .ok (.istore 5, 2) := by decide +kernel
theorem d_M_need_53 : decode b_M_need 53 = .ok (.iload 5, 2) := by decide +kernel
theorem d_M_need_55 : decode b_M_need 55 = .ok (.ifCond .gt 7, 3) := by decide +kernel
theorem d_M_need_58 : decode b_M_need 58 = .ok (.sipush (-1003), 3) := by decide +kernel
theorem d_M_need_61 : decode b_M_need 61 = .ok (.ireturn, 1) := by decide +kernel
theorem d_M_need_62 : decode b_M_need 62 = .ok (.aload_n 0, 1) := by decide +kernel
theorem d_M_need_63 : decode b_M_need 63 = .ok (.iload_n 1, 1) := by decide +kernel
theorem d_M_need_64 : decode b_M_need 64 = .ok (.invokevirtual 354, 3) := by decide +kernel
theorem d_M_need_67 : decode b_M_need 67 = .ok (.iconst (-1), 1) := by decide +kernel
theorem d_M_need_68 : decode b_M_need 68 = .ok (.istore 6, 2) := by decide +kernel
theorem d_M_need_70 : decode b_M_need 70 = .ok (.iconst 0, 1) := by decide +kernel
theorem d_M_need_71 : decode b_M_need 71 = .ok (.istore 7, 2) := by decide +kernel
theorem d_M_need_73 : decode b_M_need 73 = .ok (.iconst 0, 1) := by decide +kernel
theorem d_M_need_74 : decode b_M_need 74 = .ok (.istore 8, 2) := by decide +kernel
theorem d_M_need_76 : decode b_M_need 76 = .ok (.iload 8, 2) := by decide +kernel
theorem d_M_need_78 : decode b_M_need 78 = .ok (.bipush 8, 2) := by decide +kernel
theorem d_M_need_80 : decode b_M_need 80 = .ok (.if_icmp .ge 107, 3) := by decide +kernel
theorem d_M_need_83 : decode b_M_need 83 = .ok (.iconst 0, 1) := by decide +kernel
theorem d_M_need_84 : decode b_M_need 84 = .ok (.istore 9, 2) := by decide +kernel
theorem d_M_need_86 : decode b_M_need 86 = .ok (.iconst 0, 1) := by decide +kernel
theorem d_M_need_87 : decode b_M_need 87 = .ok (.istore 10, 2) := by decide +kernel
theorem d_M_need_89 : decode b_M_need 89 = .ok (.iload 10, 2) := by decide +kernel
theorem d_M_need_91 : decode b_M_need 91 = .ok (.bipush 8, 2) := by decide +kernel
theorem d_M_need_93 : decode b_M_need 93 = .ok (.if_icmp .gt 42, 3) := by decide +kernel
theorem d_M_need_96 : decode b_M_need 96 = .ok (.iload 9, 2) := by decide +kernel
theorem d_M_need_98 : decode b_M_need 98 = .ok (.ifCond .ne 24, 3) := by decide +kernel
theorem d_M_need_101 : decode b_M_need 101 = .ok (.aload_n 0, 1) := by decide +kernel
theorem d_M_need_102 : decode b_M_need 102 = .ok (.getfield 79, 3) := by decide +kernel
theorem d_M_need_105 : decode b_M_need 105 = .ok (.bipush 100, 2) := by decide +kernel
theorem d_M_need_107 : decode b_M_need 107 = .ok (.iload 10, 2) := by decide +kernel
theorem d_M_need_109 : decode b_M_need 109 = .ok (.imul, 1) := by decide +kernel
theorem d_M_need_110 : decode b_M_need 110 = .ok (.bipush 10, 2) := by decide +kernel
theorem d_M_need_112 : decode b_M_need 112 = .ok (.iload 8, 2) := by decide +kernel
theorem d_M_need_114 : decode b_M_need 114 = .ok (.imul, 1) := by decide +kernel
theorem d_M_need_115 : decode b_M_need 115 = .ok (.iadd, 1) := by decide +kernel
theorem d_M_need_116 : decode b_M_need 116 = .ok (.iload_n 2, 1) := by decide +kernel
theorem d_M_need_117 : decode b_M_need 117 = .ok (.iadd, 1) := by decide +kernel
theorem d_M_need_118 : decode b_M_need 118 = .ok (.baload, 1) := by decide +kernel
theorem d_M_need_119 : decode b_M_need 119 = .ok (.ifCond .eq 7, 3) := by decide +kernel
theorem d_M_need_122 : decode b_M_need 122 = .ok (.iconst 1, 1) := by decide +kernel
theorem d_M_need_123 : decode b_M_need 123 = .ok (.goto 4, 3) := by decide +kernel
theorem d_M_need_126 : decode b_M_need 126 = .ok (.iconst 0, 1) := by decide +kernel
theorem d_M_need_127 : decode b_M_need 127 = .ok (.istore 9, 2) := by decide +kernel
theorem d_M_need_129 : decode b_M_need 129 = .ok (.iinc 10 1, 3) := by decide +kernel
theorem d_M_need_132 : decode b_M_need 132 = .ok (.goto (-43), 3) := by decide +kernel
theorem d_M_need_135 : decode b_M_need 135 = .ok (.iload 9, 2) := by decide +kernel
theorem d_M_need_137 : decode b_M_need 137 = .ok (.ifCond .eq 16, 3) := by decide +kernel
theorem d_M_need_140 : decode b_M_need 140 = .ok (.aload_n 0, 1) := by decide +kernel
theorem d_M_need_141 : decode b_M_need 141 = .ok (.iload_n 1, 1) := by decide +kernel
theorem d_M_need_142 : decode b_M_need 142 = .ok (.iload_n 3, 1) := by decide +kernel
theorem d_M_need_143 : decode b_M_need 143 = .ok (.iload 8, 2) := by decide +kernel
theorem d_M_need_145 : decode b_M_need 145 = .ok (.bipush 31, 2) := by decide +kernel
theorem d_M_need_147 : decode b_M_need 147 = .ok (.invokevirtual 118, 3) := by decide +kernel
theorem d_M_need_150 : decode b_M_need 150 = .ok (.goto 4, 3) := by decide +kernel
theorem d_M_need_153 : decode b_M_need 153 = .ok (.iconst (-1), 1) := by decide +kernel
theorem d_M_need_154 : decode b_M_need 154 = .ok (.istore 10, 2) := by decide +kernel
theorem d_M_need_156 : decode b_M_need 156 = .ok (.iload 10, 2) := by decide +kernel
theorem d_M_need_158 : decode b_M_need 158 = .ok (.ifCond .lt 23, 3) := by decide +kernel
theorem d_M_need_161 : decode b_M_need 161 = .ok (.iload 6, 2) := by decide +kernel
theorem d_M_need_163 : decode b_M_need 163 = .ok (.ifCond .lt 10, 3) := by decide +kernel
theorem d_M_need_166 : decode b_M_need 166 = .ok (.iload 10, 2) := by decide +kernel
theorem d_M_need_168 : decode b_M_need 168 = .ok (.iload 7, 2) := by decide +kernel
theorem d_M_need_170 : decode b_M_need 170 = .ok (.if_icmp .ge 11, 3) := by decide +kernel
theorem d_M_need_173 : decode b_M_need 173 = .ok (.iload 8, 2) := by decide +kernel
theorem d_M_need_175 : decode b_M_need 175 = .ok (.istore 6, 2) := by decide +kernel
theorem d_M_need_177 : decode b_M_need 177 = .ok (.iload 10, 2) := by decide +kernel
theorem d_M_need_179 : decode b_M_need 179 = .ok (.istore 7, 2) := by decide +kernel
theorem d_M_need_181 : decode b_M_need 181 = .ok (.iinc 8 1, 3) := by decide +kernel
theorem d_M_need_184 : decode b_M_need 184 = .ok (.goto (-108), 3) := by decide +kernel
theorem d_M_need_187 : decode b_M_need 187 = .ok (.iload 6, 2) := by decide +kernel
theorem d_M_need_189 : decode b_M_need 189 = .ok (.ifCond .ge 7, 3) := by decide +kernel
theorem d_M_need_192 : decode b_M_need 192 = .ok (.sipush (-1003), 3) := by decide +kernel
theorem d_M_need_195 : decode b_M_need 195 = .ok (.ireturn, 1) := by decide +kernel
theorem d_M_need_196 : decode b_M_need 196 = .ok (.iload 7, 2) := by decide +kernel
theorem d_M_need_198 : decode b_M_need 198 = .ok (.i2l, 1) := by decide +kernel
theorem d_M_need_199 : decode b_M_need 199 = .ok (.iload 5, 2) := by decide +kernel
theorem d_M_need_201 : decode b_M_need 201 = .ok (.i2l, 1) := by decide +kernel
theorem d_M_need_202 : decode b_M_need 202 = .ok (.invokestatic 197, 3) := by decide +kernel
theorem d_M_need_205 : decode b_M_need 205 = .ok (.l2i, 1) := by decide +kernel
theorem d_M_need_206 : decode b_M_need 206 = .ok (.istore 8, 2) := by decide +kernel
theorem d_M_need_208 : decode b_M_need 208 = .ok (.iload 4, 2) := by decide +kernel
theorem d_M_need_210 : decode b_M_need 210 = .ok (.ifCond .ne 11, 3) := by decide +kernel
theorem d_M_need_213 : decode b_M_need 213 = .ok (.iload 7, 2) := by decide +kernel
theorem d_M_need_215 : decode b_M_need 215 = .ok (.iload 8, 2) := by decide +kernel
theorem d_M_need_217 : decode b_M_need 217 = .ok (.idiv, 1) := by decide +kernel
theorem d_M_need_218 : decode b_M_need 218 = .ok (.goto 19, 3) := by decide +kernel
theorem d_M_need_221 : decode b_M_need 221 = .ok (.iload 4, 2) := by decide +kernel
theorem d_M_need_223 : decode b_M_need 223 = .ok (.iconst 1, 1) := by decide +kernel
theorem d_M_need_224 : decode b_M_need 224 = .ok (.if_icmp .ne 11, 3) := by decide +kernel
theorem d_M_need_227 : decode b_M_need 227 = .ok (.iload 5, 2) := by decide +kernel
theorem d_M_need_229 : decode b_M_need 229 = .ok (.iload 8, 2) := by decide +kernel
theorem d_M_need_231 : decode b_M_need 231 = .ok (.idiv, 1) := by decide +kernel
theorem d_M_need_232 : decode b_M_need 232 = .ok (.goto 5, 3) := by decide +kernel
theorem d_M_need_235 : decode b_M_need 235 = .ok (.iload 6, 2) := by decide +kernel
theorem d_M_need_237 : decode b_M_need 237 = .ok (.ireturn, 1) := by decide +kernel
theorem d_M_part_0 : decode b_M_part 0 = .ok (.iload_n 1, 1) := by decide +kernel
theorem d_M_part_1 : decode b_M_part 1 = .ok (.invokestatic 115, 3) := by decide +kernel
theorem d_M_part_4 : decode b_M_part 4 = .ok (.ifCond .eq 25, 3) := by decide +kernel
theorem d_M_part_7 : decode b_M_part 7 = .ok (.iload_n 2, 1) := by decide +kernel
theorem d_M_part_8 : decode b_M_part 8 = .ok (.invokestatic 102, 3) := by decide +kernel
theorem d_M_part_11 : decode b_M_part 11 = .ok (.ifCond .eq 18, 3) := by decide +kernel
theorem d_M_part_14 : decode b_M_part 14 = .ok (.iload_n 3, 1) := by decide +kernel
theorem d_M_part_15 : decode b_M_part 15 = .ok (.invokestatic 98, 3) := by decide +kernel
theorem d_M_part_18 : decode b_M_part 18 = .ok (.ifCond .eq 11, 3) := by decide +kernel
theorem d_M_part_21 : decode b_M_part 21 = .ok (.iload 4, 2) := by decide +kernel
theorem d_M_part_23 : decode b_M_part 23 = .ok (.invokestatic 98, 3) := by decide +kernel
theorem d_M_part_26 : decode b_M_part 26 = .ok (.ifCond .ne 7, 3) := by decide +kernel
theorem d_M_part_29 : decode b_M_part 29 = .ok (.sipush (-1001), 3) := by decide +kernel
theorem d_M_part_32 : decode b_M_part 32 = .ok (.ireturn, 1) := by decide +kernel
theorem d_M_part_33 : decode b_M_part 33 = .ok (.iload 5, 2) := by decide +kernel
theorem d_M_part_35 : decode b_M_part 35 = .ok (.i2l, 1) := by decide +kernel
theorem d_M_part_36 : decode b_M_part 36 = .ok (.lconst 0, 1) := by decide +kernel
theorem d_M_part_37 : decode b_M_part 37 = .ok (.lconst 1, 1) := by decide +kernel
theorem d_M_part_38 : decode b_M_part 38 = .ok (.invokestatic 90, 3) := by decide +kernel
theorem d_M_part_41 : decode b_M_part 41 = .ok (.ifCond .ne 7, 3) := by decide +kernel
theorem d_M_part_44 : decode b_M_part 44 = .ok (.sipush (-1002), 3) := by decide +kernel
theorem d_M_part_47 : decode b_M_part 47 = .ok (.ireturn, 1) := by decide +kernel
theorem d_M_part_48 : decode b_M_part 48 = .ok (.aload_n 0, 1) := by decide +kernel
theorem d_M_part_49 : decode b_M_part 49 = .ok (.iload_n 1, 1) := by decide +kernel
theorem d_M_part_50 : decode b_M_part 50 = .ok (.iload_n 3, 1) := by decide +kernel
theorem d_M_part_51 : decode b_M_part 51 = .ok (.iload_n 3, 1) := by decide +kernel
theorem d_M_part_52 : decode b_M_part 52 = .ok (.bipush 31, 2) := by decide +kernel
theorem d_M_part_54 : decode b_M_part 54 = .ok (.invokevirtual 118, 3) := by decide +kernel
theorem d_M_part_57 : decode b_M_part 57 = .ok (.istore 6, 2) := by decide +kernel
theorem d_M_part_59 : decode b_M_part 59 = .ok (.aload_n 0, 1) := by decide +kernel
theorem d_M_part_60 : decode b_M_part 60 = .ok (.iload_n 1, 1) := by decide +kernel
theorem d_M_part_61 : decode b_M_part 61 = .ok (.iload_n 3, 1) := by decide +kernel
theorem d_M_part_62 : decode b_M_part 62 = .ok (.iload_n 2, 1) := by decide +kernel
theorem d_M_part_63 : decode b_M_part 63 = .ok (.invokevirtual 111, 3) := by decide +kernel
theorem d_M_part_66 : decode b_M_part 66 = .ok (.istore 7, 2) := by decide +kernel
theorem d_M_part_68 : decode b_M_part 68 = .ok (.iload 6, 2) := by decide +kernel
theorem d_M_part_70 : decode b_M_part 70 = .ok (.ifCond .le 35, 3) := by decide +kernel
theorem d_M_part_73 : decode b_M_part 73 = .ok (.iload 7, 2) := by decide +kernel
theorem d_M_part_75 : decode b_M_part 75 = .ok (.ifCond .le 34, 3) := by decide +kernel
theorem d_M_part_78 : decode b_M_part 78 = .ok (.aload_n 0, 1) := by decide +kernel
theorem d_M_part_79 : decode b_M_part 79 = .ok (.getfield 7, 3) := by decide +kernel
theorem d_M_part_82 : decode b_M_part 82 = .ok (.iconst 5, 1) := by decide +kernel
theorem d_M_part_83 : decode b_M_part 83 = .ok (.iload_n 3, 1) := by decide +kernel
theorem d_M_part_84 : decode b_M_part 84 = .ok (.imul, 1) := by decide +kernel
theorem d_M_part_85 : decode b_M_part 85 = .ok (.iload_n 2, 1) := by decide +kernel
theorem d_M_part_86 : decode b_M_part 86 = .ok (.iadd, 1) := by decide +kernel
theorem d_M_part_87 : decode b_M_part 87 = .ok (.iaload, 1) := by decide +kernel
theorem d_M_part_88 : decode b_M_part 88 = .ok (.ifCond .eq 17, 3) := by decide +kernel
theorem d_M_part_91 : decode b_M_part 91 = .ok (.aload_n 0, 1) := by decide +kernel
theorem d_M_part_92 : decode b_M_part 92 = .ok (.getfield 7, 3) := by decide +kernel
theorem d_M_part_95 : decode b_M_part 95 = .ok (.iconst 5, 1) := by decide +kernel
theorem d_M_part_96 : decode b_M_part 96 = .ok (.iload 4, 2) := by decide +kernel
theorem d_M_part_98 : decode b_M_part 98 = .ok (.imul, 1) := by decide +kernel
theorem d_M_part_99 : decode b_M_part 99 = .ok (.iload_n 2, 1) := by decide +kernel
theorem d_M_part_100 : decode b_M_part 100 = .ok (.iadd, 1) := by decide +kernel
theorem d_M_part_101 : decode b_M_part 101 = .ok (.iaload, 1) := by decide +kernel
theorem d_M_part_102 : decode b_M_part 102 = .ok (.ifCond .ne 7, 3) := by decide +kernel
theorem d_M_part_105 : decode b_M_part 105 = .ok (.sipush (-1003), 3) := by decide +kernel
theorem d_M_part_108 : decode b_M_part 108 = .ok (.ireturn, 1) := by decide +kernel
theorem d_M_part_109 : decode b_M_part 109 = .ok (.aload_n 0, 1) := by decide +kernel
theorem d_M_part_110 : decode b_M_part 110 = .ok (.getfield 7, 3) := by decide +kernel
theorem d_M_part_113 : decode b_M_part 113 = .ok (.iconst 5, 1) := by decide +kernel
theorem d_M_part_114 : decode b_M_part 114 = .ok (.iload 4, 2) := by decide +kernel
theorem d_M_part_116 : decode b_M_part 116 = .ok (.imul, 1) := by decide +kernel
theorem d_M_part_117 : decode b_M_part 117 = .ok (.iload_n 2, 1) := by decide +kernel
theorem d_M_part_118 : decode b_M_part 118 = .ok (.iadd, 1) := by decide +kernel
theorem d_M_part_119 : decode b_M_part 119 = .ok (.iaload, 1) := by decide +kernel
theorem d_M_part_120 : decode b_M_part 120 = .ok (.aload_n 0, 1) := by decide +kernel
theorem d_M_part_121 : decode b_M_part 121 = .ok (.getfield 7, 3) := by decide +kernel
theorem d_M_part_124 : decode b_M_part 124 = .ok (.iconst 5, 1) := by decide +kernel
theorem d_M_part_125 : decode b_M_part 125 = .ok (.iload_n 3, 1) := by decide +kernel
theorem d_M_part_126 : decode b_M_part 126 = .ok (.imul, 1) := by decide +kernel
theorem d_M_part_127 : decode b_M_part 127 = .ok (.iload_n 2, 1) := by decide +kernel
theorem d_M_part_128 : decode b_M_part 128 = .ok (.iadd, 1) := by decide +kernel
theorem d_M_part_129 : decode b_M_part 129 = .ok (.iaload, 1) := by decide +kernel
theorem d_M_part_130 : decode b_M_part 130 = .ok (.isub, 1) := by decide +kernel
theorem d_M_part_131 : decode b_M_part 131 = .ok (.iload 7, 2) := by decide +kernel
theorem d_M_part_133 : decode b_M_part 133 = .ok (.imul, 1) := by decide +kernel
theorem d_M_part_134 : decode b_M_part 134 = .ok (.istore 8, 2) := by decide +kernel
theorem d_M_part_136 : decode b_M_part 136 = .ok (.iload 8, 2) := by decide +kernel
theorem d_M_part_138 : decode b_M_part 138 = .ok (.i2l, 1) := by decide +kernel
theorem d_M_part_139 : decode b_M_part 139 = .ok (.iload 6, 2) := by decide +kernel
theorem d_M_part_141 : decode b_M_part 141 = .ok (.i2l, 1) := by decide +kernel
theorem d_M_part_142 : decode b_M_part 142 = .ok (.invokestatic 197, 3) := by decide +kernel
theorem d_M_part_145 : decode b_M_part 145 = .ok (.l2i, 1) := by decide +kernel
theorem d_M_part_146 : decode b_M_part 146 = .ok (.istore 9, 2) := by decide +kernel
theorem d_M_part_148 : decode b_M_part 148 = .ok (.iload 5, 2) := by decide +kernel
theorem d_M_part_150 : decode b_M_part 150 = .ok (.ifCond .ne 11, 3) := by decide +kernel
theorem d_M_part_153 : decode b_M_part 153 = .ok (.iload 8, 2) := by decide +kernel
theorem d_M_part_155 : decode b_M_part 155 = .ok (.iload 9, 2) := by decide +kernel
theorem d_M_part_157 : decode b_M_part 157 = .ok (.idiv, 1) := by decide +kernel
theorem d_M_part_158 : decode b_M_part 158 = .ok (.goto 8, 3) := by decide +kernel
theorem d_M_part_161 : decode b_M_part 161 = .ok (.iload 6, 2) := by decide +kernel
theorem d_M_part_163 : decode b_M_part 163 = .ok (.iload 9, 2) := by decide +kernel
theorem d_M_part_165 : decode b_M_part 165 = .ok (.idiv, 1) := by decide +kernel
theorem d_M_part_166 : decode b_M_part 166 = .ok (.ireturn, 1) := by decide +kernel
theorem d_M_rootOf_0 : decode b_M_rootOf 0 = .ok (.lconst 0, 1) := by decide +kernel
theorem d_M_rootOf_1 : decode b_M_rootOf 1 = .ok (.lstore_n 2, 1) := by decide +kernel
theorem d_M_rootOf_2 : decode b_M_rootOf 2 = .ok (.ldc2_w 357, 3) := by decide +kernel
theorem d_M_rootOf_5 : decode b_M_rootOf 5 = .ok (.lstore 4, 2) := by decide +kernel
theorem d_M_rootOf_7 : decode b_M_rootOf 7 = .ok (.lload 4, 2) := by decide +kernel
theorem d_M_rootOf_9 : decode b_M_rootOf 9 = .ok (.lload_n 2, 1) := by decide +kernel
theorem d_M_rootOf_10 : decode b_M_rootOf 10 = .ok (.lsub, 1) := by decide +kernel
theorem d_M_rootOf_11 : decode b_M_rootOf 11 = .ok (.lconst 1, 1) := by decide +kernel
theorem d_M_rootOf_12 : decode b_M_rootOf 12 = .ok (.lcmp, 1) := by decide +kernel
theorem d_M_rootOf_13 : decode b_M_rootOf 13 = .ok (.ifCond .le 59, 3) := by decide +kernel
theorem d_M_rootOf_16 : decode b_M_rootOf 16 = .ok (.lload_n 2, 1) := by decide +kernel
theorem d_M_rootOf_17 : decode b_M_rootOf 17 = .ok (.lload 4, 2) := by decide +kernel
theorem d_M_rootOf_19 : decode b_M_rootOf 19 = .ok (.ladd, 1) := by decide +kernel
theorem d_M_rootOf_20 : decode b_M_rootOf 20 = .ok (.ldc2_w 107, 3) := by decide +kernel
theorem d_M_rootOf_23 : decode b_M_rootOf 23 = .ok (.ldiv, 1) := by decide +kernel
theorem d_M_rootOf_24 : decode b_M_rootOf 24 = .ok (.lstore 6, 2) := by decide +kernel
theorem d_M_rootOf_26 : decode b_M_rootOf 26 = .ok (.lload 6, 2) := by decide +kernel
theorem d_M_rootOf_28 : decode b_M_rootOf 28 = .ok (.lload 6, 2) := by decide +kernel
theorem d_M_rootOf_30 : decode b_M_rootOf 30 = .ok (.lmul, 1) := by decide +kernel
theorem d_M_rootOf_31 : decode b_M_rootOf 31 = .ok (.lload_n 0, 1) := by decide +kernel
theorem d_M_rootOf_32 : decode b_M_rootOf 32 = .ok (.lcmp, 1) := by decide +kernel
theorem d_M_rootOf_33 : decode b_M_rootOf 33 = .ok (.ifCond .gt 7, 3) := by decide +kernel
theorem d_M_rootOf_36 : decode b_M_rootOf 36 = .ok (.iconst 1, 1) := by decide +kernel
theorem d_M_rootOf_37 : decode b_M_rootOf 37 = .ok (.goto 4, 3) := by decide +kernel
theorem d_M_rootOf_40 : decode b_M_rootOf 40 = .ok (.iconst 0, 1) := by decide +kernel
theorem d_M_rootOf_41 : decode b_M_rootOf 41 = .ok (.istore 8, 2) := by decide +kernel
theorem d_M_rootOf_43 : decode b_M_rootOf 43 = .ok (.iload 8, 2) := by decide +kernel
theorem d_M_rootOf_45 : decode b_M_rootOf 45 = .ok (.ifCond .eq 8, 3) := by decide +kernel
theorem d_M_rootOf_48 : decode b_M_rootOf 48 = .ok (.lload 6, 2) := by decide +kernel
theorem d_M_rootOf_50 : decode b_M_rootOf 50 = .ok (.goto 4, 3) := by decide +kernel
theorem d_M_rootOf_53 : decode b_M_rootOf 53 = .ok (.lload_n 2, 1) := by decide +kernel
theorem d_M_rootOf_54 : decode b_M_rootOf 54 = .ok (.lstore_n 2, 1) := by decide +kernel
theorem d_M_rootOf_55 : decode b_M_rootOf 55 = .ok (.iload 8, 2) := by decide +kernel
theorem d_M_rootOf_57 : decode b_M_rootOf 57 = .ok (.ifCond .eq 8, 3) := by decide +kernel
theorem d_M_rootOf_60 : decode b_M_rootOf 60 = .ok (.lload 4, 2) := by decide +kernel
theorem d_M_rootOf_62 : decode b_M_rootOf 62 = .ok (.goto 5, 3) := by decide +kernel
theorem d_M_rootOf_65 : decode b_M_rootOf 65 = .ok (.lload 6, 2) := by decide +kernel
theorem d_M_rootOf_67 : decode b_M_rootOf 67 = .ok (.lstore 4, 2) := by decide +kernel
theorem d_M_rootOf_69 : decode b_M_rootOf 69 = .ok (.goto (-62), 3) := by decide +kernel
theorem d_M_rootOf_72 : decode b_M_rootOf 72 = .ok (.lload_n 2, 1) := by decide +kernel
theorem d_M_rootOf_73 : decode b_M_rootOf 73 = .ok (.lreturn, 1) := by decide +kernel
def f_M_drift_332 (this : Nat) (s0 : Int32) (x5 : Int32) (h : Hp) : Option ((Int64 × Hp)) :=
  if 0 ≤ s0 then
    if x5 = 0 then
      (gL h this 8 14).bind fun l3 =>
      some (l3, h)
    else
    (gL h this 8 15).bind fun l1 =>
    some (l1, h)
  else
  some ((s0).toInt64, h)
set_option maxRecDepth 100000 in
set_option maxHeartbeats 4000000 in
theorem w_M_drift_332 {p : Program} {l : Launch} {e : Env} {s : State} {m : MethodId} {args : Array Value} {below : List Frame} {meth : Method} {c : Code} {N0 : Nat} {D : va_G} {cs : Nat → ClassId} (M : ZC p s m args meth c "YearBasketsModel" "drift" b_M_drift 10 (some .long) N0 D cs) (this : Nat)  {r0 : Int64} {h0 : Hp}  (s0 : Int32) (x5 : Int32) (h : Hp) (hf : f_M_drift_332 this s0 x5 h = some (r0, h0)) : ZG p l e (zrm 9 0 0) s m args below meth c N0 D cs (some (.long r0)) h0 h 10 [(0, .ref this), (5, .int x5)] 332 [.int s0] := by
  intro H locs ls hH hS hl
  unfold f_M_drift_332 at hf
  refine lv_istore (lv' := [(6, .int s0), (0, .ref this), (5, .int x5)]) M.x M.b d_M_drift_332 hl (by decide) rfl (fun ls hl => ?_)
  refine lv_iload M.x M.b d_M_drift_334 (lv_at hl 0 rfl) ?_
  refine lv_if_ge (tgt := 345) M.x M.b d_M_drift_336 (by decide) (fun c6 => ?_) (fun c6 => ?_)
  · replace hf := z_t c6 hf
    refine lv_iload M.x M.b d_M_drift_345 (lv_at hl 2 rfl) ?_
    refine lv_if_ne (tgt := 357) M.x M.b d_M_drift_347 (by decide) (fun c5 => ?_) (fun c5 => ?_)
    · replace hf := z_f c5 hf
      refine lv_aload_n M.x M.b d_M_drift_357 rfl (lv_at hl 1 rfl) ?_
      replace hf := z_bind hf; obtain ⟨l1, e2, hf⟩ := hf
      refine z_get (ci := 8) (k := 15) M hH rfl (by decide) zinM q_667 (gL_spec e2) d_M_drift_358 ?_
      obtain ⟨rfl, rfl⟩ := z_r2 hf
      exact z_lret M hH hS d_M_drift_361
    · replace hf := z_t c5 hf
      refine lv_aload_n M.x M.b d_M_drift_350 rfl (lv_at hl 1 rfl) ?_
      replace hf := z_bind hf; obtain ⟨l3, e4, hf⟩ := hf
      refine z_get (ci := 8) (k := 14) M hH rfl (by decide) zinM q_668 (gL_spec e4) d_M_drift_351 ?_
      refine lv_goto (tgt := 361) M.x M.b d_M_drift_354 (by decide) ?_
      obtain ⟨rfl, rfl⟩ := z_r2 hf
      exact z_lret M hH hS d_M_drift_361
  · replace hf := z_f c6 hf
    refine lv_iload M.x M.b d_M_drift_339 (lv_at hl 0 rfl) ?_
    refine lv_i2l M.x M.b d_M_drift_341 rfl ?_
    refine lv_goto (tgt := 361) M.x M.b d_M_drift_342 (by decide) ?_
    obtain ⟨rfl, rfl⟩ := z_r2 hf
    exact z_lret M hH hS d_M_drift_361
def f_M_drift_297 (this : Nat) (x5 : Int32) (h : Hp) : Option ((Int64 × Hp)) :=
  f_M_drift_332 this (-1003 : Int32) x5 h
set_option maxRecDepth 100000 in
set_option maxHeartbeats 4000000 in
theorem w_M_drift_297 {p : Program} {l : Launch} {e : Env} {s : State} {m : MethodId} {args : Array Value} {below : List Frame} {meth : Method} {c : Code} {N0 : Nat} {D : va_G} {cs : Nat → ClassId} (M : ZC p s m args meth c "YearBasketsModel" "drift" b_M_drift 10 (some .long) N0 D cs) (this : Nat)  {r0 : Int64} {h0 : Hp}  (x5 : Int32) (h : Hp) (hf : f_M_drift_297 this x5 h = some (r0, h0)) : ZG p l e (zrm 9 0 0) s m args below meth c N0 D cs (some (.long r0)) h0 h 10 [(0, .ref this), (5, .int x5)] 297 [] := by
  intro H locs ls hH hS hl
  unfold f_M_drift_297 at hf
  refine lv_sipush (v := (-1003 : Int32)) M.x M.b d_M_drift_297 rfl ?_
  refine lv_goto (tgt := 332) M.x M.b d_M_drift_300 (by decide) ?_
  exact w_M_drift_332 M this _ _ _ hf H locs ls hH hS (lv_sub hl [0, 1] rfl)
def f_M_drift_256 (this : Nat) (s0 : Int32) (x5 : Int32) (h : Hp) : Option ((Int64 × Hp)) :=
  if 0 ≤ s0 then
    (gA h this 8 30).bind fun r7 =>
    (r7).bind fun a9 =>
    (aI h 2 a9 (0 : Int32)).bind fun i12 =>
    if i12 = 0 then
      (gA h this 8 30).bind fun r13 =>
      (r13).bind fun a15 =>
      (aI h 2 a15 (1 : Int32)).bind fun i18 =>
      if i18 = 0 then
        (gA h this 8 28).bind fun r19 =>
        (r19).bind fun a21 =>
        (aL h a21 (1 : Int32)).bind fun l24 =>
        if l24 = (0 : Int64) then
          f_M_drift_297 this x5 h
        else
        (gA h this 8 28).bind fun r25 =>
        (r25).bind fun a27 =>
        (aL h a27 (0 : Int32)).bind fun l30 =>
        (gA h this 8 29).bind fun r31 =>
        (r31).bind fun a33 =>
        (aL h a33 (0 : Int32)).bind fun l36 =>
        (gA h this 8 29).bind fun r37 =>
        (r37).bind fun a39 =>
        (aL h a39 (1 : Int32)).bind fun l42 =>
        (gA h this 8 28).bind fun r43 =>
        (r43).bind fun a45 =>
        (aL h a45 (1 : Int32)).bind fun l48 =>
        zb2 (f_M_multiply this l30 l36 l42 l48 (0 : Int32) h) fun i50 h51 =>
        f_M_drift_332 this i50 x5 h51
      else
      f_M_drift_297 this x5 h
    else
    f_M_drift_297 this x5 h
  else
  f_M_drift_332 this s0 x5 h
set_option maxRecDepth 100000 in
set_option maxHeartbeats 4000000 in
theorem w_M_drift_256 {p : Program} {l : Launch} {e : Env} {s : State} {m : MethodId} {args : Array Value} {below : List Frame} {meth : Method} {c : Code} {N0 : Nat} {D : va_G} {cs : Nat → ClassId} (M : ZC p s m args meth c "YearBasketsModel" "drift" b_M_drift 10 (some .long) N0 D cs) (this : Nat)  {r0 : Int64} {h0 : Hp}  (s0 : Int32) (x5 : Int32) (h : Hp) (hf : f_M_drift_256 this s0 x5 h = some (r0, h0)) : ZG p l e (zrm 9 0 0) s m args below meth c N0 D cs (some (.long r0)) h0 h 10 [(0, .ref this), (5, .int x5)] 256 [.int s0] := by
  intro H locs ls hH hS hl
  unfold f_M_drift_256 at hf
  refine lv_istore (lv' := [(6, .int s0), (0, .ref this), (5, .int x5)]) M.x M.b d_M_drift_256 hl (by decide) rfl (fun ls hl => ?_)
  refine lv_iload M.x M.b d_M_drift_258 (lv_at hl 0 rfl) ?_
  refine lv_if_ge (tgt := 268) M.x M.b d_M_drift_260 (by decide) (fun c55 => ?_) (fun c55 => ?_)
  · replace hf := z_t c55 hf
    refine lv_aload_n M.x M.b d_M_drift_268 rfl (lv_at hl 1 rfl) ?_
    replace hf := z_bind hf; obtain ⟨r7, e8, hf⟩ := hf
    refine z_get (ci := 8) (k := 30) M hH rfl (by decide) zinM q_746 (gA_spec e8) d_M_drift_269 ?_
    refine lv_iconst (v := (0 : Int32)) M.x M.b d_M_drift_272 rfl ?_
    rcases r7 with _ | a9
    · exact absurd hf z_nb0
    replace hf := z_sb hf
    replace hf := z_bind hf; obtain ⟨i12, e11, hf⟩ := hf
    refine z_zald M hH e11 d_M_drift_273 ?_
    refine lv_if_ne (tgt := 297) M.x M.b d_M_drift_274 (by decide) (fun c54 => ?_) (fun c54 => ?_)
    · replace hf := z_f c54 hf
      exact w_M_drift_297 M this _ _ hf H locs ls hH hS (lv_sub hl [1, 2] rfl)
    · replace hf := z_t c54 hf
      refine lv_aload_n M.x M.b d_M_drift_277 rfl (lv_at hl 1 rfl) ?_
      replace hf := z_bind hf; obtain ⟨r13, e14, hf⟩ := hf
      refine z_get (ci := 8) (k := 30) M hH rfl (by decide) zinM q_746 (gA_spec e14) d_M_drift_278 ?_
      refine lv_iconst (v := (1 : Int32)) M.x M.b d_M_drift_281 rfl ?_
      rcases r13 with _ | a15
      · exact absurd hf z_nb0
      replace hf := z_sb hf
      replace hf := z_bind hf; obtain ⟨i18, e17, hf⟩ := hf
      refine z_zald M hH e17 d_M_drift_282 ?_
      refine lv_if_ne (tgt := 297) M.x M.b d_M_drift_283 (by decide) (fun c53 => ?_) (fun c53 => ?_)
      · replace hf := z_f c53 hf
        exact w_M_drift_297 M this _ _ hf H locs ls hH hS (lv_sub hl [1, 2] rfl)
      · replace hf := z_t c53 hf
        refine lv_aload_n M.x M.b d_M_drift_286 rfl (lv_at hl 1 rfl) ?_
        replace hf := z_bind hf; obtain ⟨r19, e20, hf⟩ := hf
        refine z_get (ci := 8) (k := 28) M hH rfl (by decide) zinM q_748 (gA_spec e20) d_M_drift_287 ?_
        refine lv_iconst (v := (1 : Int32)) M.x M.b d_M_drift_290 rfl ?_
        rcases r19 with _ | a21
        · exact absurd hf z_nb0
        replace hf := z_sb hf
        replace hf := z_bind hf; obtain ⟨l24, e23, hf⟩ := hf
        refine z_lald M hH e23 d_M_drift_291 ?_
        refine lv_lconst (v := (0 : Int64)) M.x M.b d_M_drift_292 rfl ?_
        refine z_lcmp_ne (tgt := 303) M d_M_drift_293 d_M_drift_294 (by decide) (fun c52 => ?_) (fun c52 => ?_)
        · replace hf := z_f c52 hf
          refine lv_aload_n M.x M.b d_M_drift_303 rfl (lv_at hl 1 rfl) ?_
          refine lv_aload_n M.x M.b d_M_drift_304 rfl (lv_at hl 1 rfl) ?_
          replace hf := z_bind hf; obtain ⟨r25, e26, hf⟩ := hf
          refine z_get (ci := 8) (k := 28) M hH rfl (by decide) zinM q_748 (gA_spec e26) d_M_drift_305 ?_
          refine lv_iconst (v := (0 : Int32)) M.x M.b d_M_drift_308 rfl ?_
          rcases r25 with _ | a27
          · exact absurd hf z_nb0
          replace hf := z_sb hf
          replace hf := z_bind hf; obtain ⟨l30, e29, hf⟩ := hf
          refine z_lald M hH e29 d_M_drift_309 ?_
          refine lv_aload_n M.x M.b d_M_drift_310 rfl (lv_at hl 1 rfl) ?_
          replace hf := z_bind hf; obtain ⟨r31, e32, hf⟩ := hf
          refine z_get (ci := 8) (k := 29) M hH rfl (by decide) zinM q_747 (gA_spec e32) d_M_drift_311 ?_
          refine lv_iconst (v := (0 : Int32)) M.x M.b d_M_drift_314 rfl ?_
          rcases r31 with _ | a33
          · exact absurd hf z_nb0
          replace hf := z_sb hf
          replace hf := z_bind hf; obtain ⟨l36, e35, hf⟩ := hf
          refine z_lald M hH e35 d_M_drift_315 ?_
          refine lv_aload_n M.x M.b d_M_drift_316 rfl (lv_at hl 1 rfl) ?_
          replace hf := z_bind hf; obtain ⟨r37, e38, hf⟩ := hf
          refine z_get (ci := 8) (k := 29) M hH rfl (by decide) zinM q_747 (gA_spec e38) d_M_drift_317 ?_
          refine lv_iconst (v := (1 : Int32)) M.x M.b d_M_drift_320 rfl ?_
          rcases r37 with _ | a39
          · exact absurd hf z_nb0
          replace hf := z_sb hf
          replace hf := z_bind hf; obtain ⟨l42, e41, hf⟩ := hf
          refine z_lald M hH e41 d_M_drift_321 ?_
          refine lv_aload_n M.x M.b d_M_drift_322 rfl (lv_at hl 1 rfl) ?_
          replace hf := z_bind hf; obtain ⟨r43, e44, hf⟩ := hf
          refine z_get (ci := 8) (k := 28) M hH rfl (by decide) zinM q_748 (gA_spec e44) d_M_drift_323 ?_
          refine lv_iconst (v := (1 : Int32)) M.x M.b d_M_drift_326 rfl ?_
          rcases r43 with _ | a45
          · exact absurd hf z_nb0
          replace hf := z_sb hf
          replace hf := z_bind hf; obtain ⟨l48, e47, hf⟩ := hf
          refine z_lald M hH e47 d_M_drift_327 ?_
          refine lv_iconst (v := (0 : Int32)) M.x M.b d_M_drift_328 rfl ?_
          replace hf := z_bind2 hf; obtain ⟨i50, h51, e49, hf⟩ := hf
          refine zk_V (ci := 8) (st1 := [.int i50]) M hH hS (c_M_multiply e49) rfl (o_M_multiply e49) w_M_multiply q_682 [] rfl ⟨Nat.le_of_ble_eq_true rfl, Nat.le_of_ble_eq_true rfl⟩ hl.1 rfl rfl (Nat.le_of_ble_eq_true rfl) d_M_drift_329 (fun H locs hH hS => ?_)
          exact w_M_drift_332 M this _ _ _ hf H locs ls hH hS (lv_sub hl [1, 2] rfl)
        · replace hf := z_t c52 hf
          exact w_M_drift_297 M this _ _ hf H locs ls hH hS (lv_sub hl [1, 2] rfl)
  · replace hf := z_f c55 hf
    refine lv_iload M.x M.b d_M_drift_263 (lv_at hl 0 rfl) ?_
    refine lv_goto (tgt := 332) M.x M.b d_M_drift_265 (by decide) ?_
    exact w_M_drift_332 M this _ _ _ hf H locs ls hH hS (lv_sub hl [1, 2] rfl)
def f_M_drift_236 (this : Nat) (x1 : Int32) (x2 : Int32) (x3 : Int32) (x4 : Int32) (x5 : Int32) (x6 : Int32) (h : Hp) : Option ((Int64 × Hp)) :=
  if 0 ≤ x6 then
    zb2 (f_M_findKept this x1 x2 x3 x4 (1 : Int32) h) fun i57 h58 =>
    f_M_drift_256 this i57 x5 h58
  else
  f_M_drift_256 this x6 x5 h
set_option maxRecDepth 100000 in
set_option maxHeartbeats 4000000 in
theorem w_M_drift_236 {p : Program} {l : Launch} {e : Env} {s : State} {m : MethodId} {args : Array Value} {below : List Frame} {meth : Method} {c : Code} {N0 : Nat} {D : va_G} {cs : Nat → ClassId} (M : ZC p s m args meth c "YearBasketsModel" "drift" b_M_drift 10 (some .long) N0 D cs) (this : Nat)  {r0 : Int64} {h0 : Hp}  (x1 : Int32) (x2 : Int32) (x3 : Int32) (x4 : Int32) (x5 : Int32) (x6 : Int32) (h : Hp) (hf : f_M_drift_236 this x1 x2 x3 x4 x5 x6 h = some (r0, h0)) : ZG p l e (zrm 9 0 0) s m args below meth c N0 D cs (some (.long r0)) h0 h 10 [(0, .ref this), (1, .int x1), (2, .int x2), (3, .int x3), (4, .int x4), (5, .int x5), (6, .int x6)] 236 [] := by
  intro H locs ls hH hS hl
  unfold f_M_drift_236 at hf
  refine lv_iload M.x M.b d_M_drift_236 (lv_at hl 6 rfl) ?_
  refine lv_if_ge (tgt := 246) M.x M.b d_M_drift_238 (by decide) (fun c59 => ?_) (fun c59 => ?_)
  · replace hf := z_t c59 hf
    refine lv_aload_n M.x M.b d_M_drift_246 rfl (lv_at hl 0 rfl) ?_
    refine lv_iload_n M.x M.b d_M_drift_247 rfl (lv_at hl 1 rfl) ?_
    refine lv_iload_n M.x M.b d_M_drift_248 rfl (lv_at hl 2 rfl) ?_
    refine lv_iload_n M.x M.b d_M_drift_249 rfl (lv_at hl 3 rfl) ?_
    refine lv_iload M.x M.b d_M_drift_250 (lv_at hl 4 rfl) ?_
    refine lv_iconst (v := (1 : Int32)) M.x M.b d_M_drift_252 rfl ?_
    replace hf := z_bind2 hf; obtain ⟨i57, h58, e56, hf⟩ := hf
    refine zk_V (ci := 8) (st1 := [.int i57]) M hH hS (c_M_findKept e56) rfl (o_M_findKept e56) w_M_findKept q_760 [] rfl ⟨Nat.le_of_ble_eq_true rfl, Nat.le_of_ble_eq_true rfl⟩ hl.1 rfl rfl (Nat.le_of_ble_eq_true rfl) d_M_drift_253 (fun H locs hH hS => ?_)
    exact w_M_drift_256 M this _ _ _ hf H locs ls hH hS (lv_sub hl [0, 5] rfl)
  · replace hf := z_f c59 hf
    refine lv_iload M.x M.b d_M_drift_241 (lv_at hl 6 rfl) ?_
    refine lv_goto (tgt := 256) M.x M.b d_M_drift_243 (by decide) ?_
    exact w_M_drift_256 M this _ _ _ hf H locs ls hH hS (lv_sub hl [0, 5] rfl)
def f_M_drift_222 (this : Nat) (k66 : Int32 → Int32 → Int32 → Int32 → Int32 → Int32 → Int32 → Hp → Option ((Int64 × Hp))) (s0 : Int32) (x1 : Int32) (x2 : Int32) (x3 : Int32) (x4 : Int32) (x5 : Int32) (x8 : Int32) (h : Hp) : Option ((Int64 × Hp)) :=
  (f_M_keep this (0 : Int32) h).bind fun h61 =>
  k66 x1 x2 x3 x4 x5 s0 x8 h61
set_option maxRecDepth 100000 in
set_option maxHeartbeats 4000000 in
theorem w_M_drift_222 {p : Program} {l : Launch} {e : Env} {s : State} {m : MethodId} {args : Array Value} {below : List Frame} {meth : Method} {c : Code} {N0 : Nat} {D : va_G} {cs : Nat → ClassId} (M : ZC p s m args meth c "YearBasketsModel" "drift" b_M_drift 10 (some .long) N0 D cs) (this : Nat) (k66 : Int32 → Int32 → Int32 → Int32 → Int32 → Int32 → Int32 → Hp → Option ((Int64 × Hp))) {r0 : Int64} {h0 : Hp} (hk66 : ∀ (x1 : Int32) (x2 : Int32) (x3 : Int32) (x4 : Int32) (x5 : Int32) (x6 : Int32) (x7 : Int32) (h : Hp), k66 x1 x2 x3 x4 x5 x6 x7 h = some (r0, h0) → ZG p l e (zrm 9 0 0) s m args below meth c N0 D cs (some (.long r0)) h0 h 10 [(0, .ref this), (1, .int x1), (2, .int x2), (3, .int x3), (4, .int x4), (5, .int x5), (6, .int x6), (7, .int x7)] 66 []) (s0 : Int32) (x1 : Int32) (x2 : Int32) (x3 : Int32) (x4 : Int32) (x5 : Int32) (x8 : Int32) (h : Hp) (hf : f_M_drift_222 this k66 s0 x1 x2 x3 x4 x5 x8 h = some (r0, h0)) : ZG p l e (zrm 9 0 0) s m args below meth c N0 D cs (some (.long r0)) h0 h 10 [(0, .ref this), (1, .int x1), (2, .int x2), (3, .int x3), (4, .int x4), (5, .int x5), (8, .int x8)] 222 [.int s0] := by
  intro H locs ls hH hS hl
  unfold f_M_drift_222 at hf
  refine lv_istore (lv' := [(6, .int s0), (0, .ref this), (1, .int x1), (2, .int x2), (3, .int x3), (4, .int x4), (5, .int x5), (8, .int x8)]) M.x M.b d_M_drift_222 hl (by decide) rfl (fun ls hl => ?_)
  refine lv_aload_n M.x M.b d_M_drift_224 rfl (lv_at hl 1 rfl) ?_
  refine lv_iconst (v := (0 : Int32)) M.x M.b d_M_drift_225 rfl ?_
  replace hf := z_bind hf; obtain ⟨h61, e60, hf⟩ := hf
  refine zk_V (ci := 8) (st1 := []) M hH hS (c_M_keep e60) rfl (o_M_keep e60) w_M_keep q_752 [] rfl ⟨Nat.le_of_ble_eq_true rfl, Nat.le_of_ble_eq_true rfl⟩ hl.1 rfl rfl (Nat.le_of_ble_eq_true rfl) d_M_drift_226 (fun H locs hH hS => ?_)
  refine lv_iload M.x M.b d_M_drift_229 (lv_at hl 7 rfl) ?_
  refine lv_istore (lv' := [(7, .int x8), (6, .int s0), (0, .ref this), (1, .int x1), (2, .int x2), (3, .int x3), (4, .int x4), (5, .int x5), (8, .int x8)]) M.x M.b d_M_drift_231 hl (by decide) rfl (fun ls hl => ?_)
  refine lv_goto (tgt := 66) M.x M.b d_M_drift_233 (by decide) ?_
  exact hk66 _ _ _ _ _ _ _ _ hf H locs ls hH hS (lv_sub hl [2, 3, 4, 5, 6, 7, 1, 0] rfl)
def f_M_drift_134 (this : Nat) (k66 : Int32 → Int32 → Int32 → Int32 → Int32 → Int32 → Int32 → Hp → Option ((Int64 × Hp))) (s0 : Int32) (x1 : Int32) (x2 : Int32) (x3 : Int32) (x4 : Int32) (x5 : Int32) (x6 : Int32) (x7 : Int32) (x8 : Int32) (h : Hp) : Option ((Int64 × Hp)) :=
  if 0 ≤ x6 then
    if s0 = 0 then
      if x7 = x3 then
        (gA h this 8 28).bind fun r95 =>
        (r95).bind fun a97 =>
        (aL h a97 (1 : Int32)).bind fun l100 =>
        (gA h this 8 29).bind fun r101 =>
        (r101).bind fun a103 =>
        (aL h a103 (1 : Int32)).bind fun l106 =>
        (gA h this 8 30).bind fun r107 =>
        (r107).bind fun a109 =>
        (aI h 2 a109 (1 : Int32)).bind fun i112 =>
        zb2 (f_M_take this l100 l106 i112 h) fun i114 h115 =>
        f_M_drift_222 this k66 i114 x1 x2 x3 x4 x5 x8 h115
      else
      (gA h this 8 28).bind fun r62 =>
      (r62).bind fun a64 =>
      (aL h a64 (0 : Int32)).bind fun l67 =>
      (gA h this 8 29).bind fun r68 =>
      (r68).bind fun a70 =>
      (aL h a70 (0 : Int32)).bind fun l73 =>
      (gA h this 8 28).bind fun r74 =>
      (r74).bind fun a76 =>
      (aL h a76 (1 : Int32)).bind fun l79 =>
      (gA h this 8 29).bind fun r80 =>
      (r80).bind fun a82 =>
      (aL h a82 (1 : Int32)).bind fun l85 =>
      (gA h this 8 30).bind fun r86 =>
      (r86).bind fun a88 =>
      (aI h 2 a88 (0 : Int32)).bind fun i91 =>
      zb2 (f_M_multiply this l67 l73 l79 l85 i91 h) fun i93 h94 =>
      f_M_drift_222 this k66 i93 x1 x2 x3 x4 x5 x8 h94
    else
    f_M_drift_222 this k66 (-1003 : Int32) x1 x2 x3 x4 x5 x8 h
  else
  f_M_drift_222 this k66 x6 x1 x2 x3 x4 x5 x8 h
set_option maxRecDepth 100000 in
set_option maxHeartbeats 4000000 in
theorem w_M_drift_134 {p : Program} {l : Launch} {e : Env} {s : State} {m : MethodId} {args : Array Value} {below : List Frame} {meth : Method} {c : Code} {N0 : Nat} {D : va_G} {cs : Nat → ClassId} (M : ZC p s m args meth c "YearBasketsModel" "drift" b_M_drift 10 (some .long) N0 D cs) (this : Nat) (k66 : Int32 → Int32 → Int32 → Int32 → Int32 → Int32 → Int32 → Hp → Option ((Int64 × Hp))) {r0 : Int64} {h0 : Hp} (hk66 : ∀ (x1 : Int32) (x2 : Int32) (x3 : Int32) (x4 : Int32) (x5 : Int32) (x6 : Int32) (x7 : Int32) (h : Hp), k66 x1 x2 x3 x4 x5 x6 x7 h = some (r0, h0) → ZG p l e (zrm 9 0 0) s m args below meth c N0 D cs (some (.long r0)) h0 h 10 [(0, .ref this), (1, .int x1), (2, .int x2), (3, .int x3), (4, .int x4), (5, .int x5), (6, .int x6), (7, .int x7)] 66 []) (s0 : Int32) (x1 : Int32) (x2 : Int32) (x3 : Int32) (x4 : Int32) (x5 : Int32) (x6 : Int32) (x7 : Int32) (x8 : Int32) (h : Hp) (hf : f_M_drift_134 this k66 s0 x1 x2 x3 x4 x5 x6 x7 x8 h = some (r0, h0)) : ZG p l e (zrm 9 0 0) s m args below meth c N0 D cs (some (.long r0)) h0 h 10 [(0, .ref this), (1, .int x1), (2, .int x2), (3, .int x3), (4, .int x4), (5, .int x5), (6, .int x6), (7, .int x7), (8, .int x8)] 134 [.int s0] := by
  intro H locs ls hH hS hl
  unfold f_M_drift_134 at hf
  refine lv_istore (lv' := [(9, .int s0), (0, .ref this), (1, .int x1), (2, .int x2), (3, .int x3), (4, .int x4), (5, .int x5), (6, .int x6), (7, .int x7), (8, .int x8)]) M.x M.b d_M_drift_134 hl (by decide) rfl (fun ls hl => ?_)
  refine lv_iload M.x M.b d_M_drift_136 (lv_at hl 7 rfl) ?_
  refine lv_if_ge (tgt := 146) M.x M.b d_M_drift_138 (by decide) (fun c118 => ?_) (fun c118 => ?_)
  · replace hf := z_t c118 hf
    refine lv_iload M.x M.b d_M_drift_146 (lv_at hl 0 rfl) ?_
    refine lv_if_eq (tgt := 157) M.x M.b d_M_drift_148 (by decide) (fun c117 => ?_) (fun c117 => ?_)
    · replace hf := z_t c117 hf
      refine lv_iload M.x M.b d_M_drift_157 (lv_at hl 8 rfl) ?_
      refine lv_iload_n M.x M.b d_M_drift_159 rfl (lv_at hl 4 rfl) ?_
      refine lv_icmp_ne (tgt := 188) M.x M.b d_M_drift_160 (by decide) (fun c116 => ?_) (fun c116 => ?_)
      · replace hf := z_f c116 hf
        refine lv_aload_n M.x M.b d_M_drift_188 rfl (lv_at hl 1 rfl) ?_
        refine lv_aload_n M.x M.b d_M_drift_189 rfl (lv_at hl 1 rfl) ?_
        replace hf := z_bind hf; obtain ⟨r62, e63, hf⟩ := hf
        refine z_get (ci := 8) (k := 28) M hH rfl (by decide) zinM q_748 (gA_spec e63) d_M_drift_190 ?_
        refine lv_iconst (v := (0 : Int32)) M.x M.b d_M_drift_193 rfl ?_
        rcases r62 with _ | a64
        · exact absurd hf z_nb0
        replace hf := z_sb hf
        replace hf := z_bind hf; obtain ⟨l67, e66, hf⟩ := hf
        refine z_lald M hH e66 d_M_drift_194 ?_
        refine lv_aload_n M.x M.b d_M_drift_195 rfl (lv_at hl 1 rfl) ?_
        replace hf := z_bind hf; obtain ⟨r68, e69, hf⟩ := hf
        refine z_get (ci := 8) (k := 29) M hH rfl (by decide) zinM q_747 (gA_spec e69) d_M_drift_196 ?_
        refine lv_iconst (v := (0 : Int32)) M.x M.b d_M_drift_199 rfl ?_
        rcases r68 with _ | a70
        · exact absurd hf z_nb0
        replace hf := z_sb hf
        replace hf := z_bind hf; obtain ⟨l73, e72, hf⟩ := hf
        refine z_lald M hH e72 d_M_drift_200 ?_
        refine lv_aload_n M.x M.b d_M_drift_201 rfl (lv_at hl 1 rfl) ?_
        replace hf := z_bind hf; obtain ⟨r74, e75, hf⟩ := hf
        refine z_get (ci := 8) (k := 28) M hH rfl (by decide) zinM q_748 (gA_spec e75) d_M_drift_202 ?_
        refine lv_iconst (v := (1 : Int32)) M.x M.b d_M_drift_205 rfl ?_
        rcases r74 with _ | a76
        · exact absurd hf z_nb0
        replace hf := z_sb hf
        replace hf := z_bind hf; obtain ⟨l79, e78, hf⟩ := hf
        refine z_lald M hH e78 d_M_drift_206 ?_
        refine lv_aload_n M.x M.b d_M_drift_207 rfl (lv_at hl 1 rfl) ?_
        replace hf := z_bind hf; obtain ⟨r80, e81, hf⟩ := hf
        refine z_get (ci := 8) (k := 29) M hH rfl (by decide) zinM q_747 (gA_spec e81) d_M_drift_208 ?_
        refine lv_iconst (v := (1 : Int32)) M.x M.b d_M_drift_211 rfl ?_
        rcases r80 with _ | a82
        · exact absurd hf z_nb0
        replace hf := z_sb hf
        replace hf := z_bind hf; obtain ⟨l85, e84, hf⟩ := hf
        refine z_lald M hH e84 d_M_drift_212 ?_
        refine lv_aload_n M.x M.b d_M_drift_213 rfl (lv_at hl 1 rfl) ?_
        replace hf := z_bind hf; obtain ⟨r86, e87, hf⟩ := hf
        refine z_get (ci := 8) (k := 30) M hH rfl (by decide) zinM q_746 (gA_spec e87) d_M_drift_214 ?_
        refine lv_iconst (v := (0 : Int32)) M.x M.b d_M_drift_217 rfl ?_
        rcases r86 with _ | a88
        · exact absurd hf z_nb0
        replace hf := z_sb hf
        replace hf := z_bind hf; obtain ⟨i91, e90, hf⟩ := hf
        refine z_zald M hH e90 d_M_drift_218 ?_
        replace hf := z_bind2 hf; obtain ⟨i93, h94, e92, hf⟩ := hf
        refine zk_V (ci := 8) (st1 := [.int i93]) M hH hS (c_M_multiply e92) rfl (o_M_multiply e92) w_M_multiply q_682 [] rfl ⟨Nat.le_of_ble_eq_true rfl, Nat.le_of_ble_eq_true rfl⟩ hl.1 rfl rfl (Nat.le_of_ble_eq_true rfl) d_M_drift_219 (fun H locs hH hS => ?_)
        exact w_M_drift_222 M this k66 hk66 _ _ _ _ _ _ _ _ hf H locs ls hH hS (lv_sub hl [1, 2, 3, 4, 5, 6, 9] rfl)
      · replace hf := z_t c116 hf
        refine lv_aload_n M.x M.b d_M_drift_163 rfl (lv_at hl 1 rfl) ?_
        refine lv_aload_n M.x M.b d_M_drift_164 rfl (lv_at hl 1 rfl) ?_
        replace hf := z_bind hf; obtain ⟨r95, e96, hf⟩ := hf
        refine z_get (ci := 8) (k := 28) M hH rfl (by decide) zinM q_748 (gA_spec e96) d_M_drift_165 ?_
        refine lv_iconst (v := (1 : Int32)) M.x M.b d_M_drift_168 rfl ?_
        rcases r95 with _ | a97
        · exact absurd hf z_nb0
        replace hf := z_sb hf
        replace hf := z_bind hf; obtain ⟨l100, e99, hf⟩ := hf
        refine z_lald M hH e99 d_M_drift_169 ?_
        refine lv_aload_n M.x M.b d_M_drift_170 rfl (lv_at hl 1 rfl) ?_
        replace hf := z_bind hf; obtain ⟨r101, e102, hf⟩ := hf
        refine z_get (ci := 8) (k := 29) M hH rfl (by decide) zinM q_747 (gA_spec e102) d_M_drift_171 ?_
        refine lv_iconst (v := (1 : Int32)) M.x M.b d_M_drift_174 rfl ?_
        rcases r101 with _ | a103
        · exact absurd hf z_nb0
        replace hf := z_sb hf
        replace hf := z_bind hf; obtain ⟨l106, e105, hf⟩ := hf
        refine z_lald M hH e105 d_M_drift_175 ?_
        refine lv_aload_n M.x M.b d_M_drift_176 rfl (lv_at hl 1 rfl) ?_
        replace hf := z_bind hf; obtain ⟨r107, e108, hf⟩ := hf
        refine z_get (ci := 8) (k := 30) M hH rfl (by decide) zinM q_746 (gA_spec e108) d_M_drift_177 ?_
        refine lv_iconst (v := (1 : Int32)) M.x M.b d_M_drift_180 rfl ?_
        rcases r107 with _ | a109
        · exact absurd hf z_nb0
        replace hf := z_sb hf
        replace hf := z_bind hf; obtain ⟨i112, e111, hf⟩ := hf
        refine z_zald M hH e111 d_M_drift_181 ?_
        replace hf := z_bind2 hf; obtain ⟨i114, h115, e113, hf⟩ := hf
        refine zk_V (ci := 8) (st1 := [.int i114]) M hH hS (c_M_take e113) rfl (o_M_take e113) w_M_take q_674 [] rfl ⟨Nat.le_of_ble_eq_true rfl, Nat.le_of_ble_eq_true rfl⟩ hl.1 rfl rfl (Nat.le_of_ble_eq_true rfl) d_M_drift_182 (fun H locs hH hS => ?_)
        refine lv_goto (tgt := 222) M.x M.b d_M_drift_185 (by decide) ?_
        exact w_M_drift_222 M this k66 hk66 _ _ _ _ _ _ _ _ hf H locs ls hH hS (lv_sub hl [1, 2, 3, 4, 5, 6, 9] rfl)
    · replace hf := z_f c117 hf
      refine lv_sipush (v := (-1003 : Int32)) M.x M.b d_M_drift_151 rfl ?_
      refine lv_goto (tgt := 222) M.x M.b d_M_drift_154 (by decide) ?_
      exact w_M_drift_222 M this k66 hk66 _ _ _ _ _ _ _ _ hf H locs ls hH hS (lv_sub hl [1, 2, 3, 4, 5, 6, 9] rfl)
  · replace hf := z_f c118 hf
    refine lv_iload M.x M.b d_M_drift_141 (lv_at hl 7 rfl) ?_
    refine lv_goto (tgt := 222) M.x M.b d_M_drift_143 (by decide) ?_
    exact w_M_drift_222 M this k66 hk66 _ _ _ _ _ _ _ _ hf H locs ls hH hS (lv_sub hl [1, 2, 3, 4, 5, 6, 9] rfl)
def f_M_drift_133 (this : Nat) (k66 : Int32 → Int32 → Int32 → Int32 → Int32 → Int32 → Int32 → Hp → Option ((Int64 × Hp))) (x1 : Int32) (x2 : Int32) (x3 : Int32) (x4 : Int32) (x5 : Int32) (x6 : Int32) (x7 : Int32) (x8 : Int32) (h : Hp) : Option ((Int64 × Hp)) :=
  f_M_drift_134 this k66 (0 : Int32) x1 x2 x3 x4 x5 x6 x7 x8 h
set_option maxRecDepth 100000 in
set_option maxHeartbeats 4000000 in
theorem w_M_drift_133 {p : Program} {l : Launch} {e : Env} {s : State} {m : MethodId} {args : Array Value} {below : List Frame} {meth : Method} {c : Code} {N0 : Nat} {D : va_G} {cs : Nat → ClassId} (M : ZC p s m args meth c "YearBasketsModel" "drift" b_M_drift 10 (some .long) N0 D cs) (this : Nat) (k66 : Int32 → Int32 → Int32 → Int32 → Int32 → Int32 → Int32 → Hp → Option ((Int64 × Hp))) {r0 : Int64} {h0 : Hp} (hk66 : ∀ (x1 : Int32) (x2 : Int32) (x3 : Int32) (x4 : Int32) (x5 : Int32) (x6 : Int32) (x7 : Int32) (h : Hp), k66 x1 x2 x3 x4 x5 x6 x7 h = some (r0, h0) → ZG p l e (zrm 9 0 0) s m args below meth c N0 D cs (some (.long r0)) h0 h 10 [(0, .ref this), (1, .int x1), (2, .int x2), (3, .int x3), (4, .int x4), (5, .int x5), (6, .int x6), (7, .int x7)] 66 []) (x1 : Int32) (x2 : Int32) (x3 : Int32) (x4 : Int32) (x5 : Int32) (x6 : Int32) (x7 : Int32) (x8 : Int32) (h : Hp) (hf : f_M_drift_133 this k66 x1 x2 x3 x4 x5 x6 x7 x8 h = some (r0, h0)) : ZG p l e (zrm 9 0 0) s m args below meth c N0 D cs (some (.long r0)) h0 h 10 [(0, .ref this), (1, .int x1), (2, .int x2), (3, .int x3), (4, .int x4), (5, .int x5), (6, .int x6), (7, .int x7), (8, .int x8)] 133 [] := by
  intro H locs ls hH hS hl
  unfold f_M_drift_133 at hf
  refine lv_iconst (v := (0 : Int32)) M.x M.b d_M_drift_133 rfl ?_
  exact w_M_drift_134 M this k66 hk66 _ _ _ _ _ _ _ _ _ _ hf H locs ls hH hS (lv_sub hl [0, 1, 2, 3, 4, 5, 6, 7, 8] rfl)
def f_M_drift_92 (this : Nat) (k66 : Int32 → Int32 → Int32 → Int32 → Int32 → Int32 → Int32 → Hp → Option ((Int64 × Hp))) (s0 : Int32) (s1 : Int32) (x1 : Int32) (x2 : Int32) (x3 : Int32) (x4 : Int32) (x5 : Int32) (x7 : Int32) (h : Hp) : Option ((Int64 × Hp)) :=
  zb2 (f_M_findKept this x1 x2 x7 (s0 + s1) (1 : Int32) h) fun i120 h121 =>
  if x7 = x3 then
    f_M_drift_133 this k66 x1 x2 x3 x4 x5 i120 x7 (s0 + s1) h121
  else
  (gA h121 this 8 30).bind fun r122 =>
  (r122).bind fun a124 =>
  (aI h121 2 a124 (0 : Int32)).bind fun i127 =>
  (gA h121 this 8 30).bind fun r128 =>
  (r128).bind fun a130 =>
  (aI h121 2 a130 (1 : Int32)).bind fun i133 =>
  if i127 = i133 then
    f_M_drift_133 this k66 x1 x2 x3 x4 x5 i120 x7 (s0 + s1) h121
  else
  f_M_drift_134 this k66 (1 : Int32) x1 x2 x3 x4 x5 i120 x7 (s0 + s1) h121
set_option maxRecDepth 100000 in
set_option maxHeartbeats 4000000 in
theorem w_M_drift_92 {p : Program} {l : Launch} {e : Env} {s : State} {m : MethodId} {args : Array Value} {below : List Frame} {meth : Method} {c : Code} {N0 : Nat} {D : va_G} {cs : Nat → ClassId} (M : ZC p s m args meth c "YearBasketsModel" "drift" b_M_drift 10 (some .long) N0 D cs) (this : Nat) (k66 : Int32 → Int32 → Int32 → Int32 → Int32 → Int32 → Int32 → Hp → Option ((Int64 × Hp))) {r0 : Int64} {h0 : Hp} (hk66 : ∀ (x1 : Int32) (x2 : Int32) (x3 : Int32) (x4 : Int32) (x5 : Int32) (x6 : Int32) (x7 : Int32) (h : Hp), k66 x1 x2 x3 x4 x5 x6 x7 h = some (r0, h0) → ZG p l e (zrm 9 0 0) s m args below meth c N0 D cs (some (.long r0)) h0 h 10 [(0, .ref this), (1, .int x1), (2, .int x2), (3, .int x3), (4, .int x4), (5, .int x5), (6, .int x6), (7, .int x7)] 66 []) (s0 : Int32) (s1 : Int32) (x1 : Int32) (x2 : Int32) (x3 : Int32) (x4 : Int32) (x5 : Int32) (x7 : Int32) (h : Hp) (hf : f_M_drift_92 this k66 s0 s1 x1 x2 x3 x4 x5 x7 h = some (r0, h0)) : ZG p l e (zrm 9 0 0) s m args below meth c N0 D cs (some (.long r0)) h0 h 10 [(0, .ref this), (1, .int x1), (2, .int x2), (3, .int x3), (4, .int x4), (5, .int x5), (7, .int x7)] 92 [.int s1, .int s0] := by
  intro H locs ls hH hS hl
  unfold f_M_drift_92 at hf
  refine lv_iadd M.x M.b d_M_drift_92 ?_
  refine lv_istore (lv' := [(8, .int (s0 + s1)), (0, .ref this), (1, .int x1), (2, .int x2), (3, .int x3), (4, .int x4), (5, .int x5), (7, .int x7)]) M.x M.b d_M_drift_93 hl (by decide) rfl (fun ls hl => ?_)
  refine lv_aload_n M.x M.b d_M_drift_95 rfl (lv_at hl 1 rfl) ?_
  refine lv_iload_n M.x M.b d_M_drift_96 rfl (lv_at hl 2 rfl) ?_
  refine lv_iload_n M.x M.b d_M_drift_97 rfl (lv_at hl 3 rfl) ?_
  refine lv_iload M.x M.b d_M_drift_98 (lv_at hl 7 rfl) ?_
  refine lv_iload M.x M.b d_M_drift_100 (lv_at hl 0 rfl) ?_
  refine lv_iconst (v := (1 : Int32)) M.x M.b d_M_drift_102 rfl ?_
  replace hf := z_bind2 hf; obtain ⟨i120, h121, e119, hf⟩ := hf
  refine zk_V (ci := 8) (st1 := [.int i120]) M hH hS (c_M_findKept e119) rfl (o_M_findKept e119) w_M_findKept q_760 [] rfl ⟨Nat.le_of_ble_eq_true rfl, Nat.le_of_ble_eq_true rfl⟩ hl.1 rfl rfl (Nat.le_of_ble_eq_true rfl) d_M_drift_103 (fun H locs hH hS => ?_)
  refine lv_istore (lv' := [(6, .int i120), (8, .int (s0 + s1)), (0, .ref this), (1, .int x1), (2, .int x2), (3, .int x3), (4, .int x4), (5, .int x5), (7, .int x7)]) M.x M.b d_M_drift_106 hl (by decide) rfl (fun ls hl => ?_)
  refine lv_iload M.x M.b d_M_drift_108 (lv_at hl 8 rfl) ?_
  refine lv_iload_n M.x M.b d_M_drift_110 rfl (lv_at hl 5 rfl) ?_
  refine lv_icmp_eq (tgt := 133) M.x M.b d_M_drift_111 (by decide) (fun c135 => ?_) (fun c135 => ?_)
  · replace hf := z_t c135 hf
    exact w_M_drift_133 M this k66 hk66 _ _ _ _ _ _ _ _ _ hf H locs ls hH hS (lv_sub hl [2, 3, 4, 5, 6, 7, 0, 8, 1] rfl)
  · replace hf := z_f c135 hf
    refine lv_aload_n M.x M.b d_M_drift_114 rfl (lv_at hl 2 rfl) ?_
    replace hf := z_bind hf; obtain ⟨r122, e123, hf⟩ := hf
    refine z_get (ci := 8) (k := 30) M hH rfl (by decide) zinM q_746 (gA_spec e123) d_M_drift_115 ?_
    refine lv_iconst (v := (0 : Int32)) M.x M.b d_M_drift_118 rfl ?_
    rcases r122 with _ | a124
    · exact absurd hf z_nb0
    replace hf := z_sb hf
    replace hf := z_bind hf; obtain ⟨i127, e126, hf⟩ := hf
    refine z_zald M hH e126 d_M_drift_119 ?_
    refine lv_aload_n M.x M.b d_M_drift_120 rfl (lv_at hl 2 rfl) ?_
    replace hf := z_bind hf; obtain ⟨r128, e129, hf⟩ := hf
    refine z_get (ci := 8) (k := 30) M hH rfl (by decide) zinM q_746 (gA_spec e129) d_M_drift_121 ?_
    refine lv_iconst (v := (1 : Int32)) M.x M.b d_M_drift_124 rfl ?_
    rcases r128 with _ | a130
    · exact absurd hf z_nb0
    replace hf := z_sb hf
    replace hf := z_bind hf; obtain ⟨i133, e132, hf⟩ := hf
    refine z_zald M hH e132 d_M_drift_125 ?_
    refine lv_icmp_eq (tgt := 133) M.x M.b d_M_drift_126 (by decide) (fun c134 => ?_) (fun c134 => ?_)
    · replace hf := z_t c134 hf
      exact w_M_drift_133 M this k66 hk66 _ _ _ _ _ _ _ _ _ hf H locs ls hH hS (lv_sub hl [2, 3, 4, 5, 6, 7, 0, 8, 1] rfl)
    · replace hf := z_f c134 hf
      refine lv_iconst (v := (1 : Int32)) M.x M.b d_M_drift_129 rfl ?_
      refine lv_goto (tgt := 134) M.x M.b d_M_drift_130 (by decide) ?_
      exact w_M_drift_134 M this k66 hk66 _ _ _ _ _ _ _ _ _ _ hf H locs ls hH hS (lv_sub hl [2, 3, 4, 5, 6, 7, 0, 8, 1] rfl)
def t_M_drift_66 (this : Nat) (k66 : Int32 → Int32 → Int32 → Int32 → Int32 → Int32 → Int32 → Hp → Option ((Int64 × Hp))) (x1 : Int32) (x2 : Int32) (x3 : Int32) (x4 : Int32) (x5 : Int32) (x6 : Int32) (x7 : Int32) (h : Hp) : Option ((Int64 × Hp)) :=
  if x6 = 0 then
    if x7 = x4 then
      f_M_drift_236 this x1 x2 x3 x4 x5 x6 h
    else
    if x4 ≤ x7 then
      f_M_drift_92 this k66 x7 (-1 : Int32) x1 x2 x3 x4 x5 x7 h
    else
    f_M_drift_92 this k66 x7 (1 : Int32) x1 x2 x3 x4 x5 x7 h
  else
  f_M_drift_236 this x1 x2 x3 x4 x5 x6 h
set_option maxRecDepth 100000 in
set_option maxHeartbeats 4000000 in
theorem v_M_drift_66 {p : Program} {l : Launch} {e : Env} {s : State} {m : MethodId} {args : Array Value} {below : List Frame} {meth : Method} {c : Code} {N0 : Nat} {D : va_G} {cs : Nat → ClassId} (M : ZC p s m args meth c "YearBasketsModel" "drift" b_M_drift 10 (some .long) N0 D cs) (this : Nat) (k66 : Int32 → Int32 → Int32 → Int32 → Int32 → Int32 → Int32 → Hp → Option ((Int64 × Hp))) {r0 : Int64} {h0 : Hp} (hk66 : ∀ (x1 : Int32) (x2 : Int32) (x3 : Int32) (x4 : Int32) (x5 : Int32) (x6 : Int32) (x7 : Int32) (h : Hp), k66 x1 x2 x3 x4 x5 x6 x7 h = some (r0, h0) → ZG p l e (zrm 9 0 0) s m args below meth c N0 D cs (some (.long r0)) h0 h 10 [(0, .ref this), (1, .int x1), (2, .int x2), (3, .int x3), (4, .int x4), (5, .int x5), (6, .int x6), (7, .int x7)] 66 []) (x1 : Int32) (x2 : Int32) (x3 : Int32) (x4 : Int32) (x5 : Int32) (x6 : Int32) (x7 : Int32) (h : Hp) (hf : t_M_drift_66 this k66 x1 x2 x3 x4 x5 x6 x7 h = some (r0, h0)) : ZG p l e (zrm 9 0 0) s m args below meth c N0 D cs (some (.long r0)) h0 h 10 [(0, .ref this), (1, .int x1), (2, .int x2), (3, .int x3), (4, .int x4), (5, .int x5), (6, .int x6), (7, .int x7)] 66 [] := by
  intro H locs ls hH hS hl
  unfold t_M_drift_66 at hf
  refine lv_iload M.x M.b d_M_drift_66 (lv_at hl 6 rfl) ?_
  refine lv_if_ne (tgt := 236) M.x M.b d_M_drift_68 (by decide) (fun c138 => ?_) (fun c138 => ?_)
  · replace hf := z_f c138 hf
    exact w_M_drift_236 M this _ _ _ _ _ _ _ hf H locs ls hH hS (lv_sub hl [0, 1, 2, 3, 4, 5, 6] rfl)
  · replace hf := z_t c138 hf
    refine lv_iload M.x M.b d_M_drift_71 (lv_at hl 7 rfl) ?_
    refine lv_iload M.x M.b d_M_drift_73 (lv_at hl 4 rfl) ?_
    refine lv_icmp_eq (tgt := 236) M.x M.b d_M_drift_75 (by decide) (fun c137 => ?_) (fun c137 => ?_)
    · replace hf := z_t c137 hf
      exact w_M_drift_236 M this _ _ _ _ _ _ _ hf H locs ls hH hS (lv_sub hl [0, 1, 2, 3, 4, 5, 6] rfl)
    · replace hf := z_f c137 hf
      refine lv_iload M.x M.b d_M_drift_78 (lv_at hl 7 rfl) ?_
      refine lv_iload M.x M.b d_M_drift_80 (lv_at hl 4 rfl) ?_
      refine lv_iload M.x M.b d_M_drift_82 (lv_at hl 7 rfl) ?_
      refine lv_icmp_le (tgt := 91) M.x M.b d_M_drift_84 (by decide) (fun c136 => ?_) (fun c136 => ?_)
      · replace hf := z_t c136 hf
        refine lv_iconst (v := (-1 : Int32)) M.x M.b d_M_drift_91 rfl ?_
        exact w_M_drift_92 M this k66 hk66 _ _ _ _ _ _ _ _ _ hf H locs ls hH hS (lv_sub hl [0, 1, 2, 3, 4, 5, 7] rfl)
      · replace hf := z_f c136 hf
        refine lv_iconst (v := (1 : Int32)) M.x M.b d_M_drift_87 rfl ?_
        refine lv_goto (tgt := 92) M.x M.b d_M_drift_88 (by decide) ?_
        exact w_M_drift_92 M this k66 hk66 _ _ _ _ _ _ _ _ _ hf H locs ls hH hS (lv_sub hl [0, 1, 2, 3, 4, 5, 7] rfl)
def f_M_drift_66 (this : Nat) : Nat → Int32 → Int32 → Int32 → Int32 → Int32 → Int32 → Int32 → Hp → Option ((Int64 × Hp))
  | 0, _, _, _, _, _, _, _, _ => none
  | n + 1, x1, x2, x3, x4, x5, x6, x7, h => t_M_drift_66 this (f_M_drift_66 this n) x1 x2 x3 x4 x5 x6 x7 h
theorem w_M_drift_66 {p : Program} {l : Launch} {e : Env} {s : State} {m : MethodId} {args : Array Value} {below : List Frame} {meth : Method} {c : Code} {N0 : Nat} {D : va_G} {cs : Nat → ClassId} (M : ZC p s m args meth c "YearBasketsModel" "drift" b_M_drift 10 (some .long) N0 D cs) (this : Nat)  {r0 : Int64} {h0 : Hp}  : ∀ (n : Nat) (x1 : Int32) (x2 : Int32) (x3 : Int32) (x4 : Int32) (x5 : Int32) (x6 : Int32) (x7 : Int32) (h : Hp), f_M_drift_66 this n x1 x2 x3 x4 x5 x6 x7 h = some (r0, h0) → ZG p l e (zrm 9 0 0) s m args below meth c N0 D cs (some (.long r0)) h0 h 10 [(0, .ref this), (1, .int x1), (2, .int x2), (3, .int x3), (4, .int x4), (5, .int x5), (6, .int x6), (7, .int x7)] 66 [] := by
  intro n
  induction n with
  | zero => intro x1 x2 x3 x4 x5 x6 x7 h hf; exact absurd (show none = some _ from hf) (fun q => by cases q)
  | succ n ih => intro x1 x2 x3 x4 x5 x6 x7 h hf; exact v_M_drift_66 M this (f_M_drift_66 this n)  ih _ _ _ _ _ _ _ _ hf
def f_M_drift (this : Nat) (x1 : Int32) (x2 : Int32) (x3 : Int32) (x4 : Int32) (x5 : Int32) (h : Hp) : Option ((Int64 × Hp)) :=
  if isO h this 8 = true then
  (f_M_isNumber this h x1).bind fun i140 =>
  if i140 = 0 then
    some ((-1001 : Int64), h)
  else
  (f_M_isWho x2).bind fun i142 =>
  if i142 = 0 then
    some ((-1001 : Int64), h)
  else
  (f_M_isYear x3).bind fun i144 =>
  if i144 = 0 then
    some ((-1001 : Int64), h)
  else
  (f_M_isYear x4).bind fun i146 =>
  if i146 = 0 then
    some ((-1001 : Int64), h)
  else
  (f_M_in (x5).toInt64 (0 : Int64) (1 : Int64)).bind fun i148 =>
  if i148 = 0 then
    some ((-1002 : Int64), h)
  else
  zb2 (f_M_take this (1 : Int64) (1 : Int64) (0 : Int32) h) fun i150 h151 =>
  (f_M_keep this (0 : Int32) h151).bind fun h153 =>
  f_M_drift_66 this FU x1 x2 x3 x4 x5 i150 x3 h153
  else none
theorem o_M_drift {this : Nat} {x1 : Int32} {x2 : Int32} {x3 : Int32} {x4 : Int32} {x5 : Int32} {h : Hp} {r0 : Int64} {h0 : Hp} (hf : f_M_drift this x1 x2 x3 x4 x5 h = some (r0, h0)) : isO h this 8 = true := by
  unfold f_M_drift at hf
  exact (z_gd hf).1
set_option maxRecDepth 100000 in
set_option maxHeartbeats 4000000 in
theorem c_M_drift {l : Launch} {N0 : Nat} {D : va_G} {cs : Nat → ClassId} {this : Nat} {x1 : Int32} {x2 : Int32} {x3 : Int32} {x4 : Int32} {x5 : Int32} {h : Hp} {r0 : Int64} {h0 : Hp} (hf : f_M_drift this x1 x2 x3 x4 x5 h = some (r0, h0)) : Fn l N0 D cs y_M_drift b_M_drift 10 (some .long) 9 0 0 [.ref this, .int x1, .int x2, .int x3, .int x4, .int x5] h (some (.long r0)) h0 := by
  refine z_start (by decide) (Nat.le_of_ble_eq_true rfl) ?_
  intro p e s m args below meth c M hH hS ls hl
  unfold f_M_drift at hf
  obtain ⟨hO, hf⟩ := z_gd hf
  have hl : lv_has ls 10 [(0, .ref this), (1, .int x1), (2, .int x2), (3, .int x3), (4, .int x4), (5, .int x5)] := hl
  obtain ⟨H, hHe⟩ : ∃ H, H = s.heap := ⟨_, rfl⟩
  obtain ⟨locs, hLe⟩ : ∃ locs : List Loc, locs = [] := ⟨_, rfl⟩
  have hS : va_S (zA N0) s.heap H locs := by rw [hHe, hLe]; exact hS
  have hH : HH N0 D cs h H := by rw [hHe]; exact hH
  suffices hg : W p l e (zrm 9 0 0) s m args below meth c H locs 0 0 (MQ below (zQ N0 D cs (some (.long r0)) h0) args s 0 0 (zA N0)) (F0 m 0 ls []) by rw [hHe, hLe] at hg; exact hg
  clear hHe hLe
  refine lv_aload_n M.x M.b d_M_drift_0 rfl (lv_at hl 0 rfl) ?_
  refine lv_iload_n M.x M.b d_M_drift_1 rfl (lv_at hl 1 rfl) ?_
  replace hf := z_bind hf; obtain ⟨i140, e139, hf⟩ := hf
  refine zk_V (ci := 8) (st1 := [.int i140]) M hH hS (c_M_isNumber e139) rfl (o_M_isNumber e139) w_M_isNumber q_742 [] rfl ⟨Nat.le_of_ble_eq_true rfl, Nat.le_of_ble_eq_true rfl⟩ hl.1 rfl rfl (Nat.le_of_ble_eq_true rfl) d_M_drift_2 (fun H locs hH hS => ?_)
  refine lv_if_eq (tgt := 30) M.x M.b d_M_drift_5 (by decide) (fun c158 => ?_) (fun c158 => ?_)
  · replace hf := z_t c158 hf
    refine z_ldc2 (v := (-1001 : Int64)) M q_739 d_M_drift_30 ?_
    obtain ⟨rfl, rfl⟩ := z_r2 hf
    exact z_lret M hH hS d_M_drift_33
  · replace hf := z_f c158 hf
    refine lv_iload_n M.x M.b d_M_drift_8 rfl (lv_at hl 2 rfl) ?_
    replace hf := z_bind hf; obtain ⟨i142, e141, hf⟩ := hf
    refine zk_S (st1 := [.int i142]) M hH hS (c_M_isWho e141) w_M_isWho q_582 [] rfl ⟨Nat.le_of_ble_eq_true rfl, Nat.le_of_ble_eq_true rfl⟩ hl.1 rfl rfl (Nat.le_of_ble_eq_true rfl) d_M_drift_9 (fun H locs hH hS => ?_)
    refine lv_if_eq (tgt := 30) M.x M.b d_M_drift_12 (by decide) (fun c157 => ?_) (fun c157 => ?_)
    · replace hf := z_t c157 hf
      refine z_ldc2 (v := (-1001 : Int64)) M q_739 d_M_drift_30 ?_
      obtain ⟨rfl, rfl⟩ := z_r2 hf
      exact z_lret M hH hS d_M_drift_33
    · replace hf := z_f c157 hf
      refine lv_iload_n M.x M.b d_M_drift_15 rfl (lv_at hl 3 rfl) ?_
      replace hf := z_bind hf; obtain ⟨i144, e143, hf⟩ := hf
      refine zk_S (st1 := [.int i144]) M hH hS (c_M_isYear e143) w_M_isYear q_564 [] rfl ⟨Nat.le_of_ble_eq_true rfl, Nat.le_of_ble_eq_true rfl⟩ hl.1 rfl rfl (Nat.le_of_ble_eq_true rfl) d_M_drift_16 (fun H locs hH hS => ?_)
      refine lv_if_eq (tgt := 30) M.x M.b d_M_drift_19 (by decide) (fun c156 => ?_) (fun c156 => ?_)
      · replace hf := z_t c156 hf
        refine z_ldc2 (v := (-1001 : Int64)) M q_739 d_M_drift_30 ?_
        obtain ⟨rfl, rfl⟩ := z_r2 hf
        exact z_lret M hH hS d_M_drift_33
      · replace hf := z_f c156 hf
        refine lv_iload M.x M.b d_M_drift_22 (lv_at hl 4 rfl) ?_
        replace hf := z_bind hf; obtain ⟨i146, e145, hf⟩ := hf
        refine zk_S (st1 := [.int i146]) M hH hS (c_M_isYear e145) w_M_isYear q_564 [] rfl ⟨Nat.le_of_ble_eq_true rfl, Nat.le_of_ble_eq_true rfl⟩ hl.1 rfl rfl (Nat.le_of_ble_eq_true rfl) d_M_drift_24 (fun H locs hH hS => ?_)
        refine lv_if_ne (tgt := 34) M.x M.b d_M_drift_27 (by decide) (fun c155 => ?_) (fun c155 => ?_)
        · replace hf := z_f c155 hf
          refine lv_iload M.x M.b d_M_drift_34 (lv_at hl 5 rfl) ?_
          refine lv_i2l M.x M.b d_M_drift_36 rfl ?_
          refine lv_lconst (v := (0 : Int64)) M.x M.b d_M_drift_37 rfl ?_
          refine lv_lconst (v := (1 : Int64)) M.x M.b d_M_drift_38 rfl ?_
          replace hf := z_bind hf; obtain ⟨i148, e147, hf⟩ := hf
          refine zk_S (st1 := [.int i148]) M hH hS (c_M_in e147) w_M_in q_551 [] rfl ⟨Nat.le_of_ble_eq_true rfl, Nat.le_of_ble_eq_true rfl⟩ hl.1 rfl rfl (Nat.le_of_ble_eq_true rfl) d_M_drift_39 (fun H locs hH hS => ?_)
          refine lv_if_ne (tgt := 49) M.x M.b d_M_drift_42 (by decide) (fun c154 => ?_) (fun c154 => ?_)
          · replace hf := z_f c154 hf
            refine lv_aload_n M.x M.b d_M_drift_49 rfl (lv_at hl 0 rfl) ?_
            refine lv_lconst (v := (1 : Int64)) M.x M.b d_M_drift_50 rfl ?_
            refine lv_lconst (v := (1 : Int64)) M.x M.b d_M_drift_51 rfl ?_
            refine lv_iconst (v := (0 : Int32)) M.x M.b d_M_drift_52 rfl ?_
            replace hf := z_bind2 hf; obtain ⟨i150, h151, e149, hf⟩ := hf
            refine zk_V (ci := 8) (st1 := [.int i150]) M hH hS (c_M_take e149) rfl (o_M_take e149) w_M_take q_674 [] rfl ⟨Nat.le_of_ble_eq_true rfl, Nat.le_of_ble_eq_true rfl⟩ hl.1 rfl rfl (Nat.le_of_ble_eq_true rfl) d_M_drift_53 (fun H locs hH hS => ?_)
            refine lv_istore (lv' := [(6, .int i150), (0, .ref this), (1, .int x1), (2, .int x2), (3, .int x3), (4, .int x4), (5, .int x5)]) M.x M.b d_M_drift_56 hl (by decide) rfl (fun ls hl => ?_)
            refine lv_aload_n M.x M.b d_M_drift_58 rfl (lv_at hl 1 rfl) ?_
            refine lv_iconst (v := (0 : Int32)) M.x M.b d_M_drift_59 rfl ?_
            replace hf := z_bind hf; obtain ⟨h153, e152, hf⟩ := hf
            refine zk_V (ci := 8) (st1 := []) M hH hS (c_M_keep e152) rfl (o_M_keep e152) w_M_keep q_752 [] rfl ⟨Nat.le_of_ble_eq_true rfl, Nat.le_of_ble_eq_true rfl⟩ hl.1 rfl rfl (Nat.le_of_ble_eq_true rfl) d_M_drift_60 (fun H locs hH hS => ?_)
            refine lv_iload_n M.x M.b d_M_drift_63 rfl (lv_at hl 4 rfl) ?_
            refine lv_istore (lv' := [(7, .int x3), (6, .int i150), (0, .ref this), (1, .int x1), (2, .int x2), (3, .int x3), (4, .int x4), (5, .int x5)]) M.x M.b d_M_drift_64 hl (by decide) rfl (fun ls hl => ?_)
            exact w_M_drift_66 M this FU _ _ _ _ _ _ _ _ hf H locs ls hH hS (lv_sub hl [2, 3, 4, 5, 6, 7, 1, 0] rfl)
          · replace hf := z_t c154 hf
            refine z_ldc2 (v := (-1002 : Int64)) M q_741 d_M_drift_45 ?_
            obtain ⟨rfl, rfl⟩ := z_r2 hf
            exact z_lret M hH hS d_M_drift_48
        · replace hf := z_t c155 hf
          refine z_ldc2 (v := (-1001 : Int64)) M q_739 d_M_drift_30 ?_
          obtain ⟨rfl, rfl⟩ := z_r2 hf
          exact z_lret M hH hS d_M_drift_33
def f_M_chosenAhead (this : Nat) (h : Hp) (x1 : Int32) (x2 : Int32) (x3 : Int32) : Option (Int32) :=
  if isO h this 8 = true then
  (f_M_costOf this h x1 x2 x2 (31 : Int32)).bind fun i2 =>
  (f_M_costOf this h x1 x2 x3 (31 : Int32)).bind fun i4 =>
  if i2 < 0 then
    some (0 : Int32)
  else
  if i4 < 0 then
    some (0 : Int32)
  else
  if i4 ≤ i2 then
    if i2 ≤ i4 then
      some (1 : Int32)
    else
    some (2 : Int32)
  else
  some (0 : Int32)
  else none
theorem o_M_chosenAhead {this : Nat} {h : Hp} {x1 : Int32} {x2 : Int32} {x3 : Int32} {r0 : Int32} (hf : f_M_chosenAhead this h x1 x2 x3 = some r0) : isO h this 8 = true := by
  unfold f_M_chosenAhead at hf
  exact (z_gd hf).1
set_option maxRecDepth 100000 in
set_option maxHeartbeats 4000000 in
theorem c_M_chosenAhead {l : Launch} {N0 : Nat} {D : va_G} {cs : Nat → ClassId} {this : Nat} {h : Hp} {x1 : Int32} {x2 : Int32} {x3 : Int32} {r0 : Int32} (hf : f_M_chosenAhead this h x1 x2 x3 = some r0) : Fn l N0 D cs y_M_chosenAhead b_M_chosenAhead 6 (some .int) 3 0 0 [.ref this, .int x1, .int x2, .int x3] h (some (.int r0)) h := by
  refine z_start (by decide) (Nat.le_of_ble_eq_true rfl) ?_
  intro p e s m args below meth c M hH hS ls hl
  unfold f_M_chosenAhead at hf
  obtain ⟨hO, hf⟩ := z_gd hf
  have hl : lv_has ls 6 [(0, .ref this), (1, .int x1), (2, .int x2), (3, .int x3)] := hl
  obtain ⟨H, hHe⟩ : ∃ H, H = s.heap := ⟨_, rfl⟩
  obtain ⟨locs, hLe⟩ : ∃ locs : List Loc, locs = [] := ⟨_, rfl⟩
  have hS : va_S (zA N0) s.heap H locs := by rw [hHe, hLe]; exact hS
  have hH : HH N0 D cs h H := by rw [hHe]; exact hH
  suffices hg : W p l e (zrm 3 0 0) s m args below meth c H locs 0 0 (MQ below (zQ N0 D cs (some (.int r0)) h) args s 0 0 (zA N0)) (F0 m 0 ls []) by rw [hHe, hLe] at hg; exact hg
  clear hHe hLe
  refine lv_aload_n M.x M.b d_M_chosenAhead_0 rfl (lv_at hl 0 rfl) ?_
  refine lv_iload_n M.x M.b d_M_chosenAhead_1 rfl (lv_at hl 1 rfl) ?_
  refine lv_iload_n M.x M.b d_M_chosenAhead_2 rfl (lv_at hl 2 rfl) ?_
  refine lv_iload_n M.x M.b d_M_chosenAhead_3 rfl (lv_at hl 2 rfl) ?_
  refine lv_bipush (v := (31 : Int32)) M.x M.b d_M_chosenAhead_4 rfl ?_
  replace hf := z_bind hf; obtain ⟨i2, e1, hf⟩ := hf
  refine zk_V (ci := 8) (st1 := [.int i2]) M hH hS (c_M_costOf e1) rfl (o_M_costOf e1) w_M_costOf q_581 [] rfl ⟨Nat.le_of_ble_eq_true rfl, Nat.le_of_ble_eq_true rfl⟩ hl.1 rfl rfl (Nat.le_of_ble_eq_true rfl) d_M_chosenAhead_6 (fun H locs hH hS => ?_)
  refine lv_istore (lv' := [(4, .int i2), (0, .ref this), (1, .int x1), (2, .int x2), (3, .int x3)]) M.x M.b d_M_chosenAhead_9 hl (by decide) rfl (fun ls hl => ?_)
  refine lv_aload_n M.x M.b d_M_chosenAhead_11 rfl (lv_at hl 1 rfl) ?_
  refine lv_iload_n M.x M.b d_M_chosenAhead_12 rfl (lv_at hl 2 rfl) ?_
  refine lv_iload_n M.x M.b d_M_chosenAhead_13 rfl (lv_at hl 3 rfl) ?_
  refine lv_iload_n M.x M.b d_M_chosenAhead_14 rfl (lv_at hl 4 rfl) ?_
  refine lv_bipush (v := (31 : Int32)) M.x M.b d_M_chosenAhead_15 rfl ?_
  replace hf := z_bind hf; obtain ⟨i4, e3, hf⟩ := hf
  refine zk_V (ci := 8) (st1 := [.int i4]) M hH hS (c_M_costOf e3) rfl (o_M_costOf e3) w_M_costOf q_581 [] rfl ⟨Nat.le_of_ble_eq_true rfl, Nat.le_of_ble_eq_true rfl⟩ hl.1 rfl rfl (Nat.le_of_ble_eq_true rfl) d_M_chosenAhead_17 (fun H locs hH hS => ?_)
  refine lv_istore (lv' := [(5, .int i4), (4, .int i2), (0, .ref this), (1, .int x1), (2, .int x2), (3, .int x3)]) M.x M.b d_M_chosenAhead_20 hl (by decide) rfl (fun ls hl => ?_)
  refine lv_iload M.x M.b d_M_chosenAhead_22 (lv_at hl 1 rfl) ?_
  refine lv_if_lt (tgt := 39) M.x M.b d_M_chosenAhead_24 (by decide) (fun c8 => ?_) (fun c8 => ?_)
  · replace hf := z_t c8 hf
    refine lv_iconst (v := (0 : Int32)) M.x M.b d_M_chosenAhead_39 rfl ?_
    refine lv_goto (tgt := 55) M.x M.b d_M_chosenAhead_40 (by decide) ?_
    obtain rfl := z_r1 hf
    exact z_iret M hH hS d_M_chosenAhead_55
  · replace hf := z_f c8 hf
    refine lv_iload M.x M.b d_M_chosenAhead_27 (lv_at hl 0 rfl) ?_
    refine lv_if_lt (tgt := 39) M.x M.b d_M_chosenAhead_29 (by decide) (fun c7 => ?_) (fun c7 => ?_)
    · replace hf := z_t c7 hf
      refine lv_iconst (v := (0 : Int32)) M.x M.b d_M_chosenAhead_39 rfl ?_
      refine lv_goto (tgt := 55) M.x M.b d_M_chosenAhead_40 (by decide) ?_
      obtain rfl := z_r1 hf
      exact z_iret M hH hS d_M_chosenAhead_55
    · replace hf := z_f c7 hf
      refine lv_iload M.x M.b d_M_chosenAhead_32 (lv_at hl 1 rfl) ?_
      refine lv_iload M.x M.b d_M_chosenAhead_34 (lv_at hl 0 rfl) ?_
      refine lv_icmp_ge (tgt := 43) M.x M.b d_M_chosenAhead_36 (by decide) (fun c6 => ?_) (fun c6 => ?_)
      · replace hf := z_t c6 hf
        refine lv_iload M.x M.b d_M_chosenAhead_43 (lv_at hl 1 rfl) ?_
        refine lv_iload M.x M.b d_M_chosenAhead_45 (lv_at hl 0 rfl) ?_
        refine lv_icmp_le (tgt := 54) M.x M.b d_M_chosenAhead_47 (by decide) (fun c5 => ?_) (fun c5 => ?_)
        · replace hf := z_t c5 hf
          refine lv_iconst (v := (1 : Int32)) M.x M.b d_M_chosenAhead_54 rfl ?_
          obtain rfl := z_r1 hf
          exact z_iret M hH hS d_M_chosenAhead_55
        · replace hf := z_f c5 hf
          refine lv_iconst (v := (2 : Int32)) M.x M.b d_M_chosenAhead_50 rfl ?_
          refine lv_goto (tgt := 55) M.x M.b d_M_chosenAhead_51 (by decide) ?_
          obtain rfl := z_r1 hf
          exact z_iret M hH hS d_M_chosenAhead_55
      · replace hf := z_f c6 hf
        refine lv_iconst (v := (0 : Int32)) M.x M.b d_M_chosenAhead_39 rfl ?_
        refine lv_goto (tgt := 55) M.x M.b d_M_chosenAhead_40 (by decide) ?_
        obtain rfl := z_r1 hf
        exact z_iret M hH hS d_M_chosenAhead_55
def f_M_chosen (this : Nat) (h : Hp) (x1 : Int32) (x2 : Int32) (x3 : Int32) : Option (Int32) :=
  if isO h this 8 = true then
  (f_M_isWho x1).bind fun i2 =>
  if i2 = 0 then
    some (-1001 : Int32)
  else
  (f_M_isYear x2).bind fun i4 =>
  if i4 = 0 then
    some (-1001 : Int32)
  else
  (f_M_isYear x3).bind fun i6 =>
  if i6 = 0 then
    some (-1001 : Int32)
  else
  (f_M_chosenAhead this h x1 x2 x3).bind fun i8 =>
  some i8
  else none
theorem o_M_chosen {this : Nat} {h : Hp} {x1 : Int32} {x2 : Int32} {x3 : Int32} {r0 : Int32} (hf : f_M_chosen this h x1 x2 x3 = some r0) : isO h this 8 = true := by
  unfold f_M_chosen at hf
  exact (z_gd hf).1
set_option maxRecDepth 100000 in
set_option maxHeartbeats 4000000 in
theorem c_M_chosen {l : Launch} {N0 : Nat} {D : va_G} {cs : Nat → ClassId} {this : Nat} {h : Hp} {x1 : Int32} {x2 : Int32} {x3 : Int32} {r0 : Int32} (hf : f_M_chosen this h x1 x2 x3 = some r0) : Fn l N0 D cs y_M_chosen b_M_chosen 4 (some .int) 4 0 0 [.ref this, .int x1, .int x2, .int x3] h (some (.int r0)) h := by
  refine z_start (by decide) (Nat.le_of_ble_eq_true rfl) ?_
  intro p e s m args below meth c M hH hS ls hl
  unfold f_M_chosen at hf
  obtain ⟨hO, hf⟩ := z_gd hf
  have hl : lv_has ls 4 [(0, .ref this), (1, .int x1), (2, .int x2), (3, .int x3)] := hl
  obtain ⟨H, hHe⟩ : ∃ H, H = s.heap := ⟨_, rfl⟩
  obtain ⟨locs, hLe⟩ : ∃ locs : List Loc, locs = [] := ⟨_, rfl⟩
  have hS : va_S (zA N0) s.heap H locs := by rw [hHe, hLe]; exact hS
  have hH : HH N0 D cs h H := by rw [hHe]; exact hH
  suffices hg : W p l e (zrm 4 0 0) s m args below meth c H locs 0 0 (MQ below (zQ N0 D cs (some (.int r0)) h) args s 0 0 (zA N0)) (F0 m 0 ls []) by rw [hHe, hLe] at hg; exact hg
  clear hHe hLe
  refine lv_iload_n M.x M.b d_M_chosen_0 rfl (lv_at hl 1 rfl) ?_
  replace hf := z_bind hf; obtain ⟨i2, e1, hf⟩ := hf
  refine zk_S (st1 := [.int i2]) M hH hS (c_M_isWho e1) w_M_isWho q_582 [] rfl ⟨Nat.le_of_ble_eq_true rfl, Nat.le_of_ble_eq_true rfl⟩ hl.1 rfl rfl (Nat.le_of_ble_eq_true rfl) d_M_chosen_1 (fun H locs hH hS => ?_)
  refine lv_if_eq (tgt := 31) M.x M.b d_M_chosen_4 (by decide) (fun c11 => ?_) (fun c11 => ?_)
  · replace hf := z_t c11 hf
    refine lv_sipush (v := (-1001 : Int32)) M.x M.b d_M_chosen_31 rfl ?_
    obtain rfl := z_r1 hf
    exact z_iret M hH hS d_M_chosen_34
  · replace hf := z_f c11 hf
    refine lv_iload_n M.x M.b d_M_chosen_7 rfl (lv_at hl 2 rfl) ?_
    replace hf := z_bind hf; obtain ⟨i4, e3, hf⟩ := hf
    refine zk_S (st1 := [.int i4]) M hH hS (c_M_isYear e3) w_M_isYear q_564 [] rfl ⟨Nat.le_of_ble_eq_true rfl, Nat.le_of_ble_eq_true rfl⟩ hl.1 rfl rfl (Nat.le_of_ble_eq_true rfl) d_M_chosen_8 (fun H locs hH hS => ?_)
    refine lv_if_eq (tgt := 31) M.x M.b d_M_chosen_11 (by decide) (fun c10 => ?_) (fun c10 => ?_)
    · replace hf := z_t c10 hf
      refine lv_sipush (v := (-1001 : Int32)) M.x M.b d_M_chosen_31 rfl ?_
      obtain rfl := z_r1 hf
      exact z_iret M hH hS d_M_chosen_34
    · replace hf := z_f c10 hf
      refine lv_iload_n M.x M.b d_M_chosen_14 rfl (lv_at hl 3 rfl) ?_
      replace hf := z_bind hf; obtain ⟨i6, e5, hf⟩ := hf
      refine zk_S (st1 := [.int i6]) M hH hS (c_M_isYear e5) w_M_isYear q_564 [] rfl ⟨Nat.le_of_ble_eq_true rfl, Nat.le_of_ble_eq_true rfl⟩ hl.1 rfl rfl (Nat.le_of_ble_eq_true rfl) d_M_chosen_15 (fun H locs hH hS => ?_)
      refine lv_if_eq (tgt := 31) M.x M.b d_M_chosen_18 (by decide) (fun c9 => ?_) (fun c9 => ?_)
      · replace hf := z_t c9 hf
        refine lv_sipush (v := (-1001 : Int32)) M.x M.b d_M_chosen_31 rfl ?_
        obtain rfl := z_r1 hf
        exact z_iret M hH hS d_M_chosen_34
      · replace hf := z_f c9 hf
        refine lv_aload_n M.x M.b d_M_chosen_21 rfl (lv_at hl 0 rfl) ?_
        refine lv_iload_n M.x M.b d_M_chosen_22 rfl (lv_at hl 1 rfl) ?_
        refine lv_iload_n M.x M.b d_M_chosen_23 rfl (lv_at hl 2 rfl) ?_
        refine lv_iload_n M.x M.b d_M_chosen_24 rfl (lv_at hl 3 rfl) ?_
        replace hf := z_bind hf; obtain ⟨i8, e7, hf⟩ := hf
        refine zk_V (ci := 8) (st1 := [.int i8]) M hH hS (c_M_chosenAhead e7) rfl (o_M_chosenAhead e7) w_M_chosenAhead q_848 [] rfl ⟨Nat.le_of_ble_eq_true rfl, Nat.le_of_ble_eq_true rfl⟩ hl.1 rfl rfl (Nat.le_of_ble_eq_true rfl) d_M_chosen_25 (fun H locs hH hS => ?_)
        refine lv_goto (tgt := 34) M.x M.b d_M_chosen_28 (by decide) ?_
        obtain rfl := z_r1 hf
        exact z_iret M hH hS d_M_chosen_34
def f_M_findWalks_283 (this : Nat) (k107 : Int32 → Hp → Option (Hp)) (k115 : Int32 → Int32 → Hp → Option (Hp)) (k124 : Int32 → Int32 → Int32 → Hp → Option (Hp)) (x2 : Int32) (x3 : Int32) (x4 : Int32) (h : Hp) : Option (Hp) :=
  k124 x2 x3 (x4 + (1 : Int32)) h
set_option maxRecDepth 100000 in
set_option maxHeartbeats 4000000 in
theorem w_M_findWalks_283 {p : Program} {l : Launch} {e : Env} {s : State} {m : MethodId} {args : Array Value} {below : List Frame} {meth : Method} {c : Code} {N0 : Nat} {D : va_G} {cs : Nat → ClassId} (M : ZC p s m args meth c "YearBasketsModel" "findWalks" b_M_findWalks 8 (none) N0 D cs) (this : Nat) (k107 : Int32 → Hp → Option (Hp)) (k115 : Int32 → Int32 → Hp → Option (Hp)) (k124 : Int32 → Int32 → Int32 → Hp → Option (Hp)) {h0 : Hp} (hk107 : ∀ (x2 : Int32) (h : Hp), k107 x2 h = some h0 → ZG p l e (zrm 4 0 0) s m args below meth c N0 D cs none h0 h 8 [(0, .ref this), (2, .int x2)] 107 []) (hk115 : ∀ (x2 : Int32) (x3 : Int32) (h : Hp), k115 x2 x3 h = some h0 → ZG p l e (zrm 4 0 0) s m args below meth c N0 D cs none h0 h 8 [(0, .ref this), (2, .int x2), (3, .int x3)] 115 []) (hk124 : ∀ (x2 : Int32) (x3 : Int32) (x4 : Int32) (h : Hp), k124 x2 x3 x4 h = some h0 → ZG p l e (zrm 4 0 0) s m args below meth c N0 D cs none h0 h 8 [(0, .ref this), (2, .int x2), (3, .int x3), (4, .int x4)] 124 []) (x2 : Int32) (x3 : Int32) (x4 : Int32) (h : Hp) (hf : f_M_findWalks_283 this k107 k115 k124 x2 x3 x4 h = some h0) : ZG p l e (zrm 4 0 0) s m args below meth c N0 D cs none h0 h 8 [(0, .ref this), (2, .int x2), (3, .int x3), (4, .int x4)] 283 [] := by
  intro H locs ls hH hS hl
  unfold f_M_findWalks_283 at hf
  refine lv_iinc (v := (x4 + (1 : Int32))) (lv' := [(4, .int (x4 + (1 : Int32))), (0, .ref this), (2, .int x2), (3, .int x3)]) M.x M.b d_M_findWalks_283 hl (k := 3) rfl rfl (by decide) rfl (fun ls hl => ?_)
  refine lv_goto (tgt := 124) M.x M.b d_M_findWalks_286 (by decide) ?_
  exact hk124 _ _ _ _ hf H locs ls hH hS (lv_sub hl [1, 2, 3, 0] rfl)
def f_M_findWalks_276 (this : Nat) (k107 : Int32 → Hp → Option (Hp)) (k115 : Int32 → Int32 → Hp → Option (Hp)) (k124 : Int32 → Int32 → Int32 → Hp → Option (Hp)) (k134 : Int32 → Int32 → Int32 → Int32 → Hp → Option (Hp)) (s0 : Nat) (s1 : Int32) (s2 : Int32) (x2 : Int32) (x3 : Int32) (x4 : Int32) (x5 : Int32) (h : Hp) : Option (Hp) :=
  (sZ h s0 s1 s2).bind fun h2 =>
  k134 x2 x3 x4 (x5 + (1 : Int32)) h2
set_option maxRecDepth 100000 in
set_option maxHeartbeats 4000000 in
theorem w_M_findWalks_276 {p : Program} {l : Launch} {e : Env} {s : State} {m : MethodId} {args : Array Value} {below : List Frame} {meth : Method} {c : Code} {N0 : Nat} {D : va_G} {cs : Nat → ClassId} (M : ZC p s m args meth c "YearBasketsModel" "findWalks" b_M_findWalks 8 (none) N0 D cs) (this : Nat) (k107 : Int32 → Hp → Option (Hp)) (k115 : Int32 → Int32 → Hp → Option (Hp)) (k124 : Int32 → Int32 → Int32 → Hp → Option (Hp)) (k134 : Int32 → Int32 → Int32 → Int32 → Hp → Option (Hp)) {h0 : Hp} (hk107 : ∀ (x2 : Int32) (h : Hp), k107 x2 h = some h0 → ZG p l e (zrm 4 0 0) s m args below meth c N0 D cs none h0 h 8 [(0, .ref this), (2, .int x2)] 107 []) (hk115 : ∀ (x2 : Int32) (x3 : Int32) (h : Hp), k115 x2 x3 h = some h0 → ZG p l e (zrm 4 0 0) s m args below meth c N0 D cs none h0 h 8 [(0, .ref this), (2, .int x2), (3, .int x3)] 115 []) (hk124 : ∀ (x2 : Int32) (x3 : Int32) (x4 : Int32) (h : Hp), k124 x2 x3 x4 h = some h0 → ZG p l e (zrm 4 0 0) s m args below meth c N0 D cs none h0 h 8 [(0, .ref this), (2, .int x2), (3, .int x3), (4, .int x4)] 124 []) (hk134 : ∀ (x2 : Int32) (x3 : Int32) (x4 : Int32) (x5 : Int32) (h : Hp), k134 x2 x3 x4 x5 h = some h0 → ZG p l e (zrm 4 0 0) s m args below meth c N0 D cs none h0 h 8 [(0, .ref this), (2, .int x2), (3, .int x3), (4, .int x4), (5, .int x5)] 134 []) (s0 : Nat) (s1 : Int32) (s2 : Int32) (x2 : Int32) (x3 : Int32) (x4 : Int32) (x5 : Int32) (h : Hp) (hf : f_M_findWalks_276 this k107 k115 k124 k134 s0 s1 s2 x2 x3 x4 x5 h = some h0) : ZG p l e (zrm 4 0 0) s m args below meth c N0 D cs none h0 h 8 [(0, .ref this), (2, .int x2), (3, .int x3), (4, .int x4), (5, .int x5)] 276 [.int s2, .int s1, .ref s0] := by
  intro H locs ls hH hS hl
  unfold f_M_findWalks_276 at hf
  replace hf := z_bind hf; obtain ⟨h2, e1, hf⟩ := hf
  refine z_zast M hH hS e1 d_M_findWalks_276 (fun H locs hH hS => ?_)
  refine lv_iinc (v := (x5 + (1 : Int32))) (lv' := [(5, .int (x5 + (1 : Int32))), (0, .ref this), (2, .int x2), (3, .int x3), (4, .int x4)]) M.x M.b d_M_findWalks_277 hl (k := 4) rfl rfl (by decide) rfl (fun ls hl => ?_)
  refine lv_goto (tgt := 134) M.x M.b d_M_findWalks_280 (by decide) ?_
  exact hk134 _ _ _ _ _ hf H locs ls hH hS (lv_sub hl [1, 2, 3, 4, 0] rfl)
def f_M_findWalks_275 (this : Nat) (k107 : Int32 → Hp → Option (Hp)) (k115 : Int32 → Int32 → Hp → Option (Hp)) (k124 : Int32 → Int32 → Int32 → Hp → Option (Hp)) (k134 : Int32 → Int32 → Int32 → Int32 → Hp → Option (Hp)) (s0 : Nat) (s1 : Int32) (x2 : Int32) (x3 : Int32) (x4 : Int32) (x5 : Int32) (h : Hp) : Option (Hp) :=
  f_M_findWalks_276 this k107 k115 k124 k134 s0 s1 (0 : Int32) x2 x3 x4 x5 h
set_option maxRecDepth 100000 in
set_option maxHeartbeats 4000000 in
theorem w_M_findWalks_275 {p : Program} {l : Launch} {e : Env} {s : State} {m : MethodId} {args : Array Value} {below : List Frame} {meth : Method} {c : Code} {N0 : Nat} {D : va_G} {cs : Nat → ClassId} (M : ZC p s m args meth c "YearBasketsModel" "findWalks" b_M_findWalks 8 (none) N0 D cs) (this : Nat) (k107 : Int32 → Hp → Option (Hp)) (k115 : Int32 → Int32 → Hp → Option (Hp)) (k124 : Int32 → Int32 → Int32 → Hp → Option (Hp)) (k134 : Int32 → Int32 → Int32 → Int32 → Hp → Option (Hp)) {h0 : Hp} (hk107 : ∀ (x2 : Int32) (h : Hp), k107 x2 h = some h0 → ZG p l e (zrm 4 0 0) s m args below meth c N0 D cs none h0 h 8 [(0, .ref this), (2, .int x2)] 107 []) (hk115 : ∀ (x2 : Int32) (x3 : Int32) (h : Hp), k115 x2 x3 h = some h0 → ZG p l e (zrm 4 0 0) s m args below meth c N0 D cs none h0 h 8 [(0, .ref this), (2, .int x2), (3, .int x3)] 115 []) (hk124 : ∀ (x2 : Int32) (x3 : Int32) (x4 : Int32) (h : Hp), k124 x2 x3 x4 h = some h0 → ZG p l e (zrm 4 0 0) s m args below meth c N0 D cs none h0 h 8 [(0, .ref this), (2, .int x2), (3, .int x3), (4, .int x4)] 124 []) (hk134 : ∀ (x2 : Int32) (x3 : Int32) (x4 : Int32) (x5 : Int32) (h : Hp), k134 x2 x3 x4 x5 h = some h0 → ZG p l e (zrm 4 0 0) s m args below meth c N0 D cs none h0 h 8 [(0, .ref this), (2, .int x2), (3, .int x3), (4, .int x4), (5, .int x5)] 134 []) (s0 : Nat) (s1 : Int32) (x2 : Int32) (x3 : Int32) (x4 : Int32) (x5 : Int32) (h : Hp) (hf : f_M_findWalks_275 this k107 k115 k124 k134 s0 s1 x2 x3 x4 x5 h = some h0) : ZG p l e (zrm 4 0 0) s m args below meth c N0 D cs none h0 h 8 [(0, .ref this), (2, .int x2), (3, .int x3), (4, .int x4), (5, .int x5)] 275 [.int s1, .ref s0] := by
  intro H locs ls hH hS hl
  unfold f_M_findWalks_275 at hf
  refine lv_iconst (v := (0 : Int32)) M.x M.b d_M_findWalks_275 rfl ?_
  exact w_M_findWalks_276 M this k107 k115 k124 k134 hk107 hk115 hk124 hk134 _ _ _ _ _ _ _ _ hf H locs ls hH hS (lv_sub hl [0, 1, 2, 3, 4] rfl)
def f_M_findWalks_271 (this : Nat) (k107 : Int32 → Hp → Option (Hp)) (k115 : Int32 → Int32 → Hp → Option (Hp)) (k124 : Int32 → Int32 → Int32 → Hp → Option (Hp)) (k134 : Int32 → Int32 → Int32 → Int32 → Hp → Option (Hp)) (s0 : Nat) (s1 : Int32) (x2 : Int32) (x3 : Int32) (x4 : Int32) (x5 : Int32) (h : Hp) : Option (Hp) :=
  f_M_findWalks_276 this k107 k115 k124 k134 s0 s1 (1 : Int32) x2 x3 x4 x5 h
set_option maxRecDepth 100000 in
set_option maxHeartbeats 4000000 in
theorem w_M_findWalks_271 {p : Program} {l : Launch} {e : Env} {s : State} {m : MethodId} {args : Array Value} {below : List Frame} {meth : Method} {c : Code} {N0 : Nat} {D : va_G} {cs : Nat → ClassId} (M : ZC p s m args meth c "YearBasketsModel" "findWalks" b_M_findWalks 8 (none) N0 D cs) (this : Nat) (k107 : Int32 → Hp → Option (Hp)) (k115 : Int32 → Int32 → Hp → Option (Hp)) (k124 : Int32 → Int32 → Int32 → Hp → Option (Hp)) (k134 : Int32 → Int32 → Int32 → Int32 → Hp → Option (Hp)) {h0 : Hp} (hk107 : ∀ (x2 : Int32) (h : Hp), k107 x2 h = some h0 → ZG p l e (zrm 4 0 0) s m args below meth c N0 D cs none h0 h 8 [(0, .ref this), (2, .int x2)] 107 []) (hk115 : ∀ (x2 : Int32) (x3 : Int32) (h : Hp), k115 x2 x3 h = some h0 → ZG p l e (zrm 4 0 0) s m args below meth c N0 D cs none h0 h 8 [(0, .ref this), (2, .int x2), (3, .int x3)] 115 []) (hk124 : ∀ (x2 : Int32) (x3 : Int32) (x4 : Int32) (h : Hp), k124 x2 x3 x4 h = some h0 → ZG p l e (zrm 4 0 0) s m args below meth c N0 D cs none h0 h 8 [(0, .ref this), (2, .int x2), (3, .int x3), (4, .int x4)] 124 []) (hk134 : ∀ (x2 : Int32) (x3 : Int32) (x4 : Int32) (x5 : Int32) (h : Hp), k134 x2 x3 x4 x5 h = some h0 → ZG p l e (zrm 4 0 0) s m args below meth c N0 D cs none h0 h 8 [(0, .ref this), (2, .int x2), (3, .int x3), (4, .int x4), (5, .int x5)] 134 []) (s0 : Nat) (s1 : Int32) (x2 : Int32) (x3 : Int32) (x4 : Int32) (x5 : Int32) (h : Hp) (hf : f_M_findWalks_271 this k107 k115 k124 k134 s0 s1 x2 x3 x4 x5 h = some h0) : ZG p l e (zrm 4 0 0) s m args below meth c N0 D cs none h0 h 8 [(0, .ref this), (2, .int x2), (3, .int x3), (4, .int x4), (5, .int x5)] 271 [.int s1, .ref s0] := by
  intro H locs ls hH hS hl
  unfold f_M_findWalks_271 at hf
  refine lv_iconst (v := (1 : Int32)) M.x M.b d_M_findWalks_271 rfl ?_
  refine lv_goto (tgt := 276) M.x M.b d_M_findWalks_272 (by decide) ?_
  exact w_M_findWalks_276 M this k107 k115 k124 k134 hk107 hk115 hk124 hk134 _ _ _ _ _ _ _ _ hf H locs ls hH hS (lv_sub hl [0, 1, 2, 3, 4] rfl)
def f_M_findWalks_218 (this : Nat) (k107 : Int32 → Hp → Option (Hp)) (k115 : Int32 → Int32 → Hp → Option (Hp)) (k124 : Int32 → Int32 → Int32 → Hp → Option (Hp)) (k134 : Int32 → Int32 → Int32 → Int32 → Hp → Option (Hp)) (s0 : Nat) (s1 : Int32) (s2 : Int32) (x2 : Int32) (x3 : Int32) (x4 : Int32) (x5 : Int32) (x6 : Int32) (x7 : Int32) (h : Hp) : Option (Hp) :=
  (sZ h s0 s1 s2).bind fun h4 =>
  (gA h4 this 8 38).bind fun r5 =>
  (gA h4 this 8 38).bind fun r7 =>
  (r7).bind fun a9 =>
  (aI h4 2 a9 x6).bind fun i12 =>
  if i12 = 0 then
    (gA h4 this 8 38).bind fun r15 =>
    (r15).bind fun a17 =>
    (aI h4 2 a17 x7).bind fun i20 =>
    if i20 = 0 then
      (gA h4 this 8 39).bind fun r23 =>
      (r23).bind fun a25 =>
      (aI h4 0 a25 (((10 : Int32) * x3) + x4)).bind fun i28 =>
      if i28 = (2 : Int32) then
        (gA h4 this 8 37).bind fun r31 =>
        (r31).bind fun a33 =>
        (aI h4 2 a33 x7).bind fun i36 =>
        if i36 = 0 then
          (r5).bind fun a37 =>
          f_M_findWalks_275 this k107 k115 k124 k134 a37 x6 x2 x3 x4 x5 h4
        else
        (r5).bind fun a39 =>
        f_M_findWalks_271 this k107 k115 k124 k134 a39 x6 x2 x3 x4 x5 h4
      else
      (r5).bind fun a29 =>
      f_M_findWalks_275 this k107 k115 k124 k134 a29 x6 x2 x3 x4 x5 h4
    else
    (r5).bind fun a21 =>
    f_M_findWalks_271 this k107 k115 k124 k134 a21 x6 x2 x3 x4 x5 h4
  else
  (r5).bind fun a13 =>
  f_M_findWalks_271 this k107 k115 k124 k134 a13 x6 x2 x3 x4 x5 h4
set_option maxRecDepth 100000 in
set_option maxHeartbeats 4000000 in
theorem w_M_findWalks_218 {p : Program} {l : Launch} {e : Env} {s : State} {m : MethodId} {args : Array Value} {below : List Frame} {meth : Method} {c : Code} {N0 : Nat} {D : va_G} {cs : Nat → ClassId} (M : ZC p s m args meth c "YearBasketsModel" "findWalks" b_M_findWalks 8 (none) N0 D cs) (this : Nat) (k107 : Int32 → Hp → Option (Hp)) (k115 : Int32 → Int32 → Hp → Option (Hp)) (k124 : Int32 → Int32 → Int32 → Hp → Option (Hp)) (k134 : Int32 → Int32 → Int32 → Int32 → Hp → Option (Hp)) {h0 : Hp} (hk107 : ∀ (x2 : Int32) (h : Hp), k107 x2 h = some h0 → ZG p l e (zrm 4 0 0) s m args below meth c N0 D cs none h0 h 8 [(0, .ref this), (2, .int x2)] 107 []) (hk115 : ∀ (x2 : Int32) (x3 : Int32) (h : Hp), k115 x2 x3 h = some h0 → ZG p l e (zrm 4 0 0) s m args below meth c N0 D cs none h0 h 8 [(0, .ref this), (2, .int x2), (3, .int x3)] 115 []) (hk124 : ∀ (x2 : Int32) (x3 : Int32) (x4 : Int32) (h : Hp), k124 x2 x3 x4 h = some h0 → ZG p l e (zrm 4 0 0) s m args below meth c N0 D cs none h0 h 8 [(0, .ref this), (2, .int x2), (3, .int x3), (4, .int x4)] 124 []) (hk134 : ∀ (x2 : Int32) (x3 : Int32) (x4 : Int32) (x5 : Int32) (h : Hp), k134 x2 x3 x4 x5 h = some h0 → ZG p l e (zrm 4 0 0) s m args below meth c N0 D cs none h0 h 8 [(0, .ref this), (2, .int x2), (3, .int x3), (4, .int x4), (5, .int x5)] 134 []) (s0 : Nat) (s1 : Int32) (s2 : Int32) (x2 : Int32) (x3 : Int32) (x4 : Int32) (x5 : Int32) (x6 : Int32) (x7 : Int32) (h : Hp) (hf : f_M_findWalks_218 this k107 k115 k124 k134 s0 s1 s2 x2 x3 x4 x5 x6 x7 h = some h0) : ZG p l e (zrm 4 0 0) s m args below meth c N0 D cs none h0 h 8 [(0, .ref this), (2, .int x2), (3, .int x3), (4, .int x4), (5, .int x5), (6, .int x6), (7, .int x7)] 218 [.int s2, .int s1, .ref s0] := by
  intro H locs ls hH hS hl
  unfold f_M_findWalks_218 at hf
  replace hf := z_bind hf; obtain ⟨h4, e3, hf⟩ := hf
  refine z_zast M hH hS e3 d_M_findWalks_218 (fun H locs hH hS => ?_)
  refine lv_aload_n M.x M.b d_M_findWalks_219 rfl (lv_at hl 0 rfl) ?_
  replace hf := z_bind hf; obtain ⟨r5, e6, hf⟩ := hf
  refine z_get (ci := 8) (k := 38) M hH rfl (by decide) zinM q_854 (gA_spec e6) d_M_findWalks_220 ?_
  refine lv_iload M.x M.b d_M_findWalks_223 (lv_at hl 5 rfl) ?_
  refine lv_aload_n M.x M.b d_M_findWalks_225 rfl (lv_at hl 0 rfl) ?_
  replace hf := z_bind hf; obtain ⟨r7, e8, hf⟩ := hf
  refine z_get (ci := 8) (k := 38) M hH rfl (by decide) zinM q_854 (gA_spec e8) d_M_findWalks_226 ?_
  refine lv_iload M.x M.b d_M_findWalks_229 (lv_at hl 5 rfl) ?_
  rcases r7 with _ | a9
  · exact absurd hf z_nb0
  replace hf := z_sb hf
  replace hf := z_bind hf; obtain ⟨i12, e11, hf⟩ := hf
  refine z_zald M hH e11 d_M_findWalks_231 ?_
  refine lv_if_ne (tgt := 271) M.x M.b d_M_findWalks_232 (by decide) (fun c44 => ?_) (fun c44 => ?_)
  · replace hf := z_f c44 hf
    rcases r5 with _ | a13
    · exact absurd hf z_nb0
    replace hf := z_sb hf
    exact w_M_findWalks_271 M this k107 k115 k124 k134 hk107 hk115 hk124 hk134 _ _ _ _ _ _ _ hf H locs ls hH hS (lv_sub hl [0, 1, 2, 3, 4] rfl)
  · replace hf := z_t c44 hf
    refine lv_aload_n M.x M.b d_M_findWalks_235 rfl (lv_at hl 0 rfl) ?_
    replace hf := z_bind hf; obtain ⟨r15, e16, hf⟩ := hf
    refine z_get (ci := 8) (k := 38) M hH rfl (by decide) zinM q_854 (gA_spec e16) d_M_findWalks_236 ?_
    refine lv_iload M.x M.b d_M_findWalks_239 (lv_at hl 6 rfl) ?_
    rcases r15 with _ | a17
    · exact absurd hf z_nb0
    replace hf := z_sb hf
    replace hf := z_bind hf; obtain ⟨i20, e19, hf⟩ := hf
    refine z_zald M hH e19 d_M_findWalks_241 ?_
    refine lv_if_ne (tgt := 271) M.x M.b d_M_findWalks_242 (by decide) (fun c43 => ?_) (fun c43 => ?_)
    · replace hf := z_f c43 hf
      rcases r5 with _ | a21
      · exact absurd hf z_nb0
      replace hf := z_sb hf
      exact w_M_findWalks_271 M this k107 k115 k124 k134 hk107 hk115 hk124 hk134 _ _ _ _ _ _ _ hf H locs ls hH hS (lv_sub hl [0, 1, 2, 3, 4] rfl)
    · replace hf := z_t c43 hf
      refine lv_aload_n M.x M.b d_M_findWalks_245 rfl (lv_at hl 0 rfl) ?_
      replace hf := z_bind hf; obtain ⟨r23, e24, hf⟩ := hf
      refine z_get (ci := 8) (k := 39) M hH rfl (by decide) zinM q_853 (gA_spec e24) d_M_findWalks_246 ?_
      refine lv_bipush (v := (10 : Int32)) M.x M.b d_M_findWalks_249 rfl ?_
      refine lv_iload_n M.x M.b d_M_findWalks_251 rfl (lv_at hl 2 rfl) ?_
      refine lv_imul M.x M.b d_M_findWalks_252 ?_
      refine lv_iload M.x M.b d_M_findWalks_253 (lv_at hl 3 rfl) ?_
      refine lv_iadd M.x M.b d_M_findWalks_255 ?_
      rcases r23 with _ | a25
      · exact absurd hf z_nb0
      replace hf := z_sb hf
      replace hf := z_bind hf; obtain ⟨i28, e27, hf⟩ := hf
      refine z_iald M hH e27 d_M_findWalks_256 ?_
      refine lv_iconst (v := (2 : Int32)) M.x M.b d_M_findWalks_257 rfl ?_
      refine lv_icmp_ne (tgt := 275) M.x M.b d_M_findWalks_258 (by decide) (fun c42 => ?_) (fun c42 => ?_)
      · replace hf := z_f c42 hf
        rcases r5 with _ | a29
        · exact absurd hf z_nb0
        replace hf := z_sb hf
        exact w_M_findWalks_275 M this k107 k115 k124 k134 hk107 hk115 hk124 hk134 _ _ _ _ _ _ _ hf H locs ls hH hS (lv_sub hl [0, 1, 2, 3, 4] rfl)
      · replace hf := z_t c42 hf
        refine lv_aload_n M.x M.b d_M_findWalks_261 rfl (lv_at hl 0 rfl) ?_
        replace hf := z_bind hf; obtain ⟨r31, e32, hf⟩ := hf
        refine z_get (ci := 8) (k := 37) M hH rfl (by decide) zinM q_852 (gA_spec e32) d_M_findWalks_262 ?_
        refine lv_iload M.x M.b d_M_findWalks_265 (lv_at hl 6 rfl) ?_
        rcases r31 with _ | a33
        · exact absurd hf z_nb0
        replace hf := z_sb hf
        replace hf := z_bind hf; obtain ⟨i36, e35, hf⟩ := hf
        refine z_zald M hH e35 d_M_findWalks_267 ?_
        refine lv_if_eq (tgt := 275) M.x M.b d_M_findWalks_268 (by decide) (fun c41 => ?_) (fun c41 => ?_)
        · replace hf := z_t c41 hf
          rcases r5 with _ | a37
          · exact absurd hf z_nb0
          replace hf := z_sb hf
          exact w_M_findWalks_275 M this k107 k115 k124 k134 hk107 hk115 hk124 hk134 _ _ _ _ _ _ _ hf H locs ls hH hS (lv_sub hl [0, 1, 2, 3, 4] rfl)
        · replace hf := z_f c41 hf
          rcases r5 with _ | a39
          · exact absurd hf z_nb0
          replace hf := z_sb hf
          exact w_M_findWalks_271 M this k107 k115 k124 k134 hk107 hk115 hk124 hk134 _ _ _ _ _ _ _ hf H locs ls hH hS (lv_sub hl [0, 1, 2, 3, 4] rfl)
def f_M_findWalks_213 (this : Nat) (k107 : Int32 → Hp → Option (Hp)) (k115 : Int32 → Int32 → Hp → Option (Hp)) (k124 : Int32 → Int32 → Int32 → Hp → Option (Hp)) (k134 : Int32 → Int32 → Int32 → Int32 → Hp → Option (Hp)) (s0 : Nat) (s1 : Int32) (x2 : Int32) (x3 : Int32) (x4 : Int32) (x5 : Int32) (x6 : Int32) (x7 : Int32) (h : Hp) : Option (Hp) :=
  f_M_findWalks_218 this k107 k115 k124 k134 s0 s1 (1 : Int32) x2 x3 x4 x5 x6 x7 h
set_option maxRecDepth 100000 in
set_option maxHeartbeats 4000000 in
theorem w_M_findWalks_213 {p : Program} {l : Launch} {e : Env} {s : State} {m : MethodId} {args : Array Value} {below : List Frame} {meth : Method} {c : Code} {N0 : Nat} {D : va_G} {cs : Nat → ClassId} (M : ZC p s m args meth c "YearBasketsModel" "findWalks" b_M_findWalks 8 (none) N0 D cs) (this : Nat) (k107 : Int32 → Hp → Option (Hp)) (k115 : Int32 → Int32 → Hp → Option (Hp)) (k124 : Int32 → Int32 → Int32 → Hp → Option (Hp)) (k134 : Int32 → Int32 → Int32 → Int32 → Hp → Option (Hp)) {h0 : Hp} (hk107 : ∀ (x2 : Int32) (h : Hp), k107 x2 h = some h0 → ZG p l e (zrm 4 0 0) s m args below meth c N0 D cs none h0 h 8 [(0, .ref this), (2, .int x2)] 107 []) (hk115 : ∀ (x2 : Int32) (x3 : Int32) (h : Hp), k115 x2 x3 h = some h0 → ZG p l e (zrm 4 0 0) s m args below meth c N0 D cs none h0 h 8 [(0, .ref this), (2, .int x2), (3, .int x3)] 115 []) (hk124 : ∀ (x2 : Int32) (x3 : Int32) (x4 : Int32) (h : Hp), k124 x2 x3 x4 h = some h0 → ZG p l e (zrm 4 0 0) s m args below meth c N0 D cs none h0 h 8 [(0, .ref this), (2, .int x2), (3, .int x3), (4, .int x4)] 124 []) (hk134 : ∀ (x2 : Int32) (x3 : Int32) (x4 : Int32) (x5 : Int32) (h : Hp), k134 x2 x3 x4 x5 h = some h0 → ZG p l e (zrm 4 0 0) s m args below meth c N0 D cs none h0 h 8 [(0, .ref this), (2, .int x2), (3, .int x3), (4, .int x4), (5, .int x5)] 134 []) (s0 : Nat) (s1 : Int32) (x2 : Int32) (x3 : Int32) (x4 : Int32) (x5 : Int32) (x6 : Int32) (x7 : Int32) (h : Hp) (hf : f_M_findWalks_213 this k107 k115 k124 k134 s0 s1 x2 x3 x4 x5 x6 x7 h = some h0) : ZG p l e (zrm 4 0 0) s m args below meth c N0 D cs none h0 h 8 [(0, .ref this), (2, .int x2), (3, .int x3), (4, .int x4), (5, .int x5), (6, .int x6), (7, .int x7)] 213 [.int s1, .ref s0] := by
  intro H locs ls hH hS hl
  unfold f_M_findWalks_213 at hf
  refine lv_iconst (v := (1 : Int32)) M.x M.b d_M_findWalks_213 rfl ?_
  refine lv_goto (tgt := 218) M.x M.b d_M_findWalks_214 (by decide) ?_
  exact w_M_findWalks_218 M this k107 k115 k124 k134 hk107 hk115 hk124 hk134 _ _ _ _ _ _ _ _ _ _ hf H locs ls hH hS (lv_sub hl [0, 1, 2, 3, 4, 5, 6] rfl)
def t_M_findWalks_134 (this : Nat) (k107 : Int32 → Hp → Option (Hp)) (k115 : Int32 → Int32 → Hp → Option (Hp)) (k124 : Int32 → Int32 → Int32 → Hp → Option (Hp)) (k134 : Int32 → Int32 → Int32 → Int32 → Hp → Option (Hp)) (x2 : Int32) (x3 : Int32) (x4 : Int32) (x5 : Int32) (h : Hp) : Option (Hp) :=
  if (8 : Int32) ≤ x5 then
    f_M_findWalks_283 this k107 k115 k124 x2 x3 x4 h
  else
  (gA h this 8 39).bind fun r45 =>
  (r45).bind fun a47 =>
  (aI h 0 a47 (((10 : Int32) * x3) + x4)).bind fun i50 =>
  if i50 ≤ 0 then
    f_M_findWalks_283 this k107 k115 k124 x2 x3 x4 h
  else
  (gA h this 8 37).bind fun r51 =>
  (gA h this 8 37).bind fun r53 =>
  (r53).bind fun a55 =>
  (aI h 2 a55 ((((100 : Int32) * x2) + ((10 : Int32) * x3)) + x5)).bind fun i58 =>
  if i58 = 0 then
    (gA h this 8 37).bind fun r61 =>
    (r61).bind fun a63 =>
    (aI h 2 a63 ((((100 : Int32) * (x2 - (1 : Int32))) + ((10 : Int32) * x4)) + x5)).bind fun i66 =>
    if i66 = 0 then
      (r51).bind fun a67 =>
      f_M_findWalks_218 this k107 k115 k124 k134 a67 ((((100 : Int32) * x2) + ((10 : Int32) * x3)) + x5) (0 : Int32) x2 x3 x4 x5 ((((100 : Int32) * x2) + ((10 : Int32) * x3)) + x5) ((((100 : Int32) * (x2 - (1 : Int32))) + ((10 : Int32) * x4)) + x5) h
    else
    (r51).bind fun a69 =>
    f_M_findWalks_213 this k107 k115 k124 k134 a69 ((((100 : Int32) * x2) + ((10 : Int32) * x3)) + x5) x2 x3 x4 x5 ((((100 : Int32) * x2) + ((10 : Int32) * x3)) + x5) ((((100 : Int32) * (x2 - (1 : Int32))) + ((10 : Int32) * x4)) + x5) h
  else
  (r51).bind fun a59 =>
  f_M_findWalks_213 this k107 k115 k124 k134 a59 ((((100 : Int32) * x2) + ((10 : Int32) * x3)) + x5) x2 x3 x4 x5 ((((100 : Int32) * x2) + ((10 : Int32) * x3)) + x5) ((((100 : Int32) * (x2 - (1 : Int32))) + ((10 : Int32) * x4)) + x5) h
set_option maxRecDepth 100000 in
set_option maxHeartbeats 4000000 in
theorem v_M_findWalks_134 {p : Program} {l : Launch} {e : Env} {s : State} {m : MethodId} {args : Array Value} {below : List Frame} {meth : Method} {c : Code} {N0 : Nat} {D : va_G} {cs : Nat → ClassId} (M : ZC p s m args meth c "YearBasketsModel" "findWalks" b_M_findWalks 8 (none) N0 D cs) (this : Nat) (k107 : Int32 → Hp → Option (Hp)) (k115 : Int32 → Int32 → Hp → Option (Hp)) (k124 : Int32 → Int32 → Int32 → Hp → Option (Hp)) (k134 : Int32 → Int32 → Int32 → Int32 → Hp → Option (Hp)) {h0 : Hp} (hk107 : ∀ (x2 : Int32) (h : Hp), k107 x2 h = some h0 → ZG p l e (zrm 4 0 0) s m args below meth c N0 D cs none h0 h 8 [(0, .ref this), (2, .int x2)] 107 []) (hk115 : ∀ (x2 : Int32) (x3 : Int32) (h : Hp), k115 x2 x3 h = some h0 → ZG p l e (zrm 4 0 0) s m args below meth c N0 D cs none h0 h 8 [(0, .ref this), (2, .int x2), (3, .int x3)] 115 []) (hk124 : ∀ (x2 : Int32) (x3 : Int32) (x4 : Int32) (h : Hp), k124 x2 x3 x4 h = some h0 → ZG p l e (zrm 4 0 0) s m args below meth c N0 D cs none h0 h 8 [(0, .ref this), (2, .int x2), (3, .int x3), (4, .int x4)] 124 []) (hk134 : ∀ (x2 : Int32) (x3 : Int32) (x4 : Int32) (x5 : Int32) (h : Hp), k134 x2 x3 x4 x5 h = some h0 → ZG p l e (zrm 4 0 0) s m args below meth c N0 D cs none h0 h 8 [(0, .ref this), (2, .int x2), (3, .int x3), (4, .int x4), (5, .int x5)] 134 []) (x2 : Int32) (x3 : Int32) (x4 : Int32) (x5 : Int32) (h : Hp) (hf : t_M_findWalks_134 this k107 k115 k124 k134 x2 x3 x4 x5 h = some h0) : ZG p l e (zrm 4 0 0) s m args below meth c N0 D cs none h0 h 8 [(0, .ref this), (2, .int x2), (3, .int x3), (4, .int x4), (5, .int x5)] 134 [] := by
  intro H locs ls hH hS hl
  unfold t_M_findWalks_134 at hf
  refine lv_iload M.x M.b d_M_findWalks_134 (lv_at hl 4 rfl) ?_
  refine lv_bipush (v := (8 : Int32)) M.x M.b d_M_findWalks_136 rfl ?_
  refine lv_icmp_ge (tgt := 283) M.x M.b d_M_findWalks_138 (by decide) (fun c74 => ?_) (fun c74 => ?_)
  · replace hf := z_t c74 hf
    exact w_M_findWalks_283 M this k107 k115 k124 hk107 hk115 hk124 _ _ _ _ hf H locs ls hH hS (lv_sub hl [0, 1, 2, 3] rfl)
  · replace hf := z_f c74 hf
    refine lv_aload_n M.x M.b d_M_findWalks_141 rfl (lv_at hl 0 rfl) ?_
    replace hf := z_bind hf; obtain ⟨r45, e46, hf⟩ := hf
    refine z_get (ci := 8) (k := 39) M hH rfl (by decide) zinM q_853 (gA_spec e46) d_M_findWalks_142 ?_
    refine lv_bipush (v := (10 : Int32)) M.x M.b d_M_findWalks_145 rfl ?_
    refine lv_iload_n M.x M.b d_M_findWalks_147 rfl (lv_at hl 2 rfl) ?_
    refine lv_imul M.x M.b d_M_findWalks_148 ?_
    refine lv_iload M.x M.b d_M_findWalks_149 (lv_at hl 3 rfl) ?_
    refine lv_iadd M.x M.b d_M_findWalks_151 ?_
    rcases r45 with _ | a47
    · exact absurd hf z_nb0
    replace hf := z_sb hf
    replace hf := z_bind hf; obtain ⟨i50, e49, hf⟩ := hf
    refine z_iald M hH e49 d_M_findWalks_152 ?_
    refine lv_if_le (tgt := 283) M.x M.b d_M_findWalks_153 (by decide) (fun c73 => ?_) (fun c73 => ?_)
    · replace hf := z_t c73 hf
      exact w_M_findWalks_283 M this k107 k115 k124 hk107 hk115 hk124 _ _ _ _ hf H locs ls hH hS (lv_sub hl [0, 1, 2, 3] rfl)
    · replace hf := z_f c73 hf
      refine lv_bipush (v := (100 : Int32)) M.x M.b d_M_findWalks_156 rfl ?_
      refine lv_iload_n M.x M.b d_M_findWalks_158 rfl (lv_at hl 1 rfl) ?_
      refine lv_imul M.x M.b d_M_findWalks_159 ?_
      refine lv_bipush (v := (10 : Int32)) M.x M.b d_M_findWalks_160 rfl ?_
      refine lv_iload_n M.x M.b d_M_findWalks_162 rfl (lv_at hl 2 rfl) ?_
      refine lv_imul M.x M.b d_M_findWalks_163 ?_
      refine lv_iadd M.x M.b d_M_findWalks_164 ?_
      refine lv_iload M.x M.b d_M_findWalks_165 (lv_at hl 4 rfl) ?_
      refine lv_iadd M.x M.b d_M_findWalks_167 ?_
      refine lv_istore (lv' := [(6, .int ((((100 : Int32) * x2) + ((10 : Int32) * x3)) + x5)), (0, .ref this), (2, .int x2), (3, .int x3), (4, .int x4), (5, .int x5)]) M.x M.b d_M_findWalks_168 hl (by decide) rfl (fun ls hl => ?_)
      refine lv_bipush (v := (100 : Int32)) M.x M.b d_M_findWalks_170 rfl ?_
      refine lv_iload_n M.x M.b d_M_findWalks_172 rfl (lv_at hl 2 rfl) ?_
      refine lv_iconst (v := (1 : Int32)) M.x M.b d_M_findWalks_173 rfl ?_
      refine lv_isub M.x M.b d_M_findWalks_174 ?_
      refine lv_imul M.x M.b d_M_findWalks_175 ?_
      refine lv_bipush (v := (10 : Int32)) M.x M.b d_M_findWalks_176 rfl ?_
      refine lv_iload M.x M.b d_M_findWalks_178 (lv_at hl 4 rfl) ?_
      refine lv_imul M.x M.b d_M_findWalks_180 ?_
      refine lv_iadd M.x M.b d_M_findWalks_181 ?_
      refine lv_iload M.x M.b d_M_findWalks_182 (lv_at hl 5 rfl) ?_
      refine lv_iadd M.x M.b d_M_findWalks_184 ?_
      refine lv_istore (lv' := [(7, .int ((((100 : Int32) * (x2 - (1 : Int32))) + ((10 : Int32) * x4)) + x5)), (6, .int ((((100 : Int32) * x2) + ((10 : Int32) * x3)) + x5)), (0, .ref this), (2, .int x2), (3, .int x3), (4, .int x4), (5, .int x5)]) M.x M.b d_M_findWalks_185 hl (by decide) rfl (fun ls hl => ?_)
      refine lv_aload_n M.x M.b d_M_findWalks_187 rfl (lv_at hl 2 rfl) ?_
      replace hf := z_bind hf; obtain ⟨r51, e52, hf⟩ := hf
      refine z_get (ci := 8) (k := 37) M hH rfl (by decide) zinM q_852 (gA_spec e52) d_M_findWalks_188 ?_
      refine lv_iload M.x M.b d_M_findWalks_191 (lv_at hl 1 rfl) ?_
      refine lv_aload_n M.x M.b d_M_findWalks_193 rfl (lv_at hl 2 rfl) ?_
      replace hf := z_bind hf; obtain ⟨r53, e54, hf⟩ := hf
      refine z_get (ci := 8) (k := 37) M hH rfl (by decide) zinM q_852 (gA_spec e54) d_M_findWalks_194 ?_
      refine lv_iload M.x M.b d_M_findWalks_197 (lv_at hl 1 rfl) ?_
      rcases r53 with _ | a55
      · exact absurd hf z_nb0
      replace hf := z_sb hf
      replace hf := z_bind hf; obtain ⟨i58, e57, hf⟩ := hf
      refine z_zald M hH e57 d_M_findWalks_199 ?_
      refine lv_if_ne (tgt := 213) M.x M.b d_M_findWalks_200 (by decide) (fun c72 => ?_) (fun c72 => ?_)
      · replace hf := z_f c72 hf
        rcases r51 with _ | a59
        · exact absurd hf z_nb0
        replace hf := z_sb hf
        exact w_M_findWalks_213 M this k107 k115 k124 k134 hk107 hk115 hk124 hk134 _ _ _ _ _ _ _ _ _ hf H locs ls hH hS (lv_sub hl [2, 3, 4, 5, 6, 1, 0] rfl)
      · replace hf := z_t c72 hf
        refine lv_aload_n M.x M.b d_M_findWalks_203 rfl (lv_at hl 2 rfl) ?_
        replace hf := z_bind hf; obtain ⟨r61, e62, hf⟩ := hf
        refine z_get (ci := 8) (k := 37) M hH rfl (by decide) zinM q_852 (gA_spec e62) d_M_findWalks_204 ?_
        refine lv_iload M.x M.b d_M_findWalks_207 (lv_at hl 0 rfl) ?_
        rcases r61 with _ | a63
        · exact absurd hf z_nb0
        replace hf := z_sb hf
        replace hf := z_bind hf; obtain ⟨i66, e65, hf⟩ := hf
        refine z_zald M hH e65 d_M_findWalks_209 ?_
        refine lv_if_eq (tgt := 217) M.x M.b d_M_findWalks_210 (by decide) (fun c71 => ?_) (fun c71 => ?_)
        · replace hf := z_t c71 hf
          refine lv_iconst (v := (0 : Int32)) M.x M.b d_M_findWalks_217 rfl ?_
          rcases r51 with _ | a67
          · exact absurd hf z_nb0
          replace hf := z_sb hf
          exact w_M_findWalks_218 M this k107 k115 k124 k134 hk107 hk115 hk124 hk134 _ _ _ _ _ _ _ _ _ _ hf H locs ls hH hS (lv_sub hl [2, 3, 4, 5, 6, 1, 0] rfl)
        · replace hf := z_f c71 hf
          rcases r51 with _ | a69
          · exact absurd hf z_nb0
          replace hf := z_sb hf
          exact w_M_findWalks_213 M this k107 k115 k124 k134 hk107 hk115 hk124 hk134 _ _ _ _ _ _ _ _ _ hf H locs ls hH hS (lv_sub hl [2, 3, 4, 5, 6, 1, 0] rfl)
def f_M_findWalks_134 (this : Nat) (k107 : Int32 → Hp → Option (Hp)) (k115 : Int32 → Int32 → Hp → Option (Hp)) (k124 : Int32 → Int32 → Int32 → Hp → Option (Hp)) : Nat → Int32 → Int32 → Int32 → Int32 → Hp → Option (Hp)
  | 0, _, _, _, _, _ => none
  | n + 1, x2, x3, x4, x5, h => t_M_findWalks_134 this k107 k115 k124 (f_M_findWalks_134 this k107 k115 k124 n) x2 x3 x4 x5 h
theorem w_M_findWalks_134 {p : Program} {l : Launch} {e : Env} {s : State} {m : MethodId} {args : Array Value} {below : List Frame} {meth : Method} {c : Code} {N0 : Nat} {D : va_G} {cs : Nat → ClassId} (M : ZC p s m args meth c "YearBasketsModel" "findWalks" b_M_findWalks 8 (none) N0 D cs) (this : Nat) (k107 : Int32 → Hp → Option (Hp)) (k115 : Int32 → Int32 → Hp → Option (Hp)) (k124 : Int32 → Int32 → Int32 → Hp → Option (Hp)) {h0 : Hp} (hk107 : ∀ (x2 : Int32) (h : Hp), k107 x2 h = some h0 → ZG p l e (zrm 4 0 0) s m args below meth c N0 D cs none h0 h 8 [(0, .ref this), (2, .int x2)] 107 []) (hk115 : ∀ (x2 : Int32) (x3 : Int32) (h : Hp), k115 x2 x3 h = some h0 → ZG p l e (zrm 4 0 0) s m args below meth c N0 D cs none h0 h 8 [(0, .ref this), (2, .int x2), (3, .int x3)] 115 []) (hk124 : ∀ (x2 : Int32) (x3 : Int32) (x4 : Int32) (h : Hp), k124 x2 x3 x4 h = some h0 → ZG p l e (zrm 4 0 0) s m args below meth c N0 D cs none h0 h 8 [(0, .ref this), (2, .int x2), (3, .int x3), (4, .int x4)] 124 []) : ∀ (n : Nat) (x2 : Int32) (x3 : Int32) (x4 : Int32) (x5 : Int32) (h : Hp), f_M_findWalks_134 this k107 k115 k124 n x2 x3 x4 x5 h = some h0 → ZG p l e (zrm 4 0 0) s m args below meth c N0 D cs none h0 h 8 [(0, .ref this), (2, .int x2), (3, .int x3), (4, .int x4), (5, .int x5)] 134 [] := by
  intro n
  induction n with
  | zero => intro x2 x3 x4 x5 h hf; exact absurd (show none = some _ from hf) (fun q => by cases q)
  | succ n ih => intro x2 x3 x4 x5 h hf; exact v_M_findWalks_134 M this k107 k115 k124 (f_M_findWalks_134 this k107 k115 k124 n) hk107 hk115 hk124 ih _ _ _ _ _ hf
def t_M_findWalks_124 (this : Nat) (k107 : Int32 → Hp → Option (Hp)) (k115 : Int32 → Int32 → Hp → Option (Hp)) (k124 : Int32 → Int32 → Int32 → Hp → Option (Hp)) (x2 : Int32) (x3 : Int32) (x4 : Int32) (h : Hp) : Option (Hp) :=
  if (8 : Int32) ≤ x4 then
    k115 x2 (x3 + (1 : Int32)) h
  else
  f_M_findWalks_134 this k107 k115 k124 FU x2 x3 x4 (0 : Int32) h
set_option maxRecDepth 100000 in
set_option maxHeartbeats 4000000 in
theorem v_M_findWalks_124 {p : Program} {l : Launch} {e : Env} {s : State} {m : MethodId} {args : Array Value} {below : List Frame} {meth : Method} {c : Code} {N0 : Nat} {D : va_G} {cs : Nat → ClassId} (M : ZC p s m args meth c "YearBasketsModel" "findWalks" b_M_findWalks 8 (none) N0 D cs) (this : Nat) (k107 : Int32 → Hp → Option (Hp)) (k115 : Int32 → Int32 → Hp → Option (Hp)) (k124 : Int32 → Int32 → Int32 → Hp → Option (Hp)) {h0 : Hp} (hk107 : ∀ (x2 : Int32) (h : Hp), k107 x2 h = some h0 → ZG p l e (zrm 4 0 0) s m args below meth c N0 D cs none h0 h 8 [(0, .ref this), (2, .int x2)] 107 []) (hk115 : ∀ (x2 : Int32) (x3 : Int32) (h : Hp), k115 x2 x3 h = some h0 → ZG p l e (zrm 4 0 0) s m args below meth c N0 D cs none h0 h 8 [(0, .ref this), (2, .int x2), (3, .int x3)] 115 []) (hk124 : ∀ (x2 : Int32) (x3 : Int32) (x4 : Int32) (h : Hp), k124 x2 x3 x4 h = some h0 → ZG p l e (zrm 4 0 0) s m args below meth c N0 D cs none h0 h 8 [(0, .ref this), (2, .int x2), (3, .int x3), (4, .int x4)] 124 []) (x2 : Int32) (x3 : Int32) (x4 : Int32) (h : Hp) (hf : t_M_findWalks_124 this k107 k115 k124 x2 x3 x4 h = some h0) : ZG p l e (zrm 4 0 0) s m args below meth c N0 D cs none h0 h 8 [(0, .ref this), (2, .int x2), (3, .int x3), (4, .int x4)] 124 [] := by
  intro H locs ls hH hS hl
  unfold t_M_findWalks_124 at hf
  refine lv_iload M.x M.b d_M_findWalks_124 (lv_at hl 3 rfl) ?_
  refine lv_bipush (v := (8 : Int32)) M.x M.b d_M_findWalks_126 rfl ?_
  refine lv_icmp_ge (tgt := 289) M.x M.b d_M_findWalks_128 (by decide) (fun c75 => ?_) (fun c75 => ?_)
  · replace hf := z_t c75 hf
    refine lv_iinc (v := (x3 + (1 : Int32))) (lv' := [(3, .int (x3 + (1 : Int32))), (0, .ref this), (2, .int x2), (4, .int x4)]) M.x M.b d_M_findWalks_289 hl (k := 2) rfl rfl (by decide) rfl (fun ls hl => ?_)
    refine lv_goto (tgt := 115) M.x M.b d_M_findWalks_292 (by decide) ?_
    exact hk115 _ _ _ hf H locs ls hH hS (lv_sub hl [1, 2, 0] rfl)
  · replace hf := z_f c75 hf
    refine lv_iconst (v := (0 : Int32)) M.x M.b d_M_findWalks_131 rfl ?_
    refine lv_istore (lv' := [(5, .int (0 : Int32)), (0, .ref this), (2, .int x2), (3, .int x3), (4, .int x4)]) M.x M.b d_M_findWalks_132 hl (by decide) rfl (fun ls hl => ?_)
    exact w_M_findWalks_134 M this k107 k115 k124 hk107 hk115 hk124 FU _ _ _ _ _ hf H locs ls hH hS (lv_sub hl [1, 2, 3, 4, 0] rfl)
def f_M_findWalks_124 (this : Nat) (k107 : Int32 → Hp → Option (Hp)) (k115 : Int32 → Int32 → Hp → Option (Hp)) : Nat → Int32 → Int32 → Int32 → Hp → Option (Hp)
  | 0, _, _, _, _ => none
  | n + 1, x2, x3, x4, h => t_M_findWalks_124 this k107 k115 (f_M_findWalks_124 this k107 k115 n) x2 x3 x4 h
theorem w_M_findWalks_124 {p : Program} {l : Launch} {e : Env} {s : State} {m : MethodId} {args : Array Value} {below : List Frame} {meth : Method} {c : Code} {N0 : Nat} {D : va_G} {cs : Nat → ClassId} (M : ZC p s m args meth c "YearBasketsModel" "findWalks" b_M_findWalks 8 (none) N0 D cs) (this : Nat) (k107 : Int32 → Hp → Option (Hp)) (k115 : Int32 → Int32 → Hp → Option (Hp)) {h0 : Hp} (hk107 : ∀ (x2 : Int32) (h : Hp), k107 x2 h = some h0 → ZG p l e (zrm 4 0 0) s m args below meth c N0 D cs none h0 h 8 [(0, .ref this), (2, .int x2)] 107 []) (hk115 : ∀ (x2 : Int32) (x3 : Int32) (h : Hp), k115 x2 x3 h = some h0 → ZG p l e (zrm 4 0 0) s m args below meth c N0 D cs none h0 h 8 [(0, .ref this), (2, .int x2), (3, .int x3)] 115 []) : ∀ (n : Nat) (x2 : Int32) (x3 : Int32) (x4 : Int32) (h : Hp), f_M_findWalks_124 this k107 k115 n x2 x3 x4 h = some h0 → ZG p l e (zrm 4 0 0) s m args below meth c N0 D cs none h0 h 8 [(0, .ref this), (2, .int x2), (3, .int x3), (4, .int x4)] 124 [] := by
  intro n
  induction n with
  | zero => intro x2 x3 x4 h hf; exact absurd (show none = some _ from hf) (fun q => by cases q)
  | succ n ih => intro x2 x3 x4 h hf; exact v_M_findWalks_124 M this k107 k115 (f_M_findWalks_124 this k107 k115 n) hk107 hk115 ih _ _ _ _ hf
def t_M_findWalks_115 (this : Nat) (k107 : Int32 → Hp → Option (Hp)) (k115 : Int32 → Int32 → Hp → Option (Hp)) (x2 : Int32) (x3 : Int32) (h : Hp) : Option (Hp) :=
  if (8 : Int32) ≤ x3 then
    k107 (x2 + (1 : Int32)) h
  else
  f_M_findWalks_124 this k107 k115 FU x2 x3 (0 : Int32) h
set_option maxRecDepth 100000 in
set_option maxHeartbeats 4000000 in
theorem v_M_findWalks_115 {p : Program} {l : Launch} {e : Env} {s : State} {m : MethodId} {args : Array Value} {below : List Frame} {meth : Method} {c : Code} {N0 : Nat} {D : va_G} {cs : Nat → ClassId} (M : ZC p s m args meth c "YearBasketsModel" "findWalks" b_M_findWalks 8 (none) N0 D cs) (this : Nat) (k107 : Int32 → Hp → Option (Hp)) (k115 : Int32 → Int32 → Hp → Option (Hp)) {h0 : Hp} (hk107 : ∀ (x2 : Int32) (h : Hp), k107 x2 h = some h0 → ZG p l e (zrm 4 0 0) s m args below meth c N0 D cs none h0 h 8 [(0, .ref this), (2, .int x2)] 107 []) (hk115 : ∀ (x2 : Int32) (x3 : Int32) (h : Hp), k115 x2 x3 h = some h0 → ZG p l e (zrm 4 0 0) s m args below meth c N0 D cs none h0 h 8 [(0, .ref this), (2, .int x2), (3, .int x3)] 115 []) (x2 : Int32) (x3 : Int32) (h : Hp) (hf : t_M_findWalks_115 this k107 k115 x2 x3 h = some h0) : ZG p l e (zrm 4 0 0) s m args below meth c N0 D cs none h0 h 8 [(0, .ref this), (2, .int x2), (3, .int x3)] 115 [] := by
  intro H locs ls hH hS hl
  unfold t_M_findWalks_115 at hf
  refine lv_iload_n M.x M.b d_M_findWalks_115 rfl (lv_at hl 2 rfl) ?_
  refine lv_bipush (v := (8 : Int32)) M.x M.b d_M_findWalks_116 rfl ?_
  refine lv_icmp_ge (tgt := 295) M.x M.b d_M_findWalks_118 (by decide) (fun c76 => ?_) (fun c76 => ?_)
  · replace hf := z_t c76 hf
    refine lv_iinc (v := (x2 + (1 : Int32))) (lv' := [(2, .int (x2 + (1 : Int32))), (0, .ref this), (3, .int x3)]) M.x M.b d_M_findWalks_295 hl (k := 1) rfl rfl (by decide) rfl (fun ls hl => ?_)
    refine lv_goto (tgt := 107) M.x M.b d_M_findWalks_298 (by decide) ?_
    exact hk107 _ _ hf H locs ls hH hS (lv_sub hl [1, 0] rfl)
  · replace hf := z_f c76 hf
    refine lv_iconst (v := (0 : Int32)) M.x M.b d_M_findWalks_121 rfl ?_
    refine lv_istore (lv' := [(4, .int (0 : Int32)), (0, .ref this), (2, .int x2), (3, .int x3)]) M.x M.b d_M_findWalks_122 hl (by decide) rfl (fun ls hl => ?_)
    exact w_M_findWalks_124 M this k107 k115 hk107 hk115 FU _ _ _ _ hf H locs ls hH hS (lv_sub hl [1, 2, 3, 0] rfl)
def f_M_findWalks_115 (this : Nat) (k107 : Int32 → Hp → Option (Hp)) : Nat → Int32 → Int32 → Hp → Option (Hp)
  | 0, _, _, _ => none
  | n + 1, x2, x3, h => t_M_findWalks_115 this k107 (f_M_findWalks_115 this k107 n) x2 x3 h
theorem w_M_findWalks_115 {p : Program} {l : Launch} {e : Env} {s : State} {m : MethodId} {args : Array Value} {below : List Frame} {meth : Method} {c : Code} {N0 : Nat} {D : va_G} {cs : Nat → ClassId} (M : ZC p s m args meth c "YearBasketsModel" "findWalks" b_M_findWalks 8 (none) N0 D cs) (this : Nat) (k107 : Int32 → Hp → Option (Hp)) {h0 : Hp} (hk107 : ∀ (x2 : Int32) (h : Hp), k107 x2 h = some h0 → ZG p l e (zrm 4 0 0) s m args below meth c N0 D cs none h0 h 8 [(0, .ref this), (2, .int x2)] 107 []) : ∀ (n : Nat) (x2 : Int32) (x3 : Int32) (h : Hp), f_M_findWalks_115 this k107 n x2 x3 h = some h0 → ZG p l e (zrm 4 0 0) s m args below meth c N0 D cs none h0 h 8 [(0, .ref this), (2, .int x2), (3, .int x3)] 115 [] := by
  intro n
  induction n with
  | zero => intro x2 x3 h hf; exact absurd (show none = some _ from hf) (fun q => by cases q)
  | succ n ih => intro x2 x3 h hf; exact v_M_findWalks_115 M this k107 (f_M_findWalks_115 this k107 n) hk107 ih _ _ _ hf
def t_M_findWalks_107 (this : Nat) (k107 : Int32 → Hp → Option (Hp)) (x2 : Int32) (h : Hp) : Option (Hp) :=
  if (8 : Int32) < x2 then
    some h
  else
  f_M_findWalks_115 this k107 FU x2 (0 : Int32) h
set_option maxRecDepth 100000 in
set_option maxHeartbeats 4000000 in
theorem v_M_findWalks_107 {p : Program} {l : Launch} {e : Env} {s : State} {m : MethodId} {args : Array Value} {below : List Frame} {meth : Method} {c : Code} {N0 : Nat} {D : va_G} {cs : Nat → ClassId} (M : ZC p s m args meth c "YearBasketsModel" "findWalks" b_M_findWalks 8 (none) N0 D cs) (this : Nat) (k107 : Int32 → Hp → Option (Hp)) {h0 : Hp} (hk107 : ∀ (x2 : Int32) (h : Hp), k107 x2 h = some h0 → ZG p l e (zrm 4 0 0) s m args below meth c N0 D cs none h0 h 8 [(0, .ref this), (2, .int x2)] 107 []) (x2 : Int32) (h : Hp) (hf : t_M_findWalks_107 this k107 x2 h = some h0) : ZG p l e (zrm 4 0 0) s m args below meth c N0 D cs none h0 h 8 [(0, .ref this), (2, .int x2)] 107 [] := by
  intro H locs ls hH hS hl
  unfold t_M_findWalks_107 at hf
  refine lv_iload_n M.x M.b d_M_findWalks_107 rfl (lv_at hl 1 rfl) ?_
  refine lv_bipush (v := (8 : Int32)) M.x M.b d_M_findWalks_108 rfl ?_
  refine lv_icmp_gt (tgt := 301) M.x M.b d_M_findWalks_110 (by decide) (fun c77 => ?_) (fun c77 => ?_)
  · replace hf := z_t c77 hf
    obtain rfl := z_r1 hf
    exact z_vret M hH hS d_M_findWalks_301
  · replace hf := z_f c77 hf
    refine lv_iconst (v := (0 : Int32)) M.x M.b d_M_findWalks_113 rfl ?_
    refine lv_istore_n (lv' := [(3, .int (0 : Int32)), (0, .ref this), (2, .int x2)]) M.x M.b d_M_findWalks_114 rfl hl (by decide) rfl (fun ls hl => ?_)
    exact w_M_findWalks_115 M this k107 hk107 FU _ _ _ hf H locs ls hH hS (lv_sub hl [1, 2, 0] rfl)
def f_M_findWalks_107 (this : Nat) : Nat → Int32 → Hp → Option (Hp)
  | 0, _, _ => none
  | n + 1, x2, h => t_M_findWalks_107 this (f_M_findWalks_107 this n) x2 h
theorem w_M_findWalks_107 {p : Program} {l : Launch} {e : Env} {s : State} {m : MethodId} {args : Array Value} {below : List Frame} {meth : Method} {c : Code} {N0 : Nat} {D : va_G} {cs : Nat → ClassId} (M : ZC p s m args meth c "YearBasketsModel" "findWalks" b_M_findWalks 8 (none) N0 D cs) (this : Nat)  {h0 : Hp}  : ∀ (n : Nat) (x2 : Int32) (h : Hp), f_M_findWalks_107 this n x2 h = some h0 → ZG p l e (zrm 4 0 0) s m args below meth c N0 D cs none h0 h 8 [(0, .ref this), (2, .int x2)] 107 [] := by
  intro n
  induction n with
  | zero => intro x2 h hf; exact absurd (show none = some _ from hf) (fun q => by cases q)
  | succ n ih => intro x2 h hf; exact v_M_findWalks_107 M this (f_M_findWalks_107 this n)  ih _ _ hf
def f_M_findWalks_92 (this : Nat) (k52 : Int32 → Int32 → Hp → Option (Hp)) (k60 : Int32 → Int32 → Int32 → Hp → Option (Hp)) (s0 : Nat) (s1 : Int32) (s2 : Int32) (x1 : Int32) (x2 : Int32) (x3 : Int32) (h : Hp) : Option (Hp) :=
  (sI h s0 s1 s2).bind fun h79 =>
  k60 x1 x2 (x3 + (1 : Int32)) h79
set_option maxRecDepth 100000 in
set_option maxHeartbeats 4000000 in
theorem w_M_findWalks_92 {p : Program} {l : Launch} {e : Env} {s : State} {m : MethodId} {args : Array Value} {below : List Frame} {meth : Method} {c : Code} {N0 : Nat} {D : va_G} {cs : Nat → ClassId} (M : ZC p s m args meth c "YearBasketsModel" "findWalks" b_M_findWalks 8 (none) N0 D cs) (this : Nat) (k52 : Int32 → Int32 → Hp → Option (Hp)) (k60 : Int32 → Int32 → Int32 → Hp → Option (Hp)) {h0 : Hp} (hk52 : ∀ (x1 : Int32) (x2 : Int32) (h : Hp), k52 x1 x2 h = some h0 → ZG p l e (zrm 4 0 0) s m args below meth c N0 D cs none h0 h 8 [(0, .ref this), (1, .int x1), (2, .int x2)] 52 []) (hk60 : ∀ (x1 : Int32) (x2 : Int32) (x3 : Int32) (h : Hp), k60 x1 x2 x3 h = some h0 → ZG p l e (zrm 4 0 0) s m args below meth c N0 D cs none h0 h 8 [(0, .ref this), (1, .int x1), (2, .int x2), (3, .int x3)] 60 []) (s0 : Nat) (s1 : Int32) (s2 : Int32) (x1 : Int32) (x2 : Int32) (x3 : Int32) (h : Hp) (hf : f_M_findWalks_92 this k52 k60 s0 s1 s2 x1 x2 x3 h = some h0) : ZG p l e (zrm 4 0 0) s m args below meth c N0 D cs none h0 h 8 [(0, .ref this), (1, .int x1), (2, .int x2), (3, .int x3)] 92 [.int s2, .int s1, .ref s0] := by
  intro H locs ls hH hS hl
  unfold f_M_findWalks_92 at hf
  replace hf := z_bind hf; obtain ⟨h79, e78, hf⟩ := hf
  refine z_iast M hH hS e78 d_M_findWalks_92 (fun H locs hH hS => ?_)
  refine lv_iinc (v := (x3 + (1 : Int32))) (lv' := [(3, .int (x3 + (1 : Int32))), (0, .ref this), (1, .int x1), (2, .int x2)]) M.x M.b d_M_findWalks_93 hl (k := 3) rfl rfl (by decide) rfl (fun ls hl => ?_)
  refine lv_goto (tgt := 60) M.x M.b d_M_findWalks_96 (by decide) ?_
  exact hk60 _ _ _ _ hf H locs ls hH hS (lv_sub hl [1, 2, 3, 0] rfl)
def t_M_findWalks_60 (this : Nat) (k52 : Int32 → Int32 → Hp → Option (Hp)) (k60 : Int32 → Int32 → Int32 → Hp → Option (Hp)) (x1 : Int32) (x2 : Int32) (x3 : Int32) (h : Hp) : Option (Hp) :=
  if (8 : Int32) ≤ x3 then
    k52 x1 (x2 + (1 : Int32)) h
  else
  (gA h this 8 39).bind fun r80 =>
  if x2 = x3 then
    (r80).bind fun a86 =>
    f_M_findWalks_92 this k52 k60 a86 (((10 : Int32) * x2) + x3) (0 : Int32) x1 x2 x3 h
  else
  (r80).bind fun a82 =>
  (f_M_chosenAhead this h x1 x2 x3).bind fun i85 =>
  f_M_findWalks_92 this k52 k60 a82 (((10 : Int32) * x2) + x3) i85 x1 x2 x3 h
set_option maxRecDepth 100000 in
set_option maxHeartbeats 4000000 in
theorem v_M_findWalks_60 {p : Program} {l : Launch} {e : Env} {s : State} {m : MethodId} {args : Array Value} {below : List Frame} {meth : Method} {c : Code} {N0 : Nat} {D : va_G} {cs : Nat → ClassId} (M : ZC p s m args meth c "YearBasketsModel" "findWalks" b_M_findWalks 8 (none) N0 D cs) (this : Nat) (k52 : Int32 → Int32 → Hp → Option (Hp)) (k60 : Int32 → Int32 → Int32 → Hp → Option (Hp)) {h0 : Hp} (hk52 : ∀ (x1 : Int32) (x2 : Int32) (h : Hp), k52 x1 x2 h = some h0 → ZG p l e (zrm 4 0 0) s m args below meth c N0 D cs none h0 h 8 [(0, .ref this), (1, .int x1), (2, .int x2)] 52 []) (hk60 : ∀ (x1 : Int32) (x2 : Int32) (x3 : Int32) (h : Hp), k60 x1 x2 x3 h = some h0 → ZG p l e (zrm 4 0 0) s m args below meth c N0 D cs none h0 h 8 [(0, .ref this), (1, .int x1), (2, .int x2), (3, .int x3)] 60 []) (x1 : Int32) (x2 : Int32) (x3 : Int32) (h : Hp) (hf : t_M_findWalks_60 this k52 k60 x1 x2 x3 h = some h0) : ZG p l e (zrm 4 0 0) s m args below meth c N0 D cs none h0 h 8 [(0, .ref this), (1, .int x1), (2, .int x2), (3, .int x3)] 60 [] := by
  intro H locs ls hH hS hl
  unfold t_M_findWalks_60 at hf
  refine lv_iload_n M.x M.b d_M_findWalks_60 rfl (lv_at hl 3 rfl) ?_
  refine lv_bipush (v := (8 : Int32)) M.x M.b d_M_findWalks_61 rfl ?_
  refine lv_icmp_ge (tgt := 99) M.x M.b d_M_findWalks_63 (by decide) (fun c89 => ?_) (fun c89 => ?_)
  · replace hf := z_t c89 hf
    refine lv_iinc (v := (x2 + (1 : Int32))) (lv' := [(2, .int (x2 + (1 : Int32))), (0, .ref this), (1, .int x1), (3, .int x3)]) M.x M.b d_M_findWalks_99 hl (k := 2) rfl rfl (by decide) rfl (fun ls hl => ?_)
    refine lv_goto (tgt := 52) M.x M.b d_M_findWalks_102 (by decide) ?_
    exact hk52 _ _ _ hf H locs ls hH hS (lv_sub hl [1, 2, 0] rfl)
  · replace hf := z_f c89 hf
    refine lv_aload_n M.x M.b d_M_findWalks_66 rfl (lv_at hl 0 rfl) ?_
    replace hf := z_bind hf; obtain ⟨r80, e81, hf⟩ := hf
    refine z_get (ci := 8) (k := 39) M hH rfl (by decide) zinM q_853 (gA_spec e81) d_M_findWalks_67 ?_
    refine lv_bipush (v := (10 : Int32)) M.x M.b d_M_findWalks_70 rfl ?_
    refine lv_iload_n M.x M.b d_M_findWalks_72 rfl (lv_at hl 2 rfl) ?_
    refine lv_imul M.x M.b d_M_findWalks_73 ?_
    refine lv_iload_n M.x M.b d_M_findWalks_74 rfl (lv_at hl 3 rfl) ?_
    refine lv_iadd M.x M.b d_M_findWalks_75 ?_
    refine lv_iload_n M.x M.b d_M_findWalks_76 rfl (lv_at hl 2 rfl) ?_
    refine lv_iload_n M.x M.b d_M_findWalks_77 rfl (lv_at hl 3 rfl) ?_
    refine lv_icmp_ne (tgt := 85) M.x M.b d_M_findWalks_78 (by decide) (fun c88 => ?_) (fun c88 => ?_)
    · replace hf := z_f c88 hf
      refine lv_aload_n M.x M.b d_M_findWalks_85 rfl (lv_at hl 0 rfl) ?_
      refine lv_iload_n M.x M.b d_M_findWalks_86 rfl (lv_at hl 1 rfl) ?_
      refine lv_iload_n M.x M.b d_M_findWalks_87 rfl (lv_at hl 2 rfl) ?_
      refine lv_iload_n M.x M.b d_M_findWalks_88 rfl (lv_at hl 3 rfl) ?_
      rcases r80 with _ | a82
      · exact absurd hf z_nb0
      replace hf := z_sb hf
      replace hf := z_bind hf; obtain ⟨i85, e84, hf⟩ := hf
      refine zk_V (ci := 8) (st1 := [.int i85, .int (((10 : Int32) * x2) + x3), .ref a82]) M hH hS (c_M_chosenAhead e84) rfl (o_M_chosenAhead e84) w_M_chosenAhead q_848 [.int (((10 : Int32) * x2) + x3), .ref a82] rfl ⟨Nat.le_of_ble_eq_true rfl, Nat.le_of_ble_eq_true rfl⟩ hl.1 rfl rfl (Nat.le_of_ble_eq_true rfl) d_M_findWalks_89 (fun H locs hH hS => ?_)
      exact w_M_findWalks_92 M this k52 k60 hk52 hk60 _ _ _ _ _ _ _ hf H locs ls hH hS (lv_sub hl [0, 1, 2, 3] rfl)
    · replace hf := z_t c88 hf
      refine lv_iconst (v := (0 : Int32)) M.x M.b d_M_findWalks_81 rfl ?_
      refine lv_goto (tgt := 92) M.x M.b d_M_findWalks_82 (by decide) ?_
      rcases r80 with _ | a86
      · exact absurd hf z_nb0
      replace hf := z_sb hf
      exact w_M_findWalks_92 M this k52 k60 hk52 hk60 _ _ _ _ _ _ _ hf H locs ls hH hS (lv_sub hl [0, 1, 2, 3] rfl)
def f_M_findWalks_60 (this : Nat) (k52 : Int32 → Int32 → Hp → Option (Hp)) : Nat → Int32 → Int32 → Int32 → Hp → Option (Hp)
  | 0, _, _, _, _ => none
  | n + 1, x1, x2, x3, h => t_M_findWalks_60 this k52 (f_M_findWalks_60 this k52 n) x1 x2 x3 h
theorem w_M_findWalks_60 {p : Program} {l : Launch} {e : Env} {s : State} {m : MethodId} {args : Array Value} {below : List Frame} {meth : Method} {c : Code} {N0 : Nat} {D : va_G} {cs : Nat → ClassId} (M : ZC p s m args meth c "YearBasketsModel" "findWalks" b_M_findWalks 8 (none) N0 D cs) (this : Nat) (k52 : Int32 → Int32 → Hp → Option (Hp)) {h0 : Hp} (hk52 : ∀ (x1 : Int32) (x2 : Int32) (h : Hp), k52 x1 x2 h = some h0 → ZG p l e (zrm 4 0 0) s m args below meth c N0 D cs none h0 h 8 [(0, .ref this), (1, .int x1), (2, .int x2)] 52 []) : ∀ (n : Nat) (x1 : Int32) (x2 : Int32) (x3 : Int32) (h : Hp), f_M_findWalks_60 this k52 n x1 x2 x3 h = some h0 → ZG p l e (zrm 4 0 0) s m args below meth c N0 D cs none h0 h 8 [(0, .ref this), (1, .int x1), (2, .int x2), (3, .int x3)] 60 [] := by
  intro n
  induction n with
  | zero => intro x1 x2 x3 h hf; exact absurd (show none = some _ from hf) (fun q => by cases q)
  | succ n ih => intro x1 x2 x3 h hf; exact v_M_findWalks_60 M this k52 (f_M_findWalks_60 this k52 n) hk52 ih _ _ _ _ hf
def t_M_findWalks_52 (this : Nat) (k52 : Int32 → Int32 → Hp → Option (Hp)) (x1 : Int32) (x2 : Int32) (h : Hp) : Option (Hp) :=
  if (8 : Int32) ≤ x2 then
    f_M_findWalks_107 this FU (1 : Int32) h
  else
  f_M_findWalks_60 this k52 FU x1 x2 (0 : Int32) h
set_option maxRecDepth 100000 in
set_option maxHeartbeats 4000000 in
theorem v_M_findWalks_52 {p : Program} {l : Launch} {e : Env} {s : State} {m : MethodId} {args : Array Value} {below : List Frame} {meth : Method} {c : Code} {N0 : Nat} {D : va_G} {cs : Nat → ClassId} (M : ZC p s m args meth c "YearBasketsModel" "findWalks" b_M_findWalks 8 (none) N0 D cs) (this : Nat) (k52 : Int32 → Int32 → Hp → Option (Hp)) {h0 : Hp} (hk52 : ∀ (x1 : Int32) (x2 : Int32) (h : Hp), k52 x1 x2 h = some h0 → ZG p l e (zrm 4 0 0) s m args below meth c N0 D cs none h0 h 8 [(0, .ref this), (1, .int x1), (2, .int x2)] 52 []) (x1 : Int32) (x2 : Int32) (h : Hp) (hf : t_M_findWalks_52 this k52 x1 x2 h = some h0) : ZG p l e (zrm 4 0 0) s m args below meth c N0 D cs none h0 h 8 [(0, .ref this), (1, .int x1), (2, .int x2)] 52 [] := by
  intro H locs ls hH hS hl
  unfold t_M_findWalks_52 at hf
  refine lv_iload_n M.x M.b d_M_findWalks_52 rfl (lv_at hl 2 rfl) ?_
  refine lv_bipush (v := (8 : Int32)) M.x M.b d_M_findWalks_53 rfl ?_
  refine lv_icmp_ge (tgt := 105) M.x M.b d_M_findWalks_55 (by decide) (fun c90 => ?_) (fun c90 => ?_)
  · replace hf := z_t c90 hf
    refine lv_iconst (v := (1 : Int32)) M.x M.b d_M_findWalks_105 rfl ?_
    refine lv_istore_n (lv' := [(2, .int (1 : Int32)), (0, .ref this), (1, .int x1)]) M.x M.b d_M_findWalks_106 rfl hl (by decide) rfl (fun ls hl => ?_)
    exact w_M_findWalks_107 M this FU _ _ hf H locs ls hH hS (lv_sub hl [1, 0] rfl)
  · replace hf := z_f c90 hf
    refine lv_iconst (v := (0 : Int32)) M.x M.b d_M_findWalks_58 rfl ?_
    refine lv_istore_n (lv' := [(3, .int (0 : Int32)), (0, .ref this), (1, .int x1), (2, .int x2)]) M.x M.b d_M_findWalks_59 rfl hl (by decide) rfl (fun ls hl => ?_)
    exact w_M_findWalks_60 M this k52 hk52 FU _ _ _ _ hf H locs ls hH hS (lv_sub hl [1, 2, 3, 0] rfl)
def f_M_findWalks_52 (this : Nat) : Nat → Int32 → Int32 → Hp → Option (Hp)
  | 0, _, _, _ => none
  | n + 1, x1, x2, h => t_M_findWalks_52 this (f_M_findWalks_52 this n) x1 x2 h
theorem w_M_findWalks_52 {p : Program} {l : Launch} {e : Env} {s : State} {m : MethodId} {args : Array Value} {below : List Frame} {meth : Method} {c : Code} {N0 : Nat} {D : va_G} {cs : Nat → ClassId} (M : ZC p s m args meth c "YearBasketsModel" "findWalks" b_M_findWalks 8 (none) N0 D cs) (this : Nat)  {h0 : Hp}  : ∀ (n : Nat) (x1 : Int32) (x2 : Int32) (h : Hp), f_M_findWalks_52 this n x1 x2 h = some h0 → ZG p l e (zrm 4 0 0) s m args below meth c N0 D cs none h0 h 8 [(0, .ref this), (1, .int x1), (2, .int x2)] 52 [] := by
  intro n
  induction n with
  | zero => intro x1 x2 h hf; exact absurd (show none = some _ from hf) (fun q => by cases q)
  | succ n ih => intro x1 x2 h hf; exact v_M_findWalks_52 M this (f_M_findWalks_52 this n)  ih _ _ _ hf
def f_M_findWalks_36 (this : Nat) (k2 : Int32 → Int32 → Hp → Option (Hp)) (s0 : Nat) (s1 : Int32) (s2 : Int32) (x1 : Int32) (x2 : Int32) (h : Hp) : Option (Hp) :=
  (sZ h s0 s1 s2).bind fun h92 =>
  (gA h92 this 8 38).bind fun r93 =>
  (r93).bind fun a95 =>
  (sZ h92 a95 x2 (0 : Int32)).bind fun h98 =>
  k2 x1 (x2 + (1 : Int32)) h98
set_option maxRecDepth 100000 in
set_option maxHeartbeats 4000000 in
theorem w_M_findWalks_36 {p : Program} {l : Launch} {e : Env} {s : State} {m : MethodId} {args : Array Value} {below : List Frame} {meth : Method} {c : Code} {N0 : Nat} {D : va_G} {cs : Nat → ClassId} (M : ZC p s m args meth c "YearBasketsModel" "findWalks" b_M_findWalks 8 (none) N0 D cs) (this : Nat) (k2 : Int32 → Int32 → Hp → Option (Hp)) {h0 : Hp} (hk2 : ∀ (x1 : Int32) (x2 : Int32) (h : Hp), k2 x1 x2 h = some h0 → ZG p l e (zrm 4 0 0) s m args below meth c N0 D cs none h0 h 8 [(0, .ref this), (1, .int x1), (2, .int x2)] 2 []) (s0 : Nat) (s1 : Int32) (s2 : Int32) (x1 : Int32) (x2 : Int32) (h : Hp) (hf : f_M_findWalks_36 this k2 s0 s1 s2 x1 x2 h = some h0) : ZG p l e (zrm 4 0 0) s m args below meth c N0 D cs none h0 h 8 [(0, .ref this), (1, .int x1), (2, .int x2)] 36 [.int s2, .int s1, .ref s0] := by
  intro H locs ls hH hS hl
  unfold f_M_findWalks_36 at hf
  replace hf := z_bind hf; obtain ⟨h92, e91, hf⟩ := hf
  refine z_zast M hH hS e91 d_M_findWalks_36 (fun H locs hH hS => ?_)
  refine lv_aload_n M.x M.b d_M_findWalks_37 rfl (lv_at hl 0 rfl) ?_
  replace hf := z_bind hf; obtain ⟨r93, e94, hf⟩ := hf
  refine z_get (ci := 8) (k := 38) M hH rfl (by decide) zinM q_854 (gA_spec e94) d_M_findWalks_38 ?_
  refine lv_iload_n M.x M.b d_M_findWalks_41 rfl (lv_at hl 2 rfl) ?_
  refine lv_iconst (v := (0 : Int32)) M.x M.b d_M_findWalks_42 rfl ?_
  rcases r93 with _ | a95
  · exact absurd hf z_nb0
  replace hf := z_sb hf
  replace hf := z_bind hf; obtain ⟨h98, e97, hf⟩ := hf
  refine z_zast M hH hS e97 d_M_findWalks_43 (fun H locs hH hS => ?_)
  refine lv_iinc (v := (x2 + (1 : Int32))) (lv' := [(2, .int (x2 + (1 : Int32))), (0, .ref this), (1, .int x1)]) M.x M.b d_M_findWalks_44 hl (k := 2) rfl rfl (by decide) rfl (fun ls hl => ?_)
  refine lv_goto (tgt := 2) M.x M.b d_M_findWalks_47 (by decide) ?_
  exact hk2 _ _ _ hf H locs ls hH hS (lv_sub hl [1, 2, 0] rfl)
def f_M_findWalks_35 (this : Nat) (k2 : Int32 → Int32 → Hp → Option (Hp)) (s0 : Nat) (s1 : Int32) (x1 : Int32) (x2 : Int32) (h : Hp) : Option (Hp) :=
  f_M_findWalks_36 this k2 s0 s1 (0 : Int32) x1 x2 h
set_option maxRecDepth 100000 in
set_option maxHeartbeats 4000000 in
theorem w_M_findWalks_35 {p : Program} {l : Launch} {e : Env} {s : State} {m : MethodId} {args : Array Value} {below : List Frame} {meth : Method} {c : Code} {N0 : Nat} {D : va_G} {cs : Nat → ClassId} (M : ZC p s m args meth c "YearBasketsModel" "findWalks" b_M_findWalks 8 (none) N0 D cs) (this : Nat) (k2 : Int32 → Int32 → Hp → Option (Hp)) {h0 : Hp} (hk2 : ∀ (x1 : Int32) (x2 : Int32) (h : Hp), k2 x1 x2 h = some h0 → ZG p l e (zrm 4 0 0) s m args below meth c N0 D cs none h0 h 8 [(0, .ref this), (1, .int x1), (2, .int x2)] 2 []) (s0 : Nat) (s1 : Int32) (x1 : Int32) (x2 : Int32) (h : Hp) (hf : f_M_findWalks_35 this k2 s0 s1 x1 x2 h = some h0) : ZG p l e (zrm 4 0 0) s m args below meth c N0 D cs none h0 h 8 [(0, .ref this), (1, .int x1), (2, .int x2)] 35 [.int s1, .ref s0] := by
  intro H locs ls hH hS hl
  unfold f_M_findWalks_35 at hf
  refine lv_iconst (v := (0 : Int32)) M.x M.b d_M_findWalks_35 rfl ?_
  exact w_M_findWalks_36 M this k2 hk2 _ _ _ _ _ _ hf H locs ls hH hS (lv_sub hl [0, 1, 2] rfl)
def t_M_findWalks_2 (this : Nat) (k2 : Int32 → Int32 → Hp → Option (Hp)) (x1 : Int32) (x2 : Int32) (h : Hp) : Option (Hp) :=
  if (1100 : Int32) ≤ x2 then
    f_M_findWalks_52 this FU x1 (0 : Int32) h
  else
  (gA h this 8 37).bind fun r99 =>
  if (100 : Int32) ≤ x2 then
    (r99).bind fun a101 =>
    f_M_findWalks_35 this k2 a101 x2 x1 x2 h
  else
  if (x2 / (10 : Int32)) = (x2 - x2 / (10 : Int32) * (10 : Int32)) then
    (r99).bind fun a105 =>
    f_M_findWalks_36 this k2 a105 x2 (1 : Int32) x1 x2 h
  else
  (r99).bind fun a103 =>
  f_M_findWalks_35 this k2 a103 x2 x1 x2 h
set_option maxRecDepth 100000 in
set_option maxHeartbeats 4000000 in
theorem v_M_findWalks_2 {p : Program} {l : Launch} {e : Env} {s : State} {m : MethodId} {args : Array Value} {below : List Frame} {meth : Method} {c : Code} {N0 : Nat} {D : va_G} {cs : Nat → ClassId} (M : ZC p s m args meth c "YearBasketsModel" "findWalks" b_M_findWalks 8 (none) N0 D cs) (this : Nat) (k2 : Int32 → Int32 → Hp → Option (Hp)) {h0 : Hp} (hk2 : ∀ (x1 : Int32) (x2 : Int32) (h : Hp), k2 x1 x2 h = some h0 → ZG p l e (zrm 4 0 0) s m args below meth c N0 D cs none h0 h 8 [(0, .ref this), (1, .int x1), (2, .int x2)] 2 []) (x1 : Int32) (x2 : Int32) (h : Hp) (hf : t_M_findWalks_2 this k2 x1 x2 h = some h0) : ZG p l e (zrm 4 0 0) s m args below meth c N0 D cs none h0 h 8 [(0, .ref this), (1, .int x1), (2, .int x2)] 2 [] := by
  intro H locs ls hH hS hl
  unfold t_M_findWalks_2 at hf
  refine lv_iload_n M.x M.b d_M_findWalks_2 rfl (lv_at hl 2 rfl) ?_
  refine lv_sipush (v := (1100 : Int32)) M.x M.b d_M_findWalks_3 rfl ?_
  refine lv_icmp_ge (tgt := 50) M.x M.b d_M_findWalks_6 (by decide) (fun c109 => ?_) (fun c109 => ?_)
  · replace hf := z_t c109 hf
    refine lv_iconst (v := (0 : Int32)) M.x M.b d_M_findWalks_50 rfl ?_
    refine lv_istore_n (lv' := [(2, .int (0 : Int32)), (0, .ref this), (1, .int x1)]) M.x M.b d_M_findWalks_51 rfl hl (by decide) rfl (fun ls hl => ?_)
    exact w_M_findWalks_52 M this FU _ _ _ hf H locs ls hH hS (lv_sub hl [1, 2, 0] rfl)
  · replace hf := z_f c109 hf
    refine lv_aload_n M.x M.b d_M_findWalks_9 rfl (lv_at hl 0 rfl) ?_
    replace hf := z_bind hf; obtain ⟨r99, e100, hf⟩ := hf
    refine z_get (ci := 8) (k := 37) M hH rfl (by decide) zinM q_852 (gA_spec e100) d_M_findWalks_10 ?_
    refine lv_iload_n M.x M.b d_M_findWalks_13 rfl (lv_at hl 2 rfl) ?_
    refine lv_iload_n M.x M.b d_M_findWalks_14 rfl (lv_at hl 2 rfl) ?_
    refine lv_bipush (v := (100 : Int32)) M.x M.b d_M_findWalks_15 rfl ?_
    refine lv_icmp_ge (tgt := 35) M.x M.b d_M_findWalks_17 (by decide) (fun c108 => ?_) (fun c108 => ?_)
    · replace hf := z_t c108 hf
      rcases r99 with _ | a101
      · exact absurd hf z_nb0
      replace hf := z_sb hf
      exact w_M_findWalks_35 M this k2 hk2 _ _ _ _ _ hf H locs ls hH hS (lv_sub hl [0, 1, 2] rfl)
    · replace hf := z_f c108 hf
      refine lv_iload_n M.x M.b d_M_findWalks_20 rfl (lv_at hl 2 rfl) ?_
      refine lv_bipush (v := (10 : Int32)) M.x M.b d_M_findWalks_21 rfl ?_
      refine lv_idiv M.x M.b d_M_findWalks_23 (by decide) ?_
      refine lv_iload_n M.x M.b d_M_findWalks_24 rfl (lv_at hl 2 rfl) ?_
      refine lv_bipush (v := (10 : Int32)) M.x M.b d_M_findWalks_25 rfl ?_
      refine lv_irem M.x M.b d_M_findWalks_27 (by decide) ?_
      refine lv_icmp_ne (tgt := 35) M.x M.b d_M_findWalks_28 (by decide) (fun c107 => ?_) (fun c107 => ?_)
      · replace hf := z_f c107 hf
        rcases r99 with _ | a103
        · exact absurd hf z_nb0
        replace hf := z_sb hf
        exact w_M_findWalks_35 M this k2 hk2 _ _ _ _ _ hf H locs ls hH hS (lv_sub hl [0, 1, 2] rfl)
      · replace hf := z_t c107 hf
        refine lv_iconst (v := (1 : Int32)) M.x M.b d_M_findWalks_31 rfl ?_
        refine lv_goto (tgt := 36) M.x M.b d_M_findWalks_32 (by decide) ?_
        rcases r99 with _ | a105
        · exact absurd hf z_nb0
        replace hf := z_sb hf
        exact w_M_findWalks_36 M this k2 hk2 _ _ _ _ _ _ hf H locs ls hH hS (lv_sub hl [0, 1, 2] rfl)
def f_M_findWalks_2 (this : Nat) : Nat → Int32 → Int32 → Hp → Option (Hp)
  | 0, _, _, _ => none
  | n + 1, x1, x2, h => t_M_findWalks_2 this (f_M_findWalks_2 this n) x1 x2 h
theorem w_M_findWalks_2 {p : Program} {l : Launch} {e : Env} {s : State} {m : MethodId} {args : Array Value} {below : List Frame} {meth : Method} {c : Code} {N0 : Nat} {D : va_G} {cs : Nat → ClassId} (M : ZC p s m args meth c "YearBasketsModel" "findWalks" b_M_findWalks 8 (none) N0 D cs) (this : Nat)  {h0 : Hp}  : ∀ (n : Nat) (x1 : Int32) (x2 : Int32) (h : Hp), f_M_findWalks_2 this n x1 x2 h = some h0 → ZG p l e (zrm 4 0 0) s m args below meth c N0 D cs none h0 h 8 [(0, .ref this), (1, .int x1), (2, .int x2)] 2 [] := by
  intro n
  induction n with
  | zero => intro x1 x2 h hf; exact absurd (show none = some _ from hf) (fun q => by cases q)
  | succ n ih => intro x1 x2 h hf; exact v_M_findWalks_2 M this (f_M_findWalks_2 this n)  ih _ _ _ hf
def f_M_findWalks (this : Nat) (x1 : Int32) (h : Hp) : Option (Hp) :=
  if isO h this 8 = true then
  f_M_findWalks_2 this FU x1 (0 : Int32) h
  else none
theorem o_M_findWalks {this : Nat} {x1 : Int32} {h : Hp} {h0 : Hp} (hf : f_M_findWalks this x1 h = some h0) : isO h this 8 = true := by
  unfold f_M_findWalks at hf
  exact (z_gd hf).1
set_option maxRecDepth 100000 in
set_option maxHeartbeats 4000000 in
theorem c_M_findWalks {l : Launch} {N0 : Nat} {D : va_G} {cs : Nat → ClassId} {this : Nat} {x1 : Int32} {h : Hp} {h0 : Hp} (hf : f_M_findWalks this x1 h = some h0) : Fn l N0 D cs y_M_findWalks b_M_findWalks 8 (none) 4 0 0 [.ref this, .int x1] h none h0 := by
  refine z_start (by decide) (Nat.le_of_ble_eq_true rfl) ?_
  intro p e s m args below meth c M hH hS ls hl
  unfold f_M_findWalks at hf
  obtain ⟨hO, hf⟩ := z_gd hf
  have hl : lv_has ls 8 [(0, .ref this), (1, .int x1)] := hl
  obtain ⟨H, hHe⟩ : ∃ H, H = s.heap := ⟨_, rfl⟩
  obtain ⟨locs, hLe⟩ : ∃ locs : List Loc, locs = [] := ⟨_, rfl⟩
  have hS : va_S (zA N0) s.heap H locs := by rw [hHe, hLe]; exact hS
  have hH : HH N0 D cs h H := by rw [hHe]; exact hH
  suffices hg : W p l e (zrm 4 0 0) s m args below meth c H locs 0 0 (MQ below (zQ N0 D cs none h0) args s 0 0 (zA N0)) (F0 m 0 ls []) by rw [hHe, hLe] at hg; exact hg
  clear hHe hLe
  refine lv_iconst (v := (0 : Int32)) M.x M.b d_M_findWalks_0 rfl ?_
  refine lv_istore_n (lv' := [(2, .int (0 : Int32)), (0, .ref this), (1, .int x1)]) M.x M.b d_M_findWalks_1 rfl hl (by decide) rfl (fun ls hl => ?_)
  exact w_M_findWalks_2 M this FU _ _ _ hf H locs ls hH hS (lv_sub hl [1, 2, 0] rfl)
def f_M_ring_299 (this : Nat) (k145 : Int32 → Int32 → Int32 → Int32 → Int32 → Int32 → Hp → Option ((Int32 × Hp))) (s0 : Int32) (x2 : Int32) (x3 : Int32) (x4 : Int32) (x7 : Int32) (x9 : Int32) (h : Hp) : Option ((Int32 × Hp)) :=
  k145 x2 x3 x4 x9 s0 (x7 + (1 : Int32)) h
set_option maxRecDepth 100000 in
set_option maxHeartbeats 4000000 in
theorem w_M_ring_299 {p : Program} {l : Launch} {e : Env} {s : State} {m : MethodId} {args : Array Value} {below : List Frame} {meth : Method} {c : Code} {N0 : Nat} {D : va_G} {cs : Nat → ClassId} (M : ZC p s m args meth c "YearBasketsModel" "ring" b_M_ring 13 (some .int) N0 D cs) (this : Nat) (k145 : Int32 → Int32 → Int32 → Int32 → Int32 → Int32 → Hp → Option ((Int32 × Hp))) {r0 : Int32} {h0 : Hp} (hk145 : ∀ (x2 : Int32) (x3 : Int32) (x4 : Int32) (x5 : Int32) (x6 : Int32) (x7 : Int32) (h : Hp), k145 x2 x3 x4 x5 x6 x7 h = some (r0, h0) → ZG p l e (zrm 5 0 0) s m args below meth c N0 D cs (some (.int r0)) h0 h 13 [(0, .ref this), (2, .int x2), (3, .int x3), (4, .int x4), (5, .int x5), (6, .int x6), (7, .int x7)] 145 []) (s0 : Int32) (x2 : Int32) (x3 : Int32) (x4 : Int32) (x7 : Int32) (x9 : Int32) (h : Hp) (hf : f_M_ring_299 this k145 s0 x2 x3 x4 x7 x9 h = some (r0, h0)) : ZG p l e (zrm 5 0 0) s m args below meth c N0 D cs (some (.int r0)) h0 h 13 [(0, .ref this), (2, .int x2), (3, .int x3), (4, .int x4), (7, .int x7), (9, .int x9)] 299 [.int s0] := by
  intro H locs ls hH hS hl
  unfold f_M_ring_299 at hf
  refine lv_istore (lv' := [(6, .int s0), (0, .ref this), (2, .int x2), (3, .int x3), (4, .int x4), (7, .int x7), (9, .int x9)]) M.x M.b d_M_ring_299 hl (by decide) rfl (fun ls hl => ?_)
  refine lv_iload M.x M.b d_M_ring_301 (lv_at hl 6 rfl) ?_
  refine lv_istore (lv' := [(5, .int x9), (6, .int s0), (0, .ref this), (2, .int x2), (3, .int x3), (4, .int x4), (7, .int x7), (9, .int x9)]) M.x M.b d_M_ring_303 hl (by decide) rfl (fun ls hl => ?_)
  refine lv_iinc (v := (x7 + (1 : Int32))) (lv' := [(7, .int (x7 + (1 : Int32))), (5, .int x9), (6, .int s0), (0, .ref this), (2, .int x2), (3, .int x3), (4, .int x4), (9, .int x9)]) M.x M.b d_M_ring_305 hl (k := 6) rfl rfl (by decide) rfl (fun ls hl => ?_)
  refine lv_goto (tgt := 145) M.x M.b d_M_ring_308 (by decide) ?_
  exact hk145 _ _ _ _ _ _ _ hf H locs ls hH hS (lv_sub hl [3, 4, 5, 6, 1, 2, 0] rfl)
def f_M_ring_294 (this : Nat) (k145 : Int32 → Int32 → Int32 → Int32 → Int32 → Int32 → Hp → Option ((Int32 × Hp))) (x2 : Int32) (x3 : Int32) (x4 : Int32) (x7 : Int32) (x9 : Int32) (h : Hp) : Option ((Int32 × Hp)) :=
  f_M_ring_299 this k145 (1 : Int32) x2 x3 x4 x7 x9 h
set_option maxRecDepth 100000 in
set_option maxHeartbeats 4000000 in
theorem w_M_ring_294 {p : Program} {l : Launch} {e : Env} {s : State} {m : MethodId} {args : Array Value} {below : List Frame} {meth : Method} {c : Code} {N0 : Nat} {D : va_G} {cs : Nat → ClassId} (M : ZC p s m args meth c "YearBasketsModel" "ring" b_M_ring 13 (some .int) N0 D cs) (this : Nat) (k145 : Int32 → Int32 → Int32 → Int32 → Int32 → Int32 → Hp → Option ((Int32 × Hp))) {r0 : Int32} {h0 : Hp} (hk145 : ∀ (x2 : Int32) (x3 : Int32) (x4 : Int32) (x5 : Int32) (x6 : Int32) (x7 : Int32) (h : Hp), k145 x2 x3 x4 x5 x6 x7 h = some (r0, h0) → ZG p l e (zrm 5 0 0) s m args below meth c N0 D cs (some (.int r0)) h0 h 13 [(0, .ref this), (2, .int x2), (3, .int x3), (4, .int x4), (5, .int x5), (6, .int x6), (7, .int x7)] 145 []) (x2 : Int32) (x3 : Int32) (x4 : Int32) (x7 : Int32) (x9 : Int32) (h : Hp) (hf : f_M_ring_294 this k145 x2 x3 x4 x7 x9 h = some (r0, h0)) : ZG p l e (zrm 5 0 0) s m args below meth c N0 D cs (some (.int r0)) h0 h 13 [(0, .ref this), (2, .int x2), (3, .int x3), (4, .int x4), (7, .int x7), (9, .int x9)] 294 [] := by
  intro H locs ls hH hS hl
  unfold f_M_ring_294 at hf
  refine lv_iconst (v := (1 : Int32)) M.x M.b d_M_ring_294 rfl ?_
  refine lv_goto (tgt := 299) M.x M.b d_M_ring_295 (by decide) ?_
  exact w_M_ring_299 M this k145 hk145 _ _ _ _ _ _ _ hf H locs ls hH hS (lv_sub hl [0, 1, 2, 3, 4, 5] rfl)
def f_M_ring_264 (this : Nat) (k145 : Int32 → Int32 → Int32 → Int32 → Int32 → Int32 → Hp → Option ((Int32 × Hp))) (k166 : Int32 → Int32 → Int32 → Int32 → Int32 → Int32 → Int32 → Int32 → Int32 → Hp → Option ((Int32 × Hp))) (s0 : Int32) (x2 : Int32) (x3 : Int32) (x4 : Int32) (x5 : Int32) (x6 : Int32) (x7 : Int32) (x8 : Int32) (x10 : Int32) (h : Hp) : Option ((Int32 × Hp)) :=
  k166 x2 x3 x4 x5 x6 x7 x8 s0 (x10 + (-1 : Int32)) h
set_option maxRecDepth 100000 in
set_option maxHeartbeats 4000000 in
theorem w_M_ring_264 {p : Program} {l : Launch} {e : Env} {s : State} {m : MethodId} {args : Array Value} {below : List Frame} {meth : Method} {c : Code} {N0 : Nat} {D : va_G} {cs : Nat → ClassId} (M : ZC p s m args meth c "YearBasketsModel" "ring" b_M_ring 13 (some .int) N0 D cs) (this : Nat) (k145 : Int32 → Int32 → Int32 → Int32 → Int32 → Int32 → Hp → Option ((Int32 × Hp))) (k166 : Int32 → Int32 → Int32 → Int32 → Int32 → Int32 → Int32 → Int32 → Int32 → Hp → Option ((Int32 × Hp))) {r0 : Int32} {h0 : Hp} (hk145 : ∀ (x2 : Int32) (x3 : Int32) (x4 : Int32) (x5 : Int32) (x6 : Int32) (x7 : Int32) (h : Hp), k145 x2 x3 x4 x5 x6 x7 h = some (r0, h0) → ZG p l e (zrm 5 0 0) s m args below meth c N0 D cs (some (.int r0)) h0 h 13 [(0, .ref this), (2, .int x2), (3, .int x3), (4, .int x4), (5, .int x5), (6, .int x6), (7, .int x7)] 145 []) (hk166 : ∀ (x2 : Int32) (x3 : Int32) (x4 : Int32) (x5 : Int32) (x6 : Int32) (x7 : Int32) (x8 : Int32) (x9 : Int32) (x10 : Int32) (h : Hp), k166 x2 x3 x4 x5 x6 x7 x8 x9 x10 h = some (r0, h0) → ZG p l e (zrm 5 0 0) s m args below meth c N0 D cs (some (.int r0)) h0 h 13 [(0, .ref this), (2, .int x2), (3, .int x3), (4, .int x4), (5, .int x5), (6, .int x6), (7, .int x7), (8, .int x8), (9, .int x9), (10, .int x10)] 166 []) (s0 : Int32) (x2 : Int32) (x3 : Int32) (x4 : Int32) (x5 : Int32) (x6 : Int32) (x7 : Int32) (x8 : Int32) (x10 : Int32) (h : Hp) (hf : f_M_ring_264 this k145 k166 s0 x2 x3 x4 x5 x6 x7 x8 x10 h = some (r0, h0)) : ZG p l e (zrm 5 0 0) s m args below meth c N0 D cs (some (.int r0)) h0 h 13 [(0, .ref this), (2, .int x2), (3, .int x3), (4, .int x4), (5, .int x5), (6, .int x6), (7, .int x7), (8, .int x8), (10, .int x10)] 264 [.int s0] := by
  intro H locs ls hH hS hl
  unfold f_M_ring_264 at hf
  refine lv_istore (lv' := [(9, .int s0), (0, .ref this), (2, .int x2), (3, .int x3), (4, .int x4), (5, .int x5), (6, .int x6), (7, .int x7), (8, .int x8), (10, .int x10)]) M.x M.b d_M_ring_264 hl (by decide) rfl (fun ls hl => ?_)
  refine lv_iinc (v := (x10 + (-1 : Int32))) (lv' := [(10, .int (x10 + (-1 : Int32))), (9, .int s0), (0, .ref this), (2, .int x2), (3, .int x3), (4, .int x4), (5, .int x5), (6, .int x6), (7, .int x7), (8, .int x8)]) M.x M.b d_M_ring_266 hl (k := 9) rfl rfl (by decide) rfl (fun ls hl => ?_)
  refine lv_goto (tgt := 166) M.x M.b d_M_ring_269 (by decide) ?_
  exact hk166 _ _ _ _ _ _ _ _ _ _ hf H locs ls hH hS (lv_sub hl [2, 3, 4, 5, 6, 7, 8, 9, 1, 0] rfl)
def f_M_ring_262 (this : Nat) (k145 : Int32 → Int32 → Int32 → Int32 → Int32 → Int32 → Hp → Option ((Int32 × Hp))) (k166 : Int32 → Int32 → Int32 → Int32 → Int32 → Int32 → Int32 → Int32 → Int32 → Hp → Option ((Int32 × Hp))) (x2 : Int32) (x3 : Int32) (x4 : Int32) (x5 : Int32) (x6 : Int32) (x7 : Int32) (x8 : Int32) (x9 : Int32) (x10 : Int32) (h : Hp) : Option ((Int32 × Hp)) :=
  f_M_ring_264 this k145 k166 x9 x2 x3 x4 x5 x6 x7 x8 x10 h
set_option maxRecDepth 100000 in
set_option maxHeartbeats 4000000 in
theorem w_M_ring_262 {p : Program} {l : Launch} {e : Env} {s : State} {m : MethodId} {args : Array Value} {below : List Frame} {meth : Method} {c : Code} {N0 : Nat} {D : va_G} {cs : Nat → ClassId} (M : ZC p s m args meth c "YearBasketsModel" "ring" b_M_ring 13 (some .int) N0 D cs) (this : Nat) (k145 : Int32 → Int32 → Int32 → Int32 → Int32 → Int32 → Hp → Option ((Int32 × Hp))) (k166 : Int32 → Int32 → Int32 → Int32 → Int32 → Int32 → Int32 → Int32 → Int32 → Hp → Option ((Int32 × Hp))) {r0 : Int32} {h0 : Hp} (hk145 : ∀ (x2 : Int32) (x3 : Int32) (x4 : Int32) (x5 : Int32) (x6 : Int32) (x7 : Int32) (h : Hp), k145 x2 x3 x4 x5 x6 x7 h = some (r0, h0) → ZG p l e (zrm 5 0 0) s m args below meth c N0 D cs (some (.int r0)) h0 h 13 [(0, .ref this), (2, .int x2), (3, .int x3), (4, .int x4), (5, .int x5), (6, .int x6), (7, .int x7)] 145 []) (hk166 : ∀ (x2 : Int32) (x3 : Int32) (x4 : Int32) (x5 : Int32) (x6 : Int32) (x7 : Int32) (x8 : Int32) (x9 : Int32) (x10 : Int32) (h : Hp), k166 x2 x3 x4 x5 x6 x7 x8 x9 x10 h = some (r0, h0) → ZG p l e (zrm 5 0 0) s m args below meth c N0 D cs (some (.int r0)) h0 h 13 [(0, .ref this), (2, .int x2), (3, .int x3), (4, .int x4), (5, .int x5), (6, .int x6), (7, .int x7), (8, .int x8), (9, .int x9), (10, .int x10)] 166 []) (x2 : Int32) (x3 : Int32) (x4 : Int32) (x5 : Int32) (x6 : Int32) (x7 : Int32) (x8 : Int32) (x9 : Int32) (x10 : Int32) (h : Hp) (hf : f_M_ring_262 this k145 k166 x2 x3 x4 x5 x6 x7 x8 x9 x10 h = some (r0, h0)) : ZG p l e (zrm 5 0 0) s m args below meth c N0 D cs (some (.int r0)) h0 h 13 [(0, .ref this), (2, .int x2), (3, .int x3), (4, .int x4), (5, .int x5), (6, .int x6), (7, .int x7), (8, .int x8), (9, .int x9), (10, .int x10)] 262 [] := by
  intro H locs ls hH hS hl
  unfold f_M_ring_262 at hf
  refine lv_iload M.x M.b d_M_ring_262 (lv_at hl 8 rfl) ?_
  exact w_M_ring_264 M this k145 k166 hk145 hk166 _ _ _ _ _ _ _ _ _ _ hf H locs ls hH hS (lv_sub hl [0, 1, 2, 3, 4, 5, 6, 7, 9] rfl)
def f_M_ring_257 (this : Nat) (k145 : Int32 → Int32 → Int32 → Int32 → Int32 → Int32 → Hp → Option ((Int32 × Hp))) (k166 : Int32 → Int32 → Int32 → Int32 → Int32 → Int32 → Int32 → Int32 → Int32 → Hp → Option ((Int32 × Hp))) (x2 : Int32) (x3 : Int32) (x4 : Int32) (x5 : Int32) (x6 : Int32) (x7 : Int32) (x8 : Int32) (x10 : Int32) (h : Hp) : Option ((Int32 × Hp)) :=
  f_M_ring_264 this k145 k166 x10 x2 x3 x4 x5 x6 x7 x8 x10 h
set_option maxRecDepth 100000 in
set_option maxHeartbeats 4000000 in
theorem w_M_ring_257 {p : Program} {l : Launch} {e : Env} {s : State} {m : MethodId} {args : Array Value} {below : List Frame} {meth : Method} {c : Code} {N0 : Nat} {D : va_G} {cs : Nat → ClassId} (M : ZC p s m args meth c "YearBasketsModel" "ring" b_M_ring 13 (some .int) N0 D cs) (this : Nat) (k145 : Int32 → Int32 → Int32 → Int32 → Int32 → Int32 → Hp → Option ((Int32 × Hp))) (k166 : Int32 → Int32 → Int32 → Int32 → Int32 → Int32 → Int32 → Int32 → Int32 → Hp → Option ((Int32 × Hp))) {r0 : Int32} {h0 : Hp} (hk145 : ∀ (x2 : Int32) (x3 : Int32) (x4 : Int32) (x5 : Int32) (x6 : Int32) (x7 : Int32) (h : Hp), k145 x2 x3 x4 x5 x6 x7 h = some (r0, h0) → ZG p l e (zrm 5 0 0) s m args below meth c N0 D cs (some (.int r0)) h0 h 13 [(0, .ref this), (2, .int x2), (3, .int x3), (4, .int x4), (5, .int x5), (6, .int x6), (7, .int x7)] 145 []) (hk166 : ∀ (x2 : Int32) (x3 : Int32) (x4 : Int32) (x5 : Int32) (x6 : Int32) (x7 : Int32) (x8 : Int32) (x9 : Int32) (x10 : Int32) (h : Hp), k166 x2 x3 x4 x5 x6 x7 x8 x9 x10 h = some (r0, h0) → ZG p l e (zrm 5 0 0) s m args below meth c N0 D cs (some (.int r0)) h0 h 13 [(0, .ref this), (2, .int x2), (3, .int x3), (4, .int x4), (5, .int x5), (6, .int x6), (7, .int x7), (8, .int x8), (9, .int x9), (10, .int x10)] 166 []) (x2 : Int32) (x3 : Int32) (x4 : Int32) (x5 : Int32) (x6 : Int32) (x7 : Int32) (x8 : Int32) (x10 : Int32) (h : Hp) (hf : f_M_ring_257 this k145 k166 x2 x3 x4 x5 x6 x7 x8 x10 h = some (r0, h0)) : ZG p l e (zrm 5 0 0) s m args below meth c N0 D cs (some (.int r0)) h0 h 13 [(0, .ref this), (2, .int x2), (3, .int x3), (4, .int x4), (5, .int x5), (6, .int x6), (7, .int x7), (8, .int x8), (10, .int x10)] 257 [] := by
  intro H locs ls hH hS hl
  unfold f_M_ring_257 at hf
  refine lv_iload M.x M.b d_M_ring_257 (lv_at hl 8 rfl) ?_
  refine lv_goto (tgt := 264) M.x M.b d_M_ring_259 (by decide) ?_
  exact w_M_ring_264 M this k145 k166 hk145 hk166 _ _ _ _ _ _ _ _ _ _ hf H locs ls hH hS (lv_sub hl [0, 1, 2, 3, 4, 5, 6, 7, 8] rfl)
def f_M_ring_198 (this : Nat) (k145 : Int32 → Int32 → Int32 → Int32 → Int32 → Int32 → Hp → Option ((Int32 × Hp))) (k166 : Int32 → Int32 → Int32 → Int32 → Int32 → Int32 → Int32 → Int32 → Int32 → Hp → Option ((Int32 × Hp))) (s0 : Int32) (x2 : Int32) (x3 : Int32) (x4 : Int32) (x5 : Int32) (x6 : Int32) (x7 : Int32) (x8 : Int32) (x9 : Int32) (x10 : Int32) (h : Hp) : Option ((Int32 × Hp)) :=
  (gA h this 8 39).bind fun r1 =>
  (r1).bind fun a3 =>
  (aI h 0 a3 (((10 : Int32) * x5) + x10)).bind fun i6 =>
  if i6 ≤ 0 then
    f_M_ring_262 this k145 k166 x2 x3 x4 x5 x6 x7 x8 x9 x10 h
  else
  (gA h this 8 38).bind fun r7 =>
  (r7).bind fun a9 =>
  (aI h 2 a9 ((((100 : Int32) * x8) + ((10 : Int32) * x10)) + x4)).bind fun i12 =>
  if i12 = 0 then
    if s0 = 0 then
      f_M_ring_262 this k145 k166 x2 x3 x4 x5 x6 x7 x8 x9 x10 h
    else
    (gA h this 8 37).bind fun r13 =>
    (r13).bind fun a15 =>
    (aI h 2 a15 ((((100 : Int32) * x8) + ((10 : Int32) * x10)) + x4)).bind fun i18 =>
    if i18 = 0 then
      f_M_ring_262 this k145 k166 x2 x3 x4 x5 x6 x7 x8 x9 x10 h
    else
    f_M_ring_257 this k145 k166 x2 x3 x4 x5 x6 x7 x8 x10 h
  else
  f_M_ring_257 this k145 k166 x2 x3 x4 x5 x6 x7 x8 x10 h
set_option maxRecDepth 100000 in
set_option maxHeartbeats 4000000 in
theorem w_M_ring_198 {p : Program} {l : Launch} {e : Env} {s : State} {m : MethodId} {args : Array Value} {below : List Frame} {meth : Method} {c : Code} {N0 : Nat} {D : va_G} {cs : Nat → ClassId} (M : ZC p s m args meth c "YearBasketsModel" "ring" b_M_ring 13 (some .int) N0 D cs) (this : Nat) (k145 : Int32 → Int32 → Int32 → Int32 → Int32 → Int32 → Hp → Option ((Int32 × Hp))) (k166 : Int32 → Int32 → Int32 → Int32 → Int32 → Int32 → Int32 → Int32 → Int32 → Hp → Option ((Int32 × Hp))) {r0 : Int32} {h0 : Hp} (hk145 : ∀ (x2 : Int32) (x3 : Int32) (x4 : Int32) (x5 : Int32) (x6 : Int32) (x7 : Int32) (h : Hp), k145 x2 x3 x4 x5 x6 x7 h = some (r0, h0) → ZG p l e (zrm 5 0 0) s m args below meth c N0 D cs (some (.int r0)) h0 h 13 [(0, .ref this), (2, .int x2), (3, .int x3), (4, .int x4), (5, .int x5), (6, .int x6), (7, .int x7)] 145 []) (hk166 : ∀ (x2 : Int32) (x3 : Int32) (x4 : Int32) (x5 : Int32) (x6 : Int32) (x7 : Int32) (x8 : Int32) (x9 : Int32) (x10 : Int32) (h : Hp), k166 x2 x3 x4 x5 x6 x7 x8 x9 x10 h = some (r0, h0) → ZG p l e (zrm 5 0 0) s m args below meth c N0 D cs (some (.int r0)) h0 h 13 [(0, .ref this), (2, .int x2), (3, .int x3), (4, .int x4), (5, .int x5), (6, .int x6), (7, .int x7), (8, .int x8), (9, .int x9), (10, .int x10)] 166 []) (s0 : Int32) (x2 : Int32) (x3 : Int32) (x4 : Int32) (x5 : Int32) (x6 : Int32) (x7 : Int32) (x8 : Int32) (x9 : Int32) (x10 : Int32) (h : Hp) (hf : f_M_ring_198 this k145 k166 s0 x2 x3 x4 x5 x6 x7 x8 x9 x10 h = some (r0, h0)) : ZG p l e (zrm 5 0 0) s m args below meth c N0 D cs (some (.int r0)) h0 h 13 [(0, .ref this), (2, .int x2), (3, .int x3), (4, .int x4), (5, .int x5), (6, .int x6), (7, .int x7), (8, .int x8), (9, .int x9), (10, .int x10)] 198 [.int s0] := by
  intro H locs ls hH hS hl
  unfold f_M_ring_198 at hf
  refine lv_istore (lv' := [(11, .int s0), (0, .ref this), (2, .int x2), (3, .int x3), (4, .int x4), (5, .int x5), (6, .int x6), (7, .int x7), (8, .int x8), (9, .int x9), (10, .int x10)]) M.x M.b d_M_ring_198 hl (by decide) rfl (fun ls hl => ?_)
  refine lv_bipush (v := (100 : Int32)) M.x M.b d_M_ring_200 rfl ?_
  refine lv_iload M.x M.b d_M_ring_202 (lv_at hl 8 rfl) ?_
  refine lv_imul M.x M.b d_M_ring_204 ?_
  refine lv_bipush (v := (10 : Int32)) M.x M.b d_M_ring_205 rfl ?_
  refine lv_iload M.x M.b d_M_ring_207 (lv_at hl 10 rfl) ?_
  refine lv_imul M.x M.b d_M_ring_209 ?_
  refine lv_iadd M.x M.b d_M_ring_210 ?_
  refine lv_iload M.x M.b d_M_ring_211 (lv_at hl 4 rfl) ?_
  refine lv_iadd M.x M.b d_M_ring_213 ?_
  refine lv_istore (lv' := [(12, .int ((((100 : Int32) * x8) + ((10 : Int32) * x10)) + x4)), (11, .int s0), (0, .ref this), (2, .int x2), (3, .int x3), (4, .int x4), (5, .int x5), (6, .int x6), (7, .int x7), (8, .int x8), (9, .int x9), (10, .int x10)]) M.x M.b d_M_ring_214 hl (by decide) rfl (fun ls hl => ?_)
  refine lv_aload_n M.x M.b d_M_ring_216 rfl (lv_at hl 2 rfl) ?_
  replace hf := z_bind hf; obtain ⟨r1, e2, hf⟩ := hf
  refine z_get (ci := 8) (k := 39) M hH rfl (by decide) zinM q_853 (gA_spec e2) d_M_ring_217 ?_
  refine lv_bipush (v := (10 : Int32)) M.x M.b d_M_ring_220 rfl ?_
  refine lv_iload M.x M.b d_M_ring_222 (lv_at hl 6 rfl) ?_
  refine lv_imul M.x M.b d_M_ring_224 ?_
  refine lv_iload M.x M.b d_M_ring_225 (lv_at hl 11 rfl) ?_
  refine lv_iadd M.x M.b d_M_ring_227 ?_
  rcases r1 with _ | a3
  · exact absurd hf z_nb0
  replace hf := z_sb hf
  replace hf := z_bind hf; obtain ⟨i6, e5, hf⟩ := hf
  refine z_iald M hH e5 d_M_ring_228 ?_
  refine lv_if_le (tgt := 262) M.x M.b d_M_ring_229 (by decide) (fun c22 => ?_) (fun c22 => ?_)
  · replace hf := z_t c22 hf
    exact w_M_ring_262 M this k145 k166 hk145 hk166 _ _ _ _ _ _ _ _ _ _ hf H locs ls hH hS (lv_sub hl [2, 3, 4, 5, 6, 7, 8, 9, 10, 11] rfl)
  · replace hf := z_f c22 hf
    refine lv_aload_n M.x M.b d_M_ring_232 rfl (lv_at hl 2 rfl) ?_
    replace hf := z_bind hf; obtain ⟨r7, e8, hf⟩ := hf
    refine z_get (ci := 8) (k := 38) M hH rfl (by decide) zinM q_854 (gA_spec e8) d_M_ring_233 ?_
    refine lv_iload M.x M.b d_M_ring_236 (lv_at hl 0 rfl) ?_
    rcases r7 with _ | a9
    · exact absurd hf z_nb0
    replace hf := z_sb hf
    replace hf := z_bind hf; obtain ⟨i12, e11, hf⟩ := hf
    refine z_zald M hH e11 d_M_ring_238 ?_
    refine lv_if_ne (tgt := 257) M.x M.b d_M_ring_239 (by decide) (fun c21 => ?_) (fun c21 => ?_)
    · replace hf := z_f c21 hf
      exact w_M_ring_257 M this k145 k166 hk145 hk166 _ _ _ _ _ _ _ _ _ hf H locs ls hH hS (lv_sub hl [2, 3, 4, 5, 6, 7, 8, 9, 11] rfl)
    · replace hf := z_t c21 hf
      refine lv_iload M.x M.b d_M_ring_242 (lv_at hl 1 rfl) ?_
      refine lv_if_eq (tgt := 262) M.x M.b d_M_ring_244 (by decide) (fun c20 => ?_) (fun c20 => ?_)
      · replace hf := z_t c20 hf
        exact w_M_ring_262 M this k145 k166 hk145 hk166 _ _ _ _ _ _ _ _ _ _ hf H locs ls hH hS (lv_sub hl [2, 3, 4, 5, 6, 7, 8, 9, 10, 11] rfl)
      · replace hf := z_f c20 hf
        refine lv_aload_n M.x M.b d_M_ring_247 rfl (lv_at hl 2 rfl) ?_
        replace hf := z_bind hf; obtain ⟨r13, e14, hf⟩ := hf
        refine z_get (ci := 8) (k := 37) M hH rfl (by decide) zinM q_852 (gA_spec e14) d_M_ring_248 ?_
        refine lv_iload M.x M.b d_M_ring_251 (lv_at hl 0 rfl) ?_
        rcases r13 with _ | a15
        · exact absurd hf z_nb0
        replace hf := z_sb hf
        replace hf := z_bind hf; obtain ⟨i18, e17, hf⟩ := hf
        refine z_zald M hH e17 d_M_ring_253 ?_
        refine lv_if_eq (tgt := 262) M.x M.b d_M_ring_254 (by decide) (fun c19 => ?_) (fun c19 => ?_)
        · replace hf := z_t c19 hf
          exact w_M_ring_262 M this k145 k166 hk145 hk166 _ _ _ _ _ _ _ _ _ _ hf H locs ls hH hS (lv_sub hl [2, 3, 4, 5, 6, 7, 8, 9, 10, 11] rfl)
        · replace hf := z_f c19 hf
          exact w_M_ring_257 M this k145 k166 hk145 hk166 _ _ _ _ _ _ _ _ _ hf H locs ls hH hS (lv_sub hl [2, 3, 4, 5, 6, 7, 8, 9, 11] rfl)
def f_M_ring_193 (this : Nat) (k145 : Int32 → Int32 → Int32 → Int32 → Int32 → Int32 → Hp → Option ((Int32 × Hp))) (k166 : Int32 → Int32 → Int32 → Int32 → Int32 → Int32 → Int32 → Int32 → Int32 → Hp → Option ((Int32 × Hp))) (x2 : Int32) (x3 : Int32) (x4 : Int32) (x5 : Int32) (x6 : Int32) (x7 : Int32) (x8 : Int32) (x9 : Int32) (x10 : Int32) (h : Hp) : Option ((Int32 × Hp)) :=
  f_M_ring_198 this k145 k166 (1 : Int32) x2 x3 x4 x5 x6 x7 x8 x9 x10 h
set_option maxRecDepth 100000 in
set_option maxHeartbeats 4000000 in
theorem w_M_ring_193 {p : Program} {l : Launch} {e : Env} {s : State} {m : MethodId} {args : Array Value} {below : List Frame} {meth : Method} {c : Code} {N0 : Nat} {D : va_G} {cs : Nat → ClassId} (M : ZC p s m args meth c "YearBasketsModel" "ring" b_M_ring 13 (some .int) N0 D cs) (this : Nat) (k145 : Int32 → Int32 → Int32 → Int32 → Int32 → Int32 → Hp → Option ((Int32 × Hp))) (k166 : Int32 → Int32 → Int32 → Int32 → Int32 → Int32 → Int32 → Int32 → Int32 → Hp → Option ((Int32 × Hp))) {r0 : Int32} {h0 : Hp} (hk145 : ∀ (x2 : Int32) (x3 : Int32) (x4 : Int32) (x5 : Int32) (x6 : Int32) (x7 : Int32) (h : Hp), k145 x2 x3 x4 x5 x6 x7 h = some (r0, h0) → ZG p l e (zrm 5 0 0) s m args below meth c N0 D cs (some (.int r0)) h0 h 13 [(0, .ref this), (2, .int x2), (3, .int x3), (4, .int x4), (5, .int x5), (6, .int x6), (7, .int x7)] 145 []) (hk166 : ∀ (x2 : Int32) (x3 : Int32) (x4 : Int32) (x5 : Int32) (x6 : Int32) (x7 : Int32) (x8 : Int32) (x9 : Int32) (x10 : Int32) (h : Hp), k166 x2 x3 x4 x5 x6 x7 x8 x9 x10 h = some (r0, h0) → ZG p l e (zrm 5 0 0) s m args below meth c N0 D cs (some (.int r0)) h0 h 13 [(0, .ref this), (2, .int x2), (3, .int x3), (4, .int x4), (5, .int x5), (6, .int x6), (7, .int x7), (8, .int x8), (9, .int x9), (10, .int x10)] 166 []) (x2 : Int32) (x3 : Int32) (x4 : Int32) (x5 : Int32) (x6 : Int32) (x7 : Int32) (x8 : Int32) (x9 : Int32) (x10 : Int32) (h : Hp) (hf : f_M_ring_193 this k145 k166 x2 x3 x4 x5 x6 x7 x8 x9 x10 h = some (r0, h0)) : ZG p l e (zrm 5 0 0) s m args below meth c N0 D cs (some (.int r0)) h0 h 13 [(0, .ref this), (2, .int x2), (3, .int x3), (4, .int x4), (5, .int x5), (6, .int x6), (7, .int x7), (8, .int x8), (9, .int x9), (10, .int x10)] 193 [] := by
  intro H locs ls hH hS hl
  unfold f_M_ring_193 at hf
  refine lv_iconst (v := (1 : Int32)) M.x M.b d_M_ring_193 rfl ?_
  refine lv_goto (tgt := 198) M.x M.b d_M_ring_194 (by decide) ?_
  exact w_M_ring_198 M this k145 k166 hk145 hk166 _ _ _ _ _ _ _ _ _ _ _ hf H locs ls hH hS (lv_sub hl [0, 1, 2, 3, 4, 5, 6, 7, 8, 9] rfl)
def t_M_ring_166 (this : Nat) (k145 : Int32 → Int32 → Int32 → Int32 → Int32 → Int32 → Hp → Option ((Int32 × Hp))) (k166 : Int32 → Int32 → Int32 → Int32 → Int32 → Int32 → Int32 → Int32 → Int32 → Hp → Option ((Int32 × Hp))) (x2 : Int32) (x3 : Int32) (x4 : Int32) (x5 : Int32) (x6 : Int32) (x7 : Int32) (x8 : Int32) (x9 : Int32) (x10 : Int32) (h : Hp) : Option ((Int32 × Hp)) :=
  if x10 < 0 then
    if x6 = 0 then
      (gA h this 8 39).bind fun r23 =>
      (r23).bind fun a25 =>
      (aI h 0 a25 (((10 : Int32) * x5) + x9)).bind fun i28 =>
      if i28 = (2 : Int32) then
        f_M_ring_294 this k145 x2 x3 x4 x7 x9 h
      else
      f_M_ring_299 this k145 (0 : Int32) x2 x3 x4 x7 x9 h
    else
    f_M_ring_294 this k145 x2 x3 x4 x7 x9 h
  else
  if x6 = 0 then
    (gA h this 8 39).bind fun r31 =>
    (r31).bind fun a33 =>
    (aI h 0 a33 (((10 : Int32) * x5) + x10)).bind fun i36 =>
    if i36 = (2 : Int32) then
      f_M_ring_193 this k145 k166 x2 x3 x4 x5 x6 x7 x8 x9 x10 h
    else
    f_M_ring_198 this k145 k166 (0 : Int32) x2 x3 x4 x5 x6 x7 x8 x9 x10 h
  else
  f_M_ring_193 this k145 k166 x2 x3 x4 x5 x6 x7 x8 x9 x10 h
set_option maxRecDepth 100000 in
set_option maxHeartbeats 4000000 in
theorem v_M_ring_166 {p : Program} {l : Launch} {e : Env} {s : State} {m : MethodId} {args : Array Value} {below : List Frame} {meth : Method} {c : Code} {N0 : Nat} {D : va_G} {cs : Nat → ClassId} (M : ZC p s m args meth c "YearBasketsModel" "ring" b_M_ring 13 (some .int) N0 D cs) (this : Nat) (k145 : Int32 → Int32 → Int32 → Int32 → Int32 → Int32 → Hp → Option ((Int32 × Hp))) (k166 : Int32 → Int32 → Int32 → Int32 → Int32 → Int32 → Int32 → Int32 → Int32 → Hp → Option ((Int32 × Hp))) {r0 : Int32} {h0 : Hp} (hk145 : ∀ (x2 : Int32) (x3 : Int32) (x4 : Int32) (x5 : Int32) (x6 : Int32) (x7 : Int32) (h : Hp), k145 x2 x3 x4 x5 x6 x7 h = some (r0, h0) → ZG p l e (zrm 5 0 0) s m args below meth c N0 D cs (some (.int r0)) h0 h 13 [(0, .ref this), (2, .int x2), (3, .int x3), (4, .int x4), (5, .int x5), (6, .int x6), (7, .int x7)] 145 []) (hk166 : ∀ (x2 : Int32) (x3 : Int32) (x4 : Int32) (x5 : Int32) (x6 : Int32) (x7 : Int32) (x8 : Int32) (x9 : Int32) (x10 : Int32) (h : Hp), k166 x2 x3 x4 x5 x6 x7 x8 x9 x10 h = some (r0, h0) → ZG p l e (zrm 5 0 0) s m args below meth c N0 D cs (some (.int r0)) h0 h 13 [(0, .ref this), (2, .int x2), (3, .int x3), (4, .int x4), (5, .int x5), (6, .int x6), (7, .int x7), (8, .int x8), (9, .int x9), (10, .int x10)] 166 []) (x2 : Int32) (x3 : Int32) (x4 : Int32) (x5 : Int32) (x6 : Int32) (x7 : Int32) (x8 : Int32) (x9 : Int32) (x10 : Int32) (h : Hp) (hf : t_M_ring_166 this k145 k166 x2 x3 x4 x5 x6 x7 x8 x9 x10 h = some (r0, h0)) : ZG p l e (zrm 5 0 0) s m args below meth c N0 D cs (some (.int r0)) h0 h 13 [(0, .ref this), (2, .int x2), (3, .int x3), (4, .int x4), (5, .int x5), (6, .int x6), (7, .int x7), (8, .int x8), (9, .int x9), (10, .int x10)] 166 [] := by
  intro H locs ls hH hS hl
  unfold t_M_ring_166 at hf
  refine lv_iload M.x M.b d_M_ring_166 (lv_at hl 9 rfl) ?_
  refine lv_if_lt (tgt := 272) M.x M.b d_M_ring_168 (by decide) (fun c39 => ?_) (fun c39 => ?_)
  · replace hf := z_t c39 hf
    refine lv_iload M.x M.b d_M_ring_272 (lv_at hl 5 rfl) ?_
    refine lv_if_ne (tgt := 294) M.x M.b d_M_ring_274 (by decide) (fun c30 => ?_) (fun c30 => ?_)
    · replace hf := z_f c30 hf
      exact w_M_ring_294 M this k145 hk145 _ _ _ _ _ _ hf H locs ls hH hS (lv_sub hl [0, 1, 2, 3, 6, 8] rfl)
    · replace hf := z_t c30 hf
      refine lv_aload_n M.x M.b d_M_ring_277 rfl (lv_at hl 0 rfl) ?_
      replace hf := z_bind hf; obtain ⟨r23, e24, hf⟩ := hf
      refine z_get (ci := 8) (k := 39) M hH rfl (by decide) zinM q_853 (gA_spec e24) d_M_ring_278 ?_
      refine lv_bipush (v := (10 : Int32)) M.x M.b d_M_ring_281 rfl ?_
      refine lv_iload M.x M.b d_M_ring_283 (lv_at hl 4 rfl) ?_
      refine lv_imul M.x M.b d_M_ring_285 ?_
      refine lv_iload M.x M.b d_M_ring_286 (lv_at hl 8 rfl) ?_
      refine lv_iadd M.x M.b d_M_ring_288 ?_
      rcases r23 with _ | a25
      · exact absurd hf z_nb0
      replace hf := z_sb hf
      replace hf := z_bind hf; obtain ⟨i28, e27, hf⟩ := hf
      refine z_iald M hH e27 d_M_ring_289 ?_
      refine lv_iconst (v := (2 : Int32)) M.x M.b d_M_ring_290 rfl ?_
      refine lv_icmp_ne (tgt := 298) M.x M.b d_M_ring_291 (by decide) (fun c29 => ?_) (fun c29 => ?_)
      · replace hf := z_f c29 hf
        refine lv_iconst (v := (0 : Int32)) M.x M.b d_M_ring_298 rfl ?_
        exact w_M_ring_299 M this k145 hk145 _ _ _ _ _ _ _ hf H locs ls hH hS (lv_sub hl [0, 1, 2, 3, 6, 8] rfl)
      · replace hf := z_t c29 hf
        exact w_M_ring_294 M this k145 hk145 _ _ _ _ _ _ hf H locs ls hH hS (lv_sub hl [0, 1, 2, 3, 6, 8] rfl)
  · replace hf := z_f c39 hf
    refine lv_iload M.x M.b d_M_ring_171 (lv_at hl 5 rfl) ?_
    refine lv_if_ne (tgt := 193) M.x M.b d_M_ring_173 (by decide) (fun c38 => ?_) (fun c38 => ?_)
    · replace hf := z_f c38 hf
      exact w_M_ring_193 M this k145 k166 hk145 hk166 _ _ _ _ _ _ _ _ _ _ hf H locs ls hH hS (lv_sub hl [0, 1, 2, 3, 4, 5, 6, 7, 8, 9] rfl)
    · replace hf := z_t c38 hf
      refine lv_aload_n M.x M.b d_M_ring_176 rfl (lv_at hl 0 rfl) ?_
      replace hf := z_bind hf; obtain ⟨r31, e32, hf⟩ := hf
      refine z_get (ci := 8) (k := 39) M hH rfl (by decide) zinM q_853 (gA_spec e32) d_M_ring_177 ?_
      refine lv_bipush (v := (10 : Int32)) M.x M.b d_M_ring_180 rfl ?_
      refine lv_iload M.x M.b d_M_ring_182 (lv_at hl 4 rfl) ?_
      refine lv_imul M.x M.b d_M_ring_184 ?_
      refine lv_iload M.x M.b d_M_ring_185 (lv_at hl 9 rfl) ?_
      refine lv_iadd M.x M.b d_M_ring_187 ?_
      rcases r31 with _ | a33
      · exact absurd hf z_nb0
      replace hf := z_sb hf
      replace hf := z_bind hf; obtain ⟨i36, e35, hf⟩ := hf
      refine z_iald M hH e35 d_M_ring_188 ?_
      refine lv_iconst (v := (2 : Int32)) M.x M.b d_M_ring_189 rfl ?_
      refine lv_icmp_ne (tgt := 197) M.x M.b d_M_ring_190 (by decide) (fun c37 => ?_) (fun c37 => ?_)
      · replace hf := z_f c37 hf
        refine lv_iconst (v := (0 : Int32)) M.x M.b d_M_ring_197 rfl ?_
        exact w_M_ring_198 M this k145 k166 hk145 hk166 _ _ _ _ _ _ _ _ _ _ _ hf H locs ls hH hS (lv_sub hl [0, 1, 2, 3, 4, 5, 6, 7, 8, 9] rfl)
      · replace hf := z_t c37 hf
        exact w_M_ring_193 M this k145 k166 hk145 hk166 _ _ _ _ _ _ _ _ _ _ hf H locs ls hH hS (lv_sub hl [0, 1, 2, 3, 4, 5, 6, 7, 8, 9] rfl)
def f_M_ring_166 (this : Nat) (k145 : Int32 → Int32 → Int32 → Int32 → Int32 → Int32 → Hp → Option ((Int32 × Hp))) : Nat → Int32 → Int32 → Int32 → Int32 → Int32 → Int32 → Int32 → Int32 → Int32 → Hp → Option ((Int32 × Hp))
  | 0, _, _, _, _, _, _, _, _, _, _ => none
  | n + 1, x2, x3, x4, x5, x6, x7, x8, x9, x10, h => t_M_ring_166 this k145 (f_M_ring_166 this k145 n) x2 x3 x4 x5 x6 x7 x8 x9 x10 h
theorem w_M_ring_166 {p : Program} {l : Launch} {e : Env} {s : State} {m : MethodId} {args : Array Value} {below : List Frame} {meth : Method} {c : Code} {N0 : Nat} {D : va_G} {cs : Nat → ClassId} (M : ZC p s m args meth c "YearBasketsModel" "ring" b_M_ring 13 (some .int) N0 D cs) (this : Nat) (k145 : Int32 → Int32 → Int32 → Int32 → Int32 → Int32 → Hp → Option ((Int32 × Hp))) {r0 : Int32} {h0 : Hp} (hk145 : ∀ (x2 : Int32) (x3 : Int32) (x4 : Int32) (x5 : Int32) (x6 : Int32) (x7 : Int32) (h : Hp), k145 x2 x3 x4 x5 x6 x7 h = some (r0, h0) → ZG p l e (zrm 5 0 0) s m args below meth c N0 D cs (some (.int r0)) h0 h 13 [(0, .ref this), (2, .int x2), (3, .int x3), (4, .int x4), (5, .int x5), (6, .int x6), (7, .int x7)] 145 []) : ∀ (n : Nat) (x2 : Int32) (x3 : Int32) (x4 : Int32) (x5 : Int32) (x6 : Int32) (x7 : Int32) (x8 : Int32) (x9 : Int32) (x10 : Int32) (h : Hp), f_M_ring_166 this k145 n x2 x3 x4 x5 x6 x7 x8 x9 x10 h = some (r0, h0) → ZG p l e (zrm 5 0 0) s m args below meth c N0 D cs (some (.int r0)) h0 h 13 [(0, .ref this), (2, .int x2), (3, .int x3), (4, .int x4), (5, .int x5), (6, .int x6), (7, .int x7), (8, .int x8), (9, .int x9), (10, .int x10)] 166 [] := by
  intro n
  induction n with
  | zero => intro x2 x3 x4 x5 x6 x7 x8 x9 x10 h hf; exact absurd (show none = some _ from hf) (fun q => by cases q)
  | succ n ih => intro x2 x3 x4 x5 x6 x7 x8 x9 x10 h hf; exact v_M_ring_166 M this k145 (f_M_ring_166 this k145 n) hk145 ih _ _ _ _ _ _ _ _ _ _ hf
def t_M_ring_145 (this : Nat) (k145 : Int32 → Int32 → Int32 → Int32 → Int32 → Int32 → Hp → Option ((Int32 × Hp))) (x2 : Int32) (x3 : Int32) (x4 : Int32) (x5 : Int32) (x6 : Int32) (x7 : Int32) (h : Hp) : Option ((Int32 × Hp)) :=
  if x2 ≤ x7 then
    some (x5, h)
  else
  f_M_ring_166 this k145 FU x2 x3 x4 x5 x6 x7 ((x3 - (1 : Int32)) - x7) (-1 : Int32) (7 : Int32) h
set_option maxRecDepth 100000 in
set_option maxHeartbeats 4000000 in
theorem v_M_ring_145 {p : Program} {l : Launch} {e : Env} {s : State} {m : MethodId} {args : Array Value} {below : List Frame} {meth : Method} {c : Code} {N0 : Nat} {D : va_G} {cs : Nat → ClassId} (M : ZC p s m args meth c "YearBasketsModel" "ring" b_M_ring 13 (some .int) N0 D cs) (this : Nat) (k145 : Int32 → Int32 → Int32 → Int32 → Int32 → Int32 → Hp → Option ((Int32 × Hp))) {r0 : Int32} {h0 : Hp} (hk145 : ∀ (x2 : Int32) (x3 : Int32) (x4 : Int32) (x5 : Int32) (x6 : Int32) (x7 : Int32) (h : Hp), k145 x2 x3 x4 x5 x6 x7 h = some (r0, h0) → ZG p l e (zrm 5 0 0) s m args below meth c N0 D cs (some (.int r0)) h0 h 13 [(0, .ref this), (2, .int x2), (3, .int x3), (4, .int x4), (5, .int x5), (6, .int x6), (7, .int x7)] 145 []) (x2 : Int32) (x3 : Int32) (x4 : Int32) (x5 : Int32) (x6 : Int32) (x7 : Int32) (h : Hp) (hf : t_M_ring_145 this k145 x2 x3 x4 x5 x6 x7 h = some (r0, h0)) : ZG p l e (zrm 5 0 0) s m args below meth c N0 D cs (some (.int r0)) h0 h 13 [(0, .ref this), (2, .int x2), (3, .int x3), (4, .int x4), (5, .int x5), (6, .int x6), (7, .int x7)] 145 [] := by
  intro H locs ls hH hS hl
  unfold t_M_ring_145 at hf
  refine lv_iload M.x M.b d_M_ring_145 (lv_at hl 6 rfl) ?_
  refine lv_iload_n M.x M.b d_M_ring_147 rfl (lv_at hl 1 rfl) ?_
  refine lv_icmp_ge (tgt := 311) M.x M.b d_M_ring_148 (by decide) (fun c40 => ?_) (fun c40 => ?_)
  · replace hf := z_t c40 hf
    refine lv_iload M.x M.b d_M_ring_311 (lv_at hl 4 rfl) ?_
    obtain ⟨rfl, rfl⟩ := z_r2 hf
    exact z_iret M hH hS d_M_ring_313
  · replace hf := z_f c40 hf
    refine lv_iload_n M.x M.b d_M_ring_151 rfl (lv_at hl 2 rfl) ?_
    refine lv_iconst (v := (1 : Int32)) M.x M.b d_M_ring_152 rfl ?_
    refine lv_isub M.x M.b d_M_ring_153 ?_
    refine lv_iload M.x M.b d_M_ring_154 (lv_at hl 6 rfl) ?_
    refine lv_isub M.x M.b d_M_ring_156 ?_
    refine lv_istore (lv' := [(8, .int ((x3 - (1 : Int32)) - x7)), (0, .ref this), (2, .int x2), (3, .int x3), (4, .int x4), (5, .int x5), (6, .int x6), (7, .int x7)]) M.x M.b d_M_ring_157 hl (by decide) rfl (fun ls hl => ?_)
    refine lv_iconst (v := (-1 : Int32)) M.x M.b d_M_ring_159 rfl ?_
    refine lv_istore (lv' := [(9, .int (-1 : Int32)), (8, .int ((x3 - (1 : Int32)) - x7)), (0, .ref this), (2, .int x2), (3, .int x3), (4, .int x4), (5, .int x5), (6, .int x6), (7, .int x7)]) M.x M.b d_M_ring_160 hl (by decide) rfl (fun ls hl => ?_)
    refine lv_bipush (v := (7 : Int32)) M.x M.b d_M_ring_162 rfl ?_
    refine lv_istore (lv' := [(10, .int (7 : Int32)), (9, .int (-1 : Int32)), (8, .int ((x3 - (1 : Int32)) - x7)), (0, .ref this), (2, .int x2), (3, .int x3), (4, .int x4), (5, .int x5), (6, .int x6), (7, .int x7)]) M.x M.b d_M_ring_164 hl (by decide) rfl (fun ls hl => ?_)
    exact w_M_ring_166 M this k145 hk145 FU _ _ _ _ _ _ _ _ _ _ hf H locs ls hH hS (lv_sub hl [3, 4, 5, 6, 7, 8, 9, 2, 1, 0] rfl)
def f_M_ring_145 (this : Nat) : Nat → Int32 → Int32 → Int32 → Int32 → Int32 → Int32 → Hp → Option ((Int32 × Hp))
  | 0, _, _, _, _, _, _, _ => none
  | n + 1, x2, x3, x4, x5, x6, x7, h => t_M_ring_145 this (f_M_ring_145 this n) x2 x3 x4 x5 x6 x7 h
theorem w_M_ring_145 {p : Program} {l : Launch} {e : Env} {s : State} {m : MethodId} {args : Array Value} {below : List Frame} {meth : Method} {c : Code} {N0 : Nat} {D : va_G} {cs : Nat → ClassId} (M : ZC p s m args meth c "YearBasketsModel" "ring" b_M_ring 13 (some .int) N0 D cs) (this : Nat)  {r0 : Int32} {h0 : Hp}  : ∀ (n : Nat) (x2 : Int32) (x3 : Int32) (x4 : Int32) (x5 : Int32) (x6 : Int32) (x7 : Int32) (h : Hp), f_M_ring_145 this n x2 x3 x4 x5 x6 x7 h = some (r0, h0) → ZG p l e (zrm 5 0 0) s m args below meth c N0 D cs (some (.int r0)) h0 h 13 [(0, .ref this), (2, .int x2), (3, .int x3), (4, .int x4), (5, .int x5), (6, .int x6), (7, .int x7)] 145 [] := by
  intro n
  induction n with
  | zero => intro x2 x3 x4 x5 x6 x7 h hf; exact absurd (show none = some _ from hf) (fun q => by cases q)
  | succ n ih => intro x2 x3 x4 x5 x6 x7 h hf; exact v_M_ring_145 M this (f_M_ring_145 this n)  ih _ _ _ _ _ _ _ hf
def f_M_ring_109 (this : Nat) (x2 : Int32) (x3 : Int32) (h : Hp) : Option ((Int32 × Hp)) :=
  if x2 = (-1 : Int32) then
    some (x3, h)
  else
  some ((-1 : Int32), h)
set_option maxRecDepth 100000 in
set_option maxHeartbeats 4000000 in
theorem w_M_ring_109 {p : Program} {l : Launch} {e : Env} {s : State} {m : MethodId} {args : Array Value} {below : List Frame} {meth : Method} {c : Code} {N0 : Nat} {D : va_G} {cs : Nat → ClassId} (M : ZC p s m args meth c "YearBasketsModel" "ring" b_M_ring 13 (some .int) N0 D cs) (this : Nat)  {r0 : Int32} {h0 : Hp}  (x2 : Int32) (x3 : Int32) (h : Hp) (hf : f_M_ring_109 this x2 x3 h = some (r0, h0)) : ZG p l e (zrm 5 0 0) s m args below meth c N0 D cs (some (.int r0)) h0 h 13 [(2, .int x2), (3, .int x3)] 109 [] := by
  intro H locs ls hH hS hl
  unfold f_M_ring_109 at hf
  refine lv_iload_n M.x M.b d_M_ring_109 rfl (lv_at hl 0 rfl) ?_
  refine lv_iconst (v := (-1 : Int32)) M.x M.b d_M_ring_110 rfl ?_
  refine lv_icmp_ne (tgt := 118) M.x M.b d_M_ring_111 (by decide) (fun c41 => ?_) (fun c41 => ?_)
  · replace hf := z_f c41 hf
    refine lv_iconst (v := (-1 : Int32)) M.x M.b d_M_ring_118 rfl ?_
    obtain ⟨rfl, rfl⟩ := z_r2 hf
    exact z_iret M hH hS d_M_ring_119
  · replace hf := z_t c41 hf
    refine lv_iload_n M.x M.b d_M_ring_114 rfl (lv_at hl 1 rfl) ?_
    refine lv_goto (tgt := 119) M.x M.b d_M_ring_115 (by decide) ?_
    obtain ⟨rfl, rfl⟩ := z_r2 hf
    exact z_iret M hH hS d_M_ring_119
def f_M_ring_100 (this : Nat) (x2 : Int32) (x3 : Int32) (x4 : Int32) (h : Hp) : Option ((Int32 × Hp)) :=
  if x2 = (-1 : Int32) then
    f_M_ring_109 this x2 x3 h
  else
  if x3 = 0 then
    f_M_ring_109 this x2 x3 h
  else
  (f_M_in (x2).toInt64 (0 : Int64) ((x3 - (1 : Int32))).toInt64).bind fun i43 =>
  if i43 = 0 then
    some ((-1 : Int32), h)
  else
  f_M_ring_145 this FU x2 x3 x4 x4 (0 : Int32) (0 : Int32) h
set_option maxRecDepth 100000 in
set_option maxHeartbeats 4000000 in
theorem w_M_ring_100 {p : Program} {l : Launch} {e : Env} {s : State} {m : MethodId} {args : Array Value} {below : List Frame} {meth : Method} {c : Code} {N0 : Nat} {D : va_G} {cs : Nat → ClassId} (M : ZC p s m args meth c "YearBasketsModel" "ring" b_M_ring 13 (some .int) N0 D cs) (this : Nat)  {r0 : Int32} {h0 : Hp}  (x2 : Int32) (x3 : Int32) (x4 : Int32) (h : Hp) (hf : f_M_ring_100 this x2 x3 x4 h = some (r0, h0)) : ZG p l e (zrm 5 0 0) s m args below meth c N0 D cs (some (.int r0)) h0 h 13 [(0, .ref this), (2, .int x2), (3, .int x3), (4, .int x4)] 100 [] := by
  intro H locs ls hH hS hl
  unfold f_M_ring_100 at hf
  refine lv_iload_n M.x M.b d_M_ring_100 rfl (lv_at hl 1 rfl) ?_
  refine lv_iconst (v := (-1 : Int32)) M.x M.b d_M_ring_101 rfl ?_
  refine lv_icmp_eq (tgt := 109) M.x M.b d_M_ring_102 (by decide) (fun c46 => ?_) (fun c46 => ?_)
  · replace hf := z_t c46 hf
    exact w_M_ring_109 M this _ _ _ hf H locs ls hH hS (lv_sub hl [1, 2] rfl)
  · replace hf := z_f c46 hf
    refine lv_iload_n M.x M.b d_M_ring_105 rfl (lv_at hl 2 rfl) ?_
    refine lv_if_ne (tgt := 120) M.x M.b d_M_ring_106 (by decide) (fun c45 => ?_) (fun c45 => ?_)
    · replace hf := z_f c45 hf
      refine lv_iload_n M.x M.b d_M_ring_120 rfl (lv_at hl 1 rfl) ?_
      refine lv_i2l M.x M.b d_M_ring_121 rfl ?_
      refine lv_lconst (v := (0 : Int64)) M.x M.b d_M_ring_122 rfl ?_
      refine lv_iload_n M.x M.b d_M_ring_123 rfl (lv_at hl 2 rfl) ?_
      refine lv_iconst (v := (1 : Int32)) M.x M.b d_M_ring_124 rfl ?_
      refine lv_isub M.x M.b d_M_ring_125 ?_
      refine lv_i2l M.x M.b d_M_ring_126 rfl ?_
      replace hf := z_bind hf; obtain ⟨i43, e42, hf⟩ := hf
      refine zk_S (st1 := [.int i43]) M hH hS (c_M_in e42) w_M_in q_551 [] rfl ⟨Nat.le_of_ble_eq_true rfl, Nat.le_of_ble_eq_true rfl⟩ hl.1 rfl rfl (Nat.le_of_ble_eq_true rfl) d_M_ring_127 (fun H locs hH hS => ?_)
      refine lv_if_ne (tgt := 135) M.x M.b d_M_ring_130 (by decide) (fun c44 => ?_) (fun c44 => ?_)
      · replace hf := z_f c44 hf
        refine lv_iload M.x M.b d_M_ring_135 (lv_at hl 3 rfl) ?_
        refine lv_istore (lv' := [(5, .int x4), (0, .ref this), (2, .int x2), (3, .int x3), (4, .int x4)]) M.x M.b d_M_ring_137 hl (by decide) rfl (fun ls hl => ?_)
        refine lv_iconst (v := (0 : Int32)) M.x M.b d_M_ring_139 rfl ?_
        refine lv_istore (lv' := [(6, .int (0 : Int32)), (5, .int x4), (0, .ref this), (2, .int x2), (3, .int x3), (4, .int x4)]) M.x M.b d_M_ring_140 hl (by decide) rfl (fun ls hl => ?_)
        refine lv_iconst (v := (0 : Int32)) M.x M.b d_M_ring_142 rfl ?_
        refine lv_istore (lv' := [(7, .int (0 : Int32)), (6, .int (0 : Int32)), (5, .int x4), (0, .ref this), (2, .int x2), (3, .int x3), (4, .int x4)]) M.x M.b d_M_ring_143 hl (by decide) rfl (fun ls hl => ?_)
        exact w_M_ring_145 M this FU _ _ _ _ _ _ _ hf H locs ls hH hS (lv_sub hl [3, 4, 5, 6, 2, 1, 0] rfl)
      · replace hf := z_t c44 hf
        refine lv_iconst (v := (-1 : Int32)) M.x M.b d_M_ring_133 rfl ?_
        obtain ⟨rfl, rfl⟩ := z_r2 hf
        exact z_iret M hH hS d_M_ring_134
    · replace hf := z_t c45 hf
      exact w_M_ring_109 M this _ _ _ hf H locs ls hH hS (lv_sub hl [1, 2] rfl)
def f_M_ring_87 (this : Nat) (k24 : Int32 → Int32 → Int32 → Int32 → Hp → Option ((Int32 × Hp))) (k39 : Int32 → Int32 → Int32 → Int32 → Int32 → Hp → Option ((Int32 × Hp))) (s0 : Int32) (x2 : Int32) (x4 : Int32) (x5 : Int32) (x6 : Int32) (h : Hp) : Option ((Int32 × Hp)) :=
  k39 x2 s0 x4 x5 (x6 + (-1 : Int32)) h
set_option maxRecDepth 100000 in
set_option maxHeartbeats 4000000 in
theorem w_M_ring_87 {p : Program} {l : Launch} {e : Env} {s : State} {m : MethodId} {args : Array Value} {below : List Frame} {meth : Method} {c : Code} {N0 : Nat} {D : va_G} {cs : Nat → ClassId} (M : ZC p s m args meth c "YearBasketsModel" "ring" b_M_ring 13 (some .int) N0 D cs) (this : Nat) (k24 : Int32 → Int32 → Int32 → Int32 → Hp → Option ((Int32 × Hp))) (k39 : Int32 → Int32 → Int32 → Int32 → Int32 → Hp → Option ((Int32 × Hp))) {r0 : Int32} {h0 : Hp} (hk24 : ∀ (x2 : Int32) (x3 : Int32) (x4 : Int32) (x5 : Int32) (h : Hp), k24 x2 x3 x4 x5 h = some (r0, h0) → ZG p l e (zrm 5 0 0) s m args below meth c N0 D cs (some (.int r0)) h0 h 13 [(0, .ref this), (2, .int x2), (3, .int x3), (4, .int x4), (5, .int x5)] 24 []) (hk39 : ∀ (x2 : Int32) (x3 : Int32) (x4 : Int32) (x5 : Int32) (x6 : Int32) (h : Hp), k39 x2 x3 x4 x5 x6 h = some (r0, h0) → ZG p l e (zrm 5 0 0) s m args below meth c N0 D cs (some (.int r0)) h0 h 13 [(0, .ref this), (2, .int x2), (3, .int x3), (4, .int x4), (5, .int x5), (6, .int x6)] 39 []) (s0 : Int32) (x2 : Int32) (x4 : Int32) (x5 : Int32) (x6 : Int32) (h : Hp) (hf : f_M_ring_87 this k24 k39 s0 x2 x4 x5 x6 h = some (r0, h0)) : ZG p l e (zrm 5 0 0) s m args below meth c N0 D cs (some (.int r0)) h0 h 13 [(0, .ref this), (2, .int x2), (4, .int x4), (5, .int x5), (6, .int x6)] 87 [.int s0] := by
  intro H locs ls hH hS hl
  unfold f_M_ring_87 at hf
  refine lv_istore_n (lv' := [(3, .int s0), (0, .ref this), (2, .int x2), (4, .int x4), (5, .int x5), (6, .int x6)]) M.x M.b d_M_ring_87 rfl hl (by decide) rfl (fun ls hl => ?_)
  refine lv_iinc (v := (x6 + (-1 : Int32))) (lv' := [(6, .int (x6 + (-1 : Int32))), (3, .int s0), (0, .ref this), (2, .int x2), (4, .int x4), (5, .int x5)]) M.x M.b d_M_ring_88 hl (k := 5) rfl rfl (by decide) rfl (fun ls hl => ?_)
  refine lv_goto (tgt := 39) M.x M.b d_M_ring_91 (by decide) ?_
  exact hk39 _ _ _ _ _ _ hf H locs ls hH hS (lv_sub hl [2, 3, 1, 4, 5, 0] rfl)
def f_M_ring_74 (this : Nat) (k24 : Int32 → Int32 → Int32 → Int32 → Hp → Option ((Int32 × Hp))) (k39 : Int32 → Int32 → Int32 → Int32 → Int32 → Hp → Option ((Int32 × Hp))) (s0 : Int32) (x2 : Int32) (x3 : Int32) (x5 : Int32) (x6 : Int32) (x7 : Int32) (h : Hp) : Option ((Int32 × Hp)) :=
  if x7 = 0 then
    f_M_ring_87 this k24 k39 x3 x2 s0 x5 x6 h
  else
  f_M_ring_87 this k24 k39 x5 x2 s0 x5 x6 h
set_option maxRecDepth 100000 in
set_option maxHeartbeats 4000000 in
theorem w_M_ring_74 {p : Program} {l : Launch} {e : Env} {s : State} {m : MethodId} {args : Array Value} {below : List Frame} {meth : Method} {c : Code} {N0 : Nat} {D : va_G} {cs : Nat → ClassId} (M : ZC p s m args meth c "YearBasketsModel" "ring" b_M_ring 13 (some .int) N0 D cs) (this : Nat) (k24 : Int32 → Int32 → Int32 → Int32 → Hp → Option ((Int32 × Hp))) (k39 : Int32 → Int32 → Int32 → Int32 → Int32 → Hp → Option ((Int32 × Hp))) {r0 : Int32} {h0 : Hp} (hk24 : ∀ (x2 : Int32) (x3 : Int32) (x4 : Int32) (x5 : Int32) (h : Hp), k24 x2 x3 x4 x5 h = some (r0, h0) → ZG p l e (zrm 5 0 0) s m args below meth c N0 D cs (some (.int r0)) h0 h 13 [(0, .ref this), (2, .int x2), (3, .int x3), (4, .int x4), (5, .int x5)] 24 []) (hk39 : ∀ (x2 : Int32) (x3 : Int32) (x4 : Int32) (x5 : Int32) (x6 : Int32) (h : Hp), k39 x2 x3 x4 x5 x6 h = some (r0, h0) → ZG p l e (zrm 5 0 0) s m args below meth c N0 D cs (some (.int r0)) h0 h 13 [(0, .ref this), (2, .int x2), (3, .int x3), (4, .int x4), (5, .int x5), (6, .int x6)] 39 []) (s0 : Int32) (x2 : Int32) (x3 : Int32) (x5 : Int32) (x6 : Int32) (x7 : Int32) (h : Hp) (hf : f_M_ring_74 this k24 k39 s0 x2 x3 x5 x6 x7 h = some (r0, h0)) : ZG p l e (zrm 5 0 0) s m args below meth c N0 D cs (some (.int r0)) h0 h 13 [(0, .ref this), (2, .int x2), (3, .int x3), (5, .int x5), (6, .int x6), (7, .int x7)] 74 [.int s0] := by
  intro H locs ls hH hS hl
  unfold f_M_ring_74 at hf
  refine lv_istore (lv' := [(4, .int s0), (0, .ref this), (2, .int x2), (3, .int x3), (5, .int x5), (6, .int x6), (7, .int x7)]) M.x M.b d_M_ring_74 hl (by decide) rfl (fun ls hl => ?_)
  refine lv_iload M.x M.b d_M_ring_76 (lv_at hl 6 rfl) ?_
  refine lv_if_eq (tgt := 86) M.x M.b d_M_ring_78 (by decide) (fun c47 => ?_) (fun c47 => ?_)
  · replace hf := z_t c47 hf
    refine lv_iload_n M.x M.b d_M_ring_86 rfl (lv_at hl 3 rfl) ?_
    exact w_M_ring_87 M this k24 k39 hk24 hk39 _ _ _ _ _ _ hf H locs ls hH hS (lv_sub hl [1, 2, 0, 4, 5] rfl)
  · replace hf := z_f c47 hf
    refine lv_iload M.x M.b d_M_ring_81 (lv_at hl 4 rfl) ?_
    refine lv_goto (tgt := 87) M.x M.b d_M_ring_83 (by decide) ?_
    exact w_M_ring_87 M this k24 k39 hk24 hk39 _ _ _ _ _ _ hf H locs ls hH hS (lv_sub hl [1, 2, 0, 4, 5] rfl)
def t_M_ring_39 (this : Nat) (k24 : Int32 → Int32 → Int32 → Int32 → Hp → Option ((Int32 × Hp))) (k39 : Int32 → Int32 → Int32 → Int32 → Int32 → Hp → Option ((Int32 × Hp))) (x2 : Int32) (x3 : Int32) (x4 : Int32) (x5 : Int32) (x6 : Int32) (h : Hp) : Option ((Int32 × Hp)) :=
  if x6 < 0 then
    k24 x2 x3 x4 (x5 + (1 : Int32)) h
  else
  (gA h this 8 38).bind fun r48 =>
  (r48).bind fun a50 =>
  (aI h 2 a50 (((100 : Int32) * x5) + ((11 : Int32) * x6))).bind fun i53 =>
  if i53 = 0 then
    f_M_ring_74 this k24 k39 x4 x2 x3 x5 x6 i53 h
  else
  f_M_ring_74 this k24 k39 x6 x2 x3 x5 x6 i53 h
set_option maxRecDepth 100000 in
set_option maxHeartbeats 4000000 in
theorem v_M_ring_39 {p : Program} {l : Launch} {e : Env} {s : State} {m : MethodId} {args : Array Value} {below : List Frame} {meth : Method} {c : Code} {N0 : Nat} {D : va_G} {cs : Nat → ClassId} (M : ZC p s m args meth c "YearBasketsModel" "ring" b_M_ring 13 (some .int) N0 D cs) (this : Nat) (k24 : Int32 → Int32 → Int32 → Int32 → Hp → Option ((Int32 × Hp))) (k39 : Int32 → Int32 → Int32 → Int32 → Int32 → Hp → Option ((Int32 × Hp))) {r0 : Int32} {h0 : Hp} (hk24 : ∀ (x2 : Int32) (x3 : Int32) (x4 : Int32) (x5 : Int32) (h : Hp), k24 x2 x3 x4 x5 h = some (r0, h0) → ZG p l e (zrm 5 0 0) s m args below meth c N0 D cs (some (.int r0)) h0 h 13 [(0, .ref this), (2, .int x2), (3, .int x3), (4, .int x4), (5, .int x5)] 24 []) (hk39 : ∀ (x2 : Int32) (x3 : Int32) (x4 : Int32) (x5 : Int32) (x6 : Int32) (h : Hp), k39 x2 x3 x4 x5 x6 h = some (r0, h0) → ZG p l e (zrm 5 0 0) s m args below meth c N0 D cs (some (.int r0)) h0 h 13 [(0, .ref this), (2, .int x2), (3, .int x3), (4, .int x4), (5, .int x5), (6, .int x6)] 39 []) (x2 : Int32) (x3 : Int32) (x4 : Int32) (x5 : Int32) (x6 : Int32) (h : Hp) (hf : t_M_ring_39 this k24 k39 x2 x3 x4 x5 x6 h = some (r0, h0)) : ZG p l e (zrm 5 0 0) s m args below meth c N0 D cs (some (.int r0)) h0 h 13 [(0, .ref this), (2, .int x2), (3, .int x3), (4, .int x4), (5, .int x5), (6, .int x6)] 39 [] := by
  intro H locs ls hH hS hl
  unfold t_M_ring_39 at hf
  refine lv_iload M.x M.b d_M_ring_39 (lv_at hl 5 rfl) ?_
  refine lv_if_lt (tgt := 94) M.x M.b d_M_ring_41 (by decide) (fun c55 => ?_) (fun c55 => ?_)
  · replace hf := z_t c55 hf
    refine lv_iinc (v := (x5 + (1 : Int32))) (lv' := [(5, .int (x5 + (1 : Int32))), (0, .ref this), (2, .int x2), (3, .int x3), (4, .int x4), (6, .int x6)]) M.x M.b d_M_ring_94 hl (k := 4) rfl rfl (by decide) rfl (fun ls hl => ?_)
    refine lv_goto (tgt := 24) M.x M.b d_M_ring_97 (by decide) ?_
    exact hk24 _ _ _ _ _ hf H locs ls hH hS (lv_sub hl [1, 2, 3, 4, 0] rfl)
  · replace hf := z_f c55 hf
    refine lv_aload_n M.x M.b d_M_ring_44 rfl (lv_at hl 0 rfl) ?_
    replace hf := z_bind hf; obtain ⟨r48, e49, hf⟩ := hf
    refine z_get (ci := 8) (k := 38) M hH rfl (by decide) zinM q_854 (gA_spec e49) d_M_ring_45 ?_
    refine lv_bipush (v := (100 : Int32)) M.x M.b d_M_ring_48 rfl ?_
    refine lv_iload M.x M.b d_M_ring_50 (lv_at hl 4 rfl) ?_
    refine lv_imul M.x M.b d_M_ring_52 ?_
    refine lv_bipush (v := (11 : Int32)) M.x M.b d_M_ring_53 rfl ?_
    refine lv_iload M.x M.b d_M_ring_55 (lv_at hl 5 rfl) ?_
    refine lv_imul M.x M.b d_M_ring_57 ?_
    refine lv_iadd M.x M.b d_M_ring_58 ?_
    rcases r48 with _ | a50
    · exact absurd hf z_nb0
    replace hf := z_sb hf
    replace hf := z_bind hf; obtain ⟨i53, e52, hf⟩ := hf
    refine z_zald M hH e52 d_M_ring_59 ?_
    refine lv_istore (lv' := [(7, .int i53), (0, .ref this), (2, .int x2), (3, .int x3), (4, .int x4), (5, .int x5), (6, .int x6)]) M.x M.b d_M_ring_60 hl (by decide) rfl (fun ls hl => ?_)
    refine lv_iload M.x M.b d_M_ring_62 (lv_at hl 0 rfl) ?_
    refine lv_if_eq (tgt := 72) M.x M.b d_M_ring_64 (by decide) (fun c54 => ?_) (fun c54 => ?_)
    · replace hf := z_t c54 hf
      refine lv_iload M.x M.b d_M_ring_72 (lv_at hl 4 rfl) ?_
      exact w_M_ring_74 M this k24 k39 hk24 hk39 _ _ _ _ _ _ _ hf H locs ls hH hS (lv_sub hl [1, 2, 3, 5, 6, 0] rfl)
    · replace hf := z_f c54 hf
      refine lv_iload M.x M.b d_M_ring_67 (lv_at hl 6 rfl) ?_
      refine lv_goto (tgt := 74) M.x M.b d_M_ring_69 (by decide) ?_
      exact w_M_ring_74 M this k24 k39 hk24 hk39 _ _ _ _ _ _ _ hf H locs ls hH hS (lv_sub hl [1, 2, 3, 5, 6, 0] rfl)
def f_M_ring_39 (this : Nat) (k24 : Int32 → Int32 → Int32 → Int32 → Hp → Option ((Int32 × Hp))) : Nat → Int32 → Int32 → Int32 → Int32 → Int32 → Hp → Option ((Int32 × Hp))
  | 0, _, _, _, _, _, _ => none
  | n + 1, x2, x3, x4, x5, x6, h => t_M_ring_39 this k24 (f_M_ring_39 this k24 n) x2 x3 x4 x5 x6 h
theorem w_M_ring_39 {p : Program} {l : Launch} {e : Env} {s : State} {m : MethodId} {args : Array Value} {below : List Frame} {meth : Method} {c : Code} {N0 : Nat} {D : va_G} {cs : Nat → ClassId} (M : ZC p s m args meth c "YearBasketsModel" "ring" b_M_ring 13 (some .int) N0 D cs) (this : Nat) (k24 : Int32 → Int32 → Int32 → Int32 → Hp → Option ((Int32 × Hp))) {r0 : Int32} {h0 : Hp} (hk24 : ∀ (x2 : Int32) (x3 : Int32) (x4 : Int32) (x5 : Int32) (h : Hp), k24 x2 x3 x4 x5 h = some (r0, h0) → ZG p l e (zrm 5 0 0) s m args below meth c N0 D cs (some (.int r0)) h0 h 13 [(0, .ref this), (2, .int x2), (3, .int x3), (4, .int x4), (5, .int x5)] 24 []) : ∀ (n : Nat) (x2 : Int32) (x3 : Int32) (x4 : Int32) (x5 : Int32) (x6 : Int32) (h : Hp), f_M_ring_39 this k24 n x2 x3 x4 x5 x6 h = some (r0, h0) → ZG p l e (zrm 5 0 0) s m args below meth c N0 D cs (some (.int r0)) h0 h 13 [(0, .ref this), (2, .int x2), (3, .int x3), (4, .int x4), (5, .int x5), (6, .int x6)] 39 [] := by
  intro n
  induction n with
  | zero => intro x2 x3 x4 x5 x6 h hf; exact absurd (show none = some _ from hf) (fun q => by cases q)
  | succ n ih => intro x2 x3 x4 x5 x6 h hf; exact v_M_ring_39 M this k24 (f_M_ring_39 this k24 n) hk24 ih _ _ _ _ _ _ hf
def t_M_ring_24 (this : Nat) (k24 : Int32 → Int32 → Int32 → Int32 → Hp → Option ((Int32 × Hp))) (x2 : Int32) (x3 : Int32) (x4 : Int32) (x5 : Int32) (h : Hp) : Option ((Int32 × Hp)) :=
  if (8 : Int32) < x5 then
    f_M_ring_100 this x2 x3 x4 h
  else
  if x3 = 0 then
    f_M_ring_39 this k24 FU x2 x3 x4 x5 (7 : Int32) h
  else
  f_M_ring_100 this x2 x3 x4 h
set_option maxRecDepth 100000 in
set_option maxHeartbeats 4000000 in
theorem v_M_ring_24 {p : Program} {l : Launch} {e : Env} {s : State} {m : MethodId} {args : Array Value} {below : List Frame} {meth : Method} {c : Code} {N0 : Nat} {D : va_G} {cs : Nat → ClassId} (M : ZC p s m args meth c "YearBasketsModel" "ring" b_M_ring 13 (some .int) N0 D cs) (this : Nat) (k24 : Int32 → Int32 → Int32 → Int32 → Hp → Option ((Int32 × Hp))) {r0 : Int32} {h0 : Hp} (hk24 : ∀ (x2 : Int32) (x3 : Int32) (x4 : Int32) (x5 : Int32) (h : Hp), k24 x2 x3 x4 x5 h = some (r0, h0) → ZG p l e (zrm 5 0 0) s m args below meth c N0 D cs (some (.int r0)) h0 h 13 [(0, .ref this), (2, .int x2), (3, .int x3), (4, .int x4), (5, .int x5)] 24 []) (x2 : Int32) (x3 : Int32) (x4 : Int32) (x5 : Int32) (h : Hp) (hf : t_M_ring_24 this k24 x2 x3 x4 x5 h = some (r0, h0)) : ZG p l e (zrm 5 0 0) s m args below meth c N0 D cs (some (.int r0)) h0 h 13 [(0, .ref this), (2, .int x2), (3, .int x3), (4, .int x4), (5, .int x5)] 24 [] := by
  intro H locs ls hH hS hl
  unfold t_M_ring_24 at hf
  refine lv_iload M.x M.b d_M_ring_24 (lv_at hl 4 rfl) ?_
  refine lv_bipush (v := (8 : Int32)) M.x M.b d_M_ring_26 rfl ?_
  refine lv_icmp_gt (tgt := 100) M.x M.b d_M_ring_28 (by decide) (fun c57 => ?_) (fun c57 => ?_)
  · replace hf := z_t c57 hf
    exact w_M_ring_100 M this _ _ _ _ hf H locs ls hH hS (lv_sub hl [0, 1, 2, 3] rfl)
  · replace hf := z_f c57 hf
    refine lv_iload_n M.x M.b d_M_ring_31 rfl (lv_at hl 2 rfl) ?_
    refine lv_if_ne (tgt := 100) M.x M.b d_M_ring_32 (by decide) (fun c56 => ?_) (fun c56 => ?_)
    · replace hf := z_f c56 hf
      exact w_M_ring_100 M this _ _ _ _ hf H locs ls hH hS (lv_sub hl [0, 1, 2, 3] rfl)
    · replace hf := z_t c56 hf
      refine lv_bipush (v := (7 : Int32)) M.x M.b d_M_ring_35 rfl ?_
      refine lv_istore (lv' := [(6, .int (7 : Int32)), (0, .ref this), (2, .int x2), (3, .int x3), (4, .int x4), (5, .int x5)]) M.x M.b d_M_ring_37 hl (by decide) rfl (fun ls hl => ?_)
      exact w_M_ring_39 M this k24 hk24 FU _ _ _ _ _ _ hf H locs ls hH hS (lv_sub hl [1, 2, 3, 4, 5, 0] rfl)
def f_M_ring_24 (this : Nat) : Nat → Int32 → Int32 → Int32 → Int32 → Hp → Option ((Int32 × Hp))
  | 0, _, _, _, _, _ => none
  | n + 1, x2, x3, x4, x5, h => t_M_ring_24 this (f_M_ring_24 this n) x2 x3 x4 x5 h
theorem w_M_ring_24 {p : Program} {l : Launch} {e : Env} {s : State} {m : MethodId} {args : Array Value} {below : List Frame} {meth : Method} {c : Code} {N0 : Nat} {D : va_G} {cs : Nat → ClassId} (M : ZC p s m args meth c "YearBasketsModel" "ring" b_M_ring 13 (some .int) N0 D cs) (this : Nat)  {r0 : Int32} {h0 : Hp}  : ∀ (n : Nat) (x2 : Int32) (x3 : Int32) (x4 : Int32) (x5 : Int32) (h : Hp), f_M_ring_24 this n x2 x3 x4 x5 h = some (r0, h0) → ZG p l e (zrm 5 0 0) s m args below meth c N0 D cs (some (.int r0)) h0 h 13 [(0, .ref this), (2, .int x2), (3, .int x3), (4, .int x4), (5, .int x5)] 24 [] := by
  intro n
  induction n with
  | zero => intro x2 x3 x4 x5 h hf; exact absurd (show none = some _ from hf) (fun q => by cases q)
  | succ n ih => intro x2 x3 x4 x5 h hf; exact v_M_ring_24 M this (f_M_ring_24 this n)  ih _ _ _ _ _ hf
def f_M_ring (this : Nat) (x1 : Int32) (x2 : Int32) (h : Hp) : Option ((Int32 × Hp)) :=
  if isO h this 8 = true then
  (f_M_isWho x1).bind fun i59 =>
  if i59 = 0 then
    some ((-1001 : Int32), h)
  else
  (f_M_findWalks this x1 h).bind fun h61 =>
  f_M_ring_24 this FU x2 (0 : Int32) (-1 : Int32) (2 : Int32) h61
  else none
theorem o_M_ring {this : Nat} {x1 : Int32} {x2 : Int32} {h : Hp} {r0 : Int32} {h0 : Hp} (hf : f_M_ring this x1 x2 h = some (r0, h0)) : isO h this 8 = true := by
  unfold f_M_ring at hf
  exact (z_gd hf).1
set_option maxRecDepth 100000 in
set_option maxHeartbeats 4000000 in
theorem c_M_ring {l : Launch} {N0 : Nat} {D : va_G} {cs : Nat → ClassId} {this : Nat} {x1 : Int32} {x2 : Int32} {h : Hp} {r0 : Int32} {h0 : Hp} (hf : f_M_ring this x1 x2 h = some (r0, h0)) : Fn l N0 D cs y_M_ring b_M_ring 13 (some .int) 5 0 0 [.ref this, .int x1, .int x2] h (some (.int r0)) h0 := by
  refine z_start (by decide) (Nat.le_of_ble_eq_true rfl) ?_
  intro p e s m args below meth c M hH hS ls hl
  unfold f_M_ring at hf
  obtain ⟨hO, hf⟩ := z_gd hf
  have hl : lv_has ls 13 [(0, .ref this), (1, .int x1), (2, .int x2)] := hl
  obtain ⟨H, hHe⟩ : ∃ H, H = s.heap := ⟨_, rfl⟩
  obtain ⟨locs, hLe⟩ : ∃ locs : List Loc, locs = [] := ⟨_, rfl⟩
  have hS : va_S (zA N0) s.heap H locs := by rw [hHe, hLe]; exact hS
  have hH : HH N0 D cs h H := by rw [hHe]; exact hH
  suffices hg : W p l e (zrm 5 0 0) s m args below meth c H locs 0 0 (MQ below (zQ N0 D cs (some (.int r0)) h0) args s 0 0 (zA N0)) (F0 m 0 ls []) by rw [hHe, hLe] at hg; exact hg
  clear hHe hLe
  refine lv_iload_n M.x M.b d_M_ring_0 rfl (lv_at hl 1 rfl) ?_
  replace hf := z_bind hf; obtain ⟨i59, e58, hf⟩ := hf
  refine zk_S (st1 := [.int i59]) M hH hS (c_M_isWho e58) w_M_isWho q_582 [] rfl ⟨Nat.le_of_ble_eq_true rfl, Nat.le_of_ble_eq_true rfl⟩ hl.1 rfl rfl (Nat.le_of_ble_eq_true rfl) d_M_ring_1 (fun H locs hH hS => ?_)
  refine lv_if_ne (tgt := 11) M.x M.b d_M_ring_4 (by decide) (fun c62 => ?_) (fun c62 => ?_)
  · replace hf := z_f c62 hf
    refine lv_aload_n M.x M.b d_M_ring_11 rfl (lv_at hl 0 rfl) ?_
    refine lv_iload_n M.x M.b d_M_ring_12 rfl (lv_at hl 1 rfl) ?_
    replace hf := z_bind hf; obtain ⟨h61, e60, hf⟩ := hf
    refine zk_V (ci := 8) (st1 := []) M hH hS (c_M_findWalks e60) rfl (o_M_findWalks e60) w_M_findWalks q_858 [] rfl ⟨Nat.le_of_ble_eq_true rfl, Nat.le_of_ble_eq_true rfl⟩ hl.1 rfl rfl (Nat.le_of_ble_eq_true rfl) d_M_ring_13 (fun H locs hH hS => ?_)
    refine lv_iconst (v := (0 : Int32)) M.x M.b d_M_ring_16 rfl ?_
    refine lv_istore_n (lv' := [(3, .int (0 : Int32)), (0, .ref this), (1, .int x1), (2, .int x2)]) M.x M.b d_M_ring_17 rfl hl (by decide) rfl (fun ls hl => ?_)
    refine lv_iconst (v := (-1 : Int32)) M.x M.b d_M_ring_18 rfl ?_
    refine lv_istore (lv' := [(4, .int (-1 : Int32)), (3, .int (0 : Int32)), (0, .ref this), (1, .int x1), (2, .int x2)]) M.x M.b d_M_ring_19 hl (by decide) rfl (fun ls hl => ?_)
    refine lv_iconst (v := (2 : Int32)) M.x M.b d_M_ring_21 rfl ?_
    refine lv_istore (lv' := [(5, .int (2 : Int32)), (4, .int (-1 : Int32)), (3, .int (0 : Int32)), (0, .ref this), (1, .int x1), (2, .int x2)]) M.x M.b d_M_ring_22 hl (by decide) rfl (fun ls hl => ?_)
    exact w_M_ring_24 M this FU _ _ _ _ _ hf H locs ls hH hS (lv_sub hl [3, 5, 2, 1, 0] rfl)
  · replace hf := z_t c62 hf
    refine lv_sipush (v := (-1001 : Int32)) M.x M.b d_M_ring_7 rfl ?_
    obtain ⟨rfl, rfl⟩ := z_r2 hf
    exact z_iret M hH hS d_M_ring_10
def f_M_need_181 (this : Nat) (k76 : Int32 → Int32 → Int32 → Int32 → Int32 → Int32 → Int32 → Int32 → Hp → Option ((Int32 × Hp))) (x1 : Int32) (x2 : Int32) (x3 : Int32) (x4 : Int32) (x5 : Int32) (x6 : Int32) (x7 : Int32) (x8 : Int32) (h : Hp) : Option ((Int32 × Hp)) :=
  k76 x1 x2 x3 x4 x5 x6 x7 (x8 + (1 : Int32)) h
set_option maxRecDepth 100000 in
set_option maxHeartbeats 4000000 in
theorem w_M_need_181 {p : Program} {l : Launch} {e : Env} {s : State} {m : MethodId} {args : Array Value} {below : List Frame} {meth : Method} {c : Code} {N0 : Nat} {D : va_G} {cs : Nat → ClassId} (M : ZC p s m args meth c "YearBasketsModel" "need" b_M_need 11 (some .int) N0 D cs) (this : Nat) (k76 : Int32 → Int32 → Int32 → Int32 → Int32 → Int32 → Int32 → Int32 → Hp → Option ((Int32 × Hp))) {r0 : Int32} {h0 : Hp} (hk76 : ∀ (x1 : Int32) (x2 : Int32) (x3 : Int32) (x4 : Int32) (x5 : Int32) (x6 : Int32) (x7 : Int32) (x8 : Int32) (h : Hp), k76 x1 x2 x3 x4 x5 x6 x7 x8 h = some (r0, h0) → ZG p l e (zrm 5 0 0) s m args below meth c N0 D cs (some (.int r0)) h0 h 11 [(0, .ref this), (1, .int x1), (2, .int x2), (3, .int x3), (4, .int x4), (5, .int x5), (6, .int x6), (7, .int x7), (8, .int x8)] 76 []) (x1 : Int32) (x2 : Int32) (x3 : Int32) (x4 : Int32) (x5 : Int32) (x6 : Int32) (x7 : Int32) (x8 : Int32) (h : Hp) (hf : f_M_need_181 this k76 x1 x2 x3 x4 x5 x6 x7 x8 h = some (r0, h0)) : ZG p l e (zrm 5 0 0) s m args below meth c N0 D cs (some (.int r0)) h0 h 11 [(0, .ref this), (1, .int x1), (2, .int x2), (3, .int x3), (4, .int x4), (5, .int x5), (6, .int x6), (7, .int x7), (8, .int x8)] 181 [] := by
  intro H locs ls hH hS hl
  unfold f_M_need_181 at hf
  refine lv_iinc (v := (x8 + (1 : Int32))) (lv' := [(8, .int (x8 + (1 : Int32))), (0, .ref this), (1, .int x1), (2, .int x2), (3, .int x3), (4, .int x4), (5, .int x5), (6, .int x6), (7, .int x7)]) M.x M.b d_M_need_181 hl (k := 8) rfl rfl (by decide) rfl (fun ls hl => ?_)
  refine lv_goto (tgt := 76) M.x M.b d_M_need_184 (by decide) ?_
  exact hk76 _ _ _ _ _ _ _ _ _ hf H locs ls hH hS (lv_sub hl [1, 2, 3, 4, 5, 6, 7, 8, 0] rfl)
def f_M_need_173 (this : Nat) (k76 : Int32 → Int32 → Int32 → Int32 → Int32 → Int32 → Int32 → Int32 → Hp → Option ((Int32 × Hp))) (x1 : Int32) (x2 : Int32) (x3 : Int32) (x4 : Int32) (x5 : Int32) (x8 : Int32) (x10 : Int32) (h : Hp) : Option ((Int32 × Hp)) :=
  f_M_need_181 this k76 x1 x2 x3 x4 x5 x8 x10 x8 h
set_option maxRecDepth 100000 in
set_option maxHeartbeats 4000000 in
theorem w_M_need_173 {p : Program} {l : Launch} {e : Env} {s : State} {m : MethodId} {args : Array Value} {below : List Frame} {meth : Method} {c : Code} {N0 : Nat} {D : va_G} {cs : Nat → ClassId} (M : ZC p s m args meth c "YearBasketsModel" "need" b_M_need 11 (some .int) N0 D cs) (this : Nat) (k76 : Int32 → Int32 → Int32 → Int32 → Int32 → Int32 → Int32 → Int32 → Hp → Option ((Int32 × Hp))) {r0 : Int32} {h0 : Hp} (hk76 : ∀ (x1 : Int32) (x2 : Int32) (x3 : Int32) (x4 : Int32) (x5 : Int32) (x6 : Int32) (x7 : Int32) (x8 : Int32) (h : Hp), k76 x1 x2 x3 x4 x5 x6 x7 x8 h = some (r0, h0) → ZG p l e (zrm 5 0 0) s m args below meth c N0 D cs (some (.int r0)) h0 h 11 [(0, .ref this), (1, .int x1), (2, .int x2), (3, .int x3), (4, .int x4), (5, .int x5), (6, .int x6), (7, .int x7), (8, .int x8)] 76 []) (x1 : Int32) (x2 : Int32) (x3 : Int32) (x4 : Int32) (x5 : Int32) (x8 : Int32) (x10 : Int32) (h : Hp) (hf : f_M_need_173 this k76 x1 x2 x3 x4 x5 x8 x10 h = some (r0, h0)) : ZG p l e (zrm 5 0 0) s m args below meth c N0 D cs (some (.int r0)) h0 h 11 [(0, .ref this), (1, .int x1), (2, .int x2), (3, .int x3), (4, .int x4), (5, .int x5), (8, .int x8), (10, .int x10)] 173 [] := by
  intro H locs ls hH hS hl
  unfold f_M_need_173 at hf
  refine lv_iload M.x M.b d_M_need_173 (lv_at hl 6 rfl) ?_
  refine lv_istore (lv' := [(6, .int x8), (0, .ref this), (1, .int x1), (2, .int x2), (3, .int x3), (4, .int x4), (5, .int x5), (8, .int x8), (10, .int x10)]) M.x M.b d_M_need_175 hl (by decide) rfl (fun ls hl => ?_)
  refine lv_iload M.x M.b d_M_need_177 (lv_at hl 8 rfl) ?_
  refine lv_istore (lv' := [(7, .int x10), (6, .int x8), (0, .ref this), (1, .int x1), (2, .int x2), (3, .int x3), (4, .int x4), (5, .int x5), (8, .int x8), (10, .int x10)]) M.x M.b d_M_need_179 hl (by decide) rfl (fun ls hl => ?_)
  exact w_M_need_181 M this k76 hk76 _ _ _ _ _ _ _ _ _ hf H locs ls hH hS (lv_sub hl [2, 3, 4, 5, 6, 7, 1, 0, 8] rfl)
def f_M_need_154 (this : Nat) (k76 : Int32 → Int32 → Int32 → Int32 → Int32 → Int32 → Int32 → Int32 → Hp → Option ((Int32 × Hp))) (s0 : Int32) (x1 : Int32) (x2 : Int32) (x3 : Int32) (x4 : Int32) (x5 : Int32) (x6 : Int32) (x7 : Int32) (x8 : Int32) (h : Hp) : Option ((Int32 × Hp)) :=
  if s0 < 0 then
    f_M_need_181 this k76 x1 x2 x3 x4 x5 x6 x7 x8 h
  else
  if x6 < 0 then
    f_M_need_173 this k76 x1 x2 x3 x4 x5 x8 s0 h
  else
  if x7 ≤ s0 then
    f_M_need_181 this k76 x1 x2 x3 x4 x5 x6 x7 x8 h
  else
  f_M_need_173 this k76 x1 x2 x3 x4 x5 x8 s0 h
set_option maxRecDepth 100000 in
set_option maxHeartbeats 4000000 in
theorem w_M_need_154 {p : Program} {l : Launch} {e : Env} {s : State} {m : MethodId} {args : Array Value} {below : List Frame} {meth : Method} {c : Code} {N0 : Nat} {D : va_G} {cs : Nat → ClassId} (M : ZC p s m args meth c "YearBasketsModel" "need" b_M_need 11 (some .int) N0 D cs) (this : Nat) (k76 : Int32 → Int32 → Int32 → Int32 → Int32 → Int32 → Int32 → Int32 → Hp → Option ((Int32 × Hp))) {r0 : Int32} {h0 : Hp} (hk76 : ∀ (x1 : Int32) (x2 : Int32) (x3 : Int32) (x4 : Int32) (x5 : Int32) (x6 : Int32) (x7 : Int32) (x8 : Int32) (h : Hp), k76 x1 x2 x3 x4 x5 x6 x7 x8 h = some (r0, h0) → ZG p l e (zrm 5 0 0) s m args below meth c N0 D cs (some (.int r0)) h0 h 11 [(0, .ref this), (1, .int x1), (2, .int x2), (3, .int x3), (4, .int x4), (5, .int x5), (6, .int x6), (7, .int x7), (8, .int x8)] 76 []) (s0 : Int32) (x1 : Int32) (x2 : Int32) (x3 : Int32) (x4 : Int32) (x5 : Int32) (x6 : Int32) (x7 : Int32) (x8 : Int32) (h : Hp) (hf : f_M_need_154 this k76 s0 x1 x2 x3 x4 x5 x6 x7 x8 h = some (r0, h0)) : ZG p l e (zrm 5 0 0) s m args below meth c N0 D cs (some (.int r0)) h0 h 11 [(0, .ref this), (1, .int x1), (2, .int x2), (3, .int x3), (4, .int x4), (5, .int x5), (6, .int x6), (7, .int x7), (8, .int x8)] 154 [.int s0] := by
  intro H locs ls hH hS hl
  unfold f_M_need_154 at hf
  refine lv_istore (lv' := [(10, .int s0), (0, .ref this), (1, .int x1), (2, .int x2), (3, .int x3), (4, .int x4), (5, .int x5), (6, .int x6), (7, .int x7), (8, .int x8)]) M.x M.b d_M_need_154 hl (by decide) rfl (fun ls hl => ?_)
  refine lv_iload M.x M.b d_M_need_156 (lv_at hl 0 rfl) ?_
  refine lv_if_lt (tgt := 181) M.x M.b d_M_need_158 (by decide) (fun c3 => ?_) (fun c3 => ?_)
  · replace hf := z_t c3 hf
    exact w_M_need_181 M this k76 hk76 _ _ _ _ _ _ _ _ _ hf H locs ls hH hS (lv_sub hl [1, 2, 3, 4, 5, 6, 7, 8, 9] rfl)
  · replace hf := z_f c3 hf
    refine lv_iload M.x M.b d_M_need_161 (lv_at hl 7 rfl) ?_
    refine lv_if_lt (tgt := 173) M.x M.b d_M_need_163 (by decide) (fun c2 => ?_) (fun c2 => ?_)
    · replace hf := z_t c2 hf
      exact w_M_need_173 M this k76 hk76 _ _ _ _ _ _ _ _ hf H locs ls hH hS (lv_sub hl [1, 2, 3, 4, 5, 6, 9, 0] rfl)
    · replace hf := z_f c2 hf
      refine lv_iload M.x M.b d_M_need_166 (lv_at hl 0 rfl) ?_
      refine lv_iload M.x M.b d_M_need_168 (lv_at hl 8 rfl) ?_
      refine lv_icmp_ge (tgt := 181) M.x M.b d_M_need_170 (by decide) (fun c1 => ?_) (fun c1 => ?_)
      · replace hf := z_t c1 hf
        exact w_M_need_181 M this k76 hk76 _ _ _ _ _ _ _ _ _ hf H locs ls hH hS (lv_sub hl [1, 2, 3, 4, 5, 6, 7, 8, 9] rfl)
      · replace hf := z_f c1 hf
        exact w_M_need_173 M this k76 hk76 _ _ _ _ _ _ _ _ hf H locs ls hH hS (lv_sub hl [1, 2, 3, 4, 5, 6, 9, 0] rfl)
def f_M_need_127 (this : Nat) (k76 : Int32 → Int32 → Int32 → Int32 → Int32 → Int32 → Int32 → Int32 → Hp → Option ((Int32 × Hp))) (k89 : Int32 → Int32 → Int32 → Int32 → Int32 → Int32 → Int32 → Int32 → Int32 → Int32 → Hp → Option ((Int32 × Hp))) (s0 : Int32) (x1 : Int32) (x2 : Int32) (x3 : Int32) (x4 : Int32) (x5 : Int32) (x6 : Int32) (x7 : Int32) (x8 : Int32) (x10 : Int32) (h : Hp) : Option ((Int32 × Hp)) :=
  k89 x1 x2 x3 x4 x5 x6 x7 x8 s0 (x10 + (1 : Int32)) h
set_option maxRecDepth 100000 in
set_option maxHeartbeats 4000000 in
theorem w_M_need_127 {p : Program} {l : Launch} {e : Env} {s : State} {m : MethodId} {args : Array Value} {below : List Frame} {meth : Method} {c : Code} {N0 : Nat} {D : va_G} {cs : Nat → ClassId} (M : ZC p s m args meth c "YearBasketsModel" "need" b_M_need 11 (some .int) N0 D cs) (this : Nat) (k76 : Int32 → Int32 → Int32 → Int32 → Int32 → Int32 → Int32 → Int32 → Hp → Option ((Int32 × Hp))) (k89 : Int32 → Int32 → Int32 → Int32 → Int32 → Int32 → Int32 → Int32 → Int32 → Int32 → Hp → Option ((Int32 × Hp))) {r0 : Int32} {h0 : Hp} (hk76 : ∀ (x1 : Int32) (x2 : Int32) (x3 : Int32) (x4 : Int32) (x5 : Int32) (x6 : Int32) (x7 : Int32) (x8 : Int32) (h : Hp), k76 x1 x2 x3 x4 x5 x6 x7 x8 h = some (r0, h0) → ZG p l e (zrm 5 0 0) s m args below meth c N0 D cs (some (.int r0)) h0 h 11 [(0, .ref this), (1, .int x1), (2, .int x2), (3, .int x3), (4, .int x4), (5, .int x5), (6, .int x6), (7, .int x7), (8, .int x8)] 76 []) (hk89 : ∀ (x1 : Int32) (x2 : Int32) (x3 : Int32) (x4 : Int32) (x5 : Int32) (x6 : Int32) (x7 : Int32) (x8 : Int32) (x9 : Int32) (x10 : Int32) (h : Hp), k89 x1 x2 x3 x4 x5 x6 x7 x8 x9 x10 h = some (r0, h0) → ZG p l e (zrm 5 0 0) s m args below meth c N0 D cs (some (.int r0)) h0 h 11 [(0, .ref this), (1, .int x1), (2, .int x2), (3, .int x3), (4, .int x4), (5, .int x5), (6, .int x6), (7, .int x7), (8, .int x8), (9, .int x9), (10, .int x10)] 89 []) (s0 : Int32) (x1 : Int32) (x2 : Int32) (x3 : Int32) (x4 : Int32) (x5 : Int32) (x6 : Int32) (x7 : Int32) (x8 : Int32) (x10 : Int32) (h : Hp) (hf : f_M_need_127 this k76 k89 s0 x1 x2 x3 x4 x5 x6 x7 x8 x10 h = some (r0, h0)) : ZG p l e (zrm 5 0 0) s m args below meth c N0 D cs (some (.int r0)) h0 h 11 [(0, .ref this), (1, .int x1), (2, .int x2), (3, .int x3), (4, .int x4), (5, .int x5), (6, .int x6), (7, .int x7), (8, .int x8), (10, .int x10)] 127 [.int s0] := by
  intro H locs ls hH hS hl
  unfold f_M_need_127 at hf
  refine lv_istore (lv' := [(9, .int s0), (0, .ref this), (1, .int x1), (2, .int x2), (3, .int x3), (4, .int x4), (5, .int x5), (6, .int x6), (7, .int x7), (8, .int x8), (10, .int x10)]) M.x M.b d_M_need_127 hl (by decide) rfl (fun ls hl => ?_)
  refine lv_iinc (v := (x10 + (1 : Int32))) (lv' := [(10, .int (x10 + (1 : Int32))), (9, .int s0), (0, .ref this), (1, .int x1), (2, .int x2), (3, .int x3), (4, .int x4), (5, .int x5), (6, .int x6), (7, .int x7), (8, .int x8)]) M.x M.b d_M_need_129 hl (k := 10) rfl rfl (by decide) rfl (fun ls hl => ?_)
  refine lv_goto (tgt := 89) M.x M.b d_M_need_132 (by decide) ?_
  exact hk89 _ _ _ _ _ _ _ _ _ _ _ hf H locs ls hH hS (lv_sub hl [2, 3, 4, 5, 6, 7, 8, 9, 10, 1, 0] rfl)
def f_M_need_122 (this : Nat) (k76 : Int32 → Int32 → Int32 → Int32 → Int32 → Int32 → Int32 → Int32 → Hp → Option ((Int32 × Hp))) (k89 : Int32 → Int32 → Int32 → Int32 → Int32 → Int32 → Int32 → Int32 → Int32 → Int32 → Hp → Option ((Int32 × Hp))) (x1 : Int32) (x2 : Int32) (x3 : Int32) (x4 : Int32) (x5 : Int32) (x6 : Int32) (x7 : Int32) (x8 : Int32) (x10 : Int32) (h : Hp) : Option ((Int32 × Hp)) :=
  f_M_need_127 this k76 k89 (1 : Int32) x1 x2 x3 x4 x5 x6 x7 x8 x10 h
set_option maxRecDepth 100000 in
set_option maxHeartbeats 4000000 in
theorem w_M_need_122 {p : Program} {l : Launch} {e : Env} {s : State} {m : MethodId} {args : Array Value} {below : List Frame} {meth : Method} {c : Code} {N0 : Nat} {D : va_G} {cs : Nat → ClassId} (M : ZC p s m args meth c "YearBasketsModel" "need" b_M_need 11 (some .int) N0 D cs) (this : Nat) (k76 : Int32 → Int32 → Int32 → Int32 → Int32 → Int32 → Int32 → Int32 → Hp → Option ((Int32 × Hp))) (k89 : Int32 → Int32 → Int32 → Int32 → Int32 → Int32 → Int32 → Int32 → Int32 → Int32 → Hp → Option ((Int32 × Hp))) {r0 : Int32} {h0 : Hp} (hk76 : ∀ (x1 : Int32) (x2 : Int32) (x3 : Int32) (x4 : Int32) (x5 : Int32) (x6 : Int32) (x7 : Int32) (x8 : Int32) (h : Hp), k76 x1 x2 x3 x4 x5 x6 x7 x8 h = some (r0, h0) → ZG p l e (zrm 5 0 0) s m args below meth c N0 D cs (some (.int r0)) h0 h 11 [(0, .ref this), (1, .int x1), (2, .int x2), (3, .int x3), (4, .int x4), (5, .int x5), (6, .int x6), (7, .int x7), (8, .int x8)] 76 []) (hk89 : ∀ (x1 : Int32) (x2 : Int32) (x3 : Int32) (x4 : Int32) (x5 : Int32) (x6 : Int32) (x7 : Int32) (x8 : Int32) (x9 : Int32) (x10 : Int32) (h : Hp), k89 x1 x2 x3 x4 x5 x6 x7 x8 x9 x10 h = some (r0, h0) → ZG p l e (zrm 5 0 0) s m args below meth c N0 D cs (some (.int r0)) h0 h 11 [(0, .ref this), (1, .int x1), (2, .int x2), (3, .int x3), (4, .int x4), (5, .int x5), (6, .int x6), (7, .int x7), (8, .int x8), (9, .int x9), (10, .int x10)] 89 []) (x1 : Int32) (x2 : Int32) (x3 : Int32) (x4 : Int32) (x5 : Int32) (x6 : Int32) (x7 : Int32) (x8 : Int32) (x10 : Int32) (h : Hp) (hf : f_M_need_122 this k76 k89 x1 x2 x3 x4 x5 x6 x7 x8 x10 h = some (r0, h0)) : ZG p l e (zrm 5 0 0) s m args below meth c N0 D cs (some (.int r0)) h0 h 11 [(0, .ref this), (1, .int x1), (2, .int x2), (3, .int x3), (4, .int x4), (5, .int x5), (6, .int x6), (7, .int x7), (8, .int x8), (10, .int x10)] 122 [] := by
  intro H locs ls hH hS hl
  unfold f_M_need_122 at hf
  refine lv_iconst (v := (1 : Int32)) M.x M.b d_M_need_122 rfl ?_
  refine lv_goto (tgt := 127) M.x M.b d_M_need_123 (by decide) ?_
  exact w_M_need_127 M this k76 k89 hk76 hk89 _ _ _ _ _ _ _ _ _ _ _ hf H locs ls hH hS (lv_sub hl [0, 1, 2, 3, 4, 5, 6, 7, 8, 9] rfl)
def t_M_need_89 (this : Nat) (k76 : Int32 → Int32 → Int32 → Int32 → Int32 → Int32 → Int32 → Int32 → Hp → Option ((Int32 × Hp))) (k89 : Int32 → Int32 → Int32 → Int32 → Int32 → Int32 → Int32 → Int32 → Int32 → Int32 → Hp → Option ((Int32 × Hp))) (x1 : Int32) (x2 : Int32) (x3 : Int32) (x4 : Int32) (x5 : Int32) (x6 : Int32) (x7 : Int32) (x8 : Int32) (x9 : Int32) (x10 : Int32) (h : Hp) : Option ((Int32 × Hp)) :=
  if (8 : Int32) < x10 then
    if x9 = 0 then
      f_M_need_154 this k76 (-1 : Int32) x1 x2 x3 x4 x5 x6 x7 x8 h
    else
    (f_M_costOf this h x1 x3 x8 (31 : Int32)).bind fun i5 =>
    f_M_need_154 this k76 i5 x1 x2 x3 x4 x5 x6 x7 x8 h
  else
  if x9 = 0 then
    (gA h this 8 37).bind fun r7 =>
    (r7).bind fun a9 =>
    (aI h 2 a9 ((((100 : Int32) * x10) + ((10 : Int32) * x8)) + x2)).bind fun i12 =>
    if i12 = 0 then
      f_M_need_127 this k76 k89 (0 : Int32) x1 x2 x3 x4 x5 x6 x7 x8 x10 h
    else
    f_M_need_122 this k76 k89 x1 x2 x3 x4 x5 x6 x7 x8 x10 h
  else
  f_M_need_122 this k76 k89 x1 x2 x3 x4 x5 x6 x7 x8 x10 h
set_option maxRecDepth 100000 in
set_option maxHeartbeats 4000000 in
theorem v_M_need_89 {p : Program} {l : Launch} {e : Env} {s : State} {m : MethodId} {args : Array Value} {below : List Frame} {meth : Method} {c : Code} {N0 : Nat} {D : va_G} {cs : Nat → ClassId} (M : ZC p s m args meth c "YearBasketsModel" "need" b_M_need 11 (some .int) N0 D cs) (this : Nat) (k76 : Int32 → Int32 → Int32 → Int32 → Int32 → Int32 → Int32 → Int32 → Hp → Option ((Int32 × Hp))) (k89 : Int32 → Int32 → Int32 → Int32 → Int32 → Int32 → Int32 → Int32 → Int32 → Int32 → Hp → Option ((Int32 × Hp))) {r0 : Int32} {h0 : Hp} (hk76 : ∀ (x1 : Int32) (x2 : Int32) (x3 : Int32) (x4 : Int32) (x5 : Int32) (x6 : Int32) (x7 : Int32) (x8 : Int32) (h : Hp), k76 x1 x2 x3 x4 x5 x6 x7 x8 h = some (r0, h0) → ZG p l e (zrm 5 0 0) s m args below meth c N0 D cs (some (.int r0)) h0 h 11 [(0, .ref this), (1, .int x1), (2, .int x2), (3, .int x3), (4, .int x4), (5, .int x5), (6, .int x6), (7, .int x7), (8, .int x8)] 76 []) (hk89 : ∀ (x1 : Int32) (x2 : Int32) (x3 : Int32) (x4 : Int32) (x5 : Int32) (x6 : Int32) (x7 : Int32) (x8 : Int32) (x9 : Int32) (x10 : Int32) (h : Hp), k89 x1 x2 x3 x4 x5 x6 x7 x8 x9 x10 h = some (r0, h0) → ZG p l e (zrm 5 0 0) s m args below meth c N0 D cs (some (.int r0)) h0 h 11 [(0, .ref this), (1, .int x1), (2, .int x2), (3, .int x3), (4, .int x4), (5, .int x5), (6, .int x6), (7, .int x7), (8, .int x8), (9, .int x9), (10, .int x10)] 89 []) (x1 : Int32) (x2 : Int32) (x3 : Int32) (x4 : Int32) (x5 : Int32) (x6 : Int32) (x7 : Int32) (x8 : Int32) (x9 : Int32) (x10 : Int32) (h : Hp) (hf : t_M_need_89 this k76 k89 x1 x2 x3 x4 x5 x6 x7 x8 x9 x10 h = some (r0, h0)) : ZG p l e (zrm 5 0 0) s m args below meth c N0 D cs (some (.int r0)) h0 h 11 [(0, .ref this), (1, .int x1), (2, .int x2), (3, .int x3), (4, .int x4), (5, .int x5), (6, .int x6), (7, .int x7), (8, .int x8), (9, .int x9), (10, .int x10)] 89 [] := by
  intro H locs ls hH hS hl
  unfold t_M_need_89 at hf
  refine lv_iload M.x M.b d_M_need_89 (lv_at hl 10 rfl) ?_
  refine lv_bipush (v := (8 : Int32)) M.x M.b d_M_need_91 rfl ?_
  refine lv_icmp_gt (tgt := 135) M.x M.b d_M_need_93 (by decide) (fun c15 => ?_) (fun c15 => ?_)
  · replace hf := z_t c15 hf
    refine lv_iload M.x M.b d_M_need_135 (lv_at hl 9 rfl) ?_
    refine lv_if_eq (tgt := 153) M.x M.b d_M_need_137 (by decide) (fun c6 => ?_) (fun c6 => ?_)
    · replace hf := z_t c6 hf
      refine lv_iconst (v := (-1 : Int32)) M.x M.b d_M_need_153 rfl ?_
      exact w_M_need_154 M this k76 hk76 _ _ _ _ _ _ _ _ _ _ hf H locs ls hH hS (lv_sub hl [0, 1, 2, 3, 4, 5, 6, 7, 8] rfl)
    · replace hf := z_f c6 hf
      refine lv_aload_n M.x M.b d_M_need_140 rfl (lv_at hl 0 rfl) ?_
      refine lv_iload_n M.x M.b d_M_need_141 rfl (lv_at hl 1 rfl) ?_
      refine lv_iload_n M.x M.b d_M_need_142 rfl (lv_at hl 3 rfl) ?_
      refine lv_iload M.x M.b d_M_need_143 (lv_at hl 8 rfl) ?_
      refine lv_bipush (v := (31 : Int32)) M.x M.b d_M_need_145 rfl ?_
      replace hf := z_bind hf; obtain ⟨i5, e4, hf⟩ := hf
      refine zk_V (ci := 8) (st1 := [.int i5]) M hH hS (c_M_costOf e4) rfl (o_M_costOf e4) w_M_costOf q_581 [] rfl ⟨Nat.le_of_ble_eq_true rfl, Nat.le_of_ble_eq_true rfl⟩ hl.1 rfl rfl (Nat.le_of_ble_eq_true rfl) d_M_need_147 (fun H locs hH hS => ?_)
      refine lv_goto (tgt := 154) M.x M.b d_M_need_150 (by decide) ?_
      exact w_M_need_154 M this k76 hk76 _ _ _ _ _ _ _ _ _ _ hf H locs ls hH hS (lv_sub hl [0, 1, 2, 3, 4, 5, 6, 7, 8] rfl)
  · replace hf := z_f c15 hf
    refine lv_iload M.x M.b d_M_need_96 (lv_at hl 9 rfl) ?_
    refine lv_if_ne (tgt := 122) M.x M.b d_M_need_98 (by decide) (fun c14 => ?_) (fun c14 => ?_)
    · replace hf := z_f c14 hf
      exact w_M_need_122 M this k76 k89 hk76 hk89 _ _ _ _ _ _ _ _ _ _ hf H locs ls hH hS (lv_sub hl [0, 1, 2, 3, 4, 5, 6, 7, 8, 10] rfl)
    · replace hf := z_t c14 hf
      refine lv_aload_n M.x M.b d_M_need_101 rfl (lv_at hl 0 rfl) ?_
      replace hf := z_bind hf; obtain ⟨r7, e8, hf⟩ := hf
      refine z_get (ci := 8) (k := 37) M hH rfl (by decide) zinM q_852 (gA_spec e8) d_M_need_102 ?_
      refine lv_bipush (v := (100 : Int32)) M.x M.b d_M_need_105 rfl ?_
      refine lv_iload M.x M.b d_M_need_107 (lv_at hl 10 rfl) ?_
      refine lv_imul M.x M.b d_M_need_109 ?_
      refine lv_bipush (v := (10 : Int32)) M.x M.b d_M_need_110 rfl ?_
      refine lv_iload M.x M.b d_M_need_112 (lv_at hl 8 rfl) ?_
      refine lv_imul M.x M.b d_M_need_114 ?_
      refine lv_iadd M.x M.b d_M_need_115 ?_
      refine lv_iload_n M.x M.b d_M_need_116 rfl (lv_at hl 2 rfl) ?_
      refine lv_iadd M.x M.b d_M_need_117 ?_
      rcases r7 with _ | a9
      · exact absurd hf z_nb0
      replace hf := z_sb hf
      replace hf := z_bind hf; obtain ⟨i12, e11, hf⟩ := hf
      refine z_zald M hH e11 d_M_need_118 ?_
      refine lv_if_eq (tgt := 126) M.x M.b d_M_need_119 (by decide) (fun c13 => ?_) (fun c13 => ?_)
      · replace hf := z_t c13 hf
        refine lv_iconst (v := (0 : Int32)) M.x M.b d_M_need_126 rfl ?_
        exact w_M_need_127 M this k76 k89 hk76 hk89 _ _ _ _ _ _ _ _ _ _ _ hf H locs ls hH hS (lv_sub hl [0, 1, 2, 3, 4, 5, 6, 7, 8, 10] rfl)
      · replace hf := z_f c13 hf
        exact w_M_need_122 M this k76 k89 hk76 hk89 _ _ _ _ _ _ _ _ _ _ hf H locs ls hH hS (lv_sub hl [0, 1, 2, 3, 4, 5, 6, 7, 8, 10] rfl)
def f_M_need_89 (this : Nat) (k76 : Int32 → Int32 → Int32 → Int32 → Int32 → Int32 → Int32 → Int32 → Hp → Option ((Int32 × Hp))) : Nat → Int32 → Int32 → Int32 → Int32 → Int32 → Int32 → Int32 → Int32 → Int32 → Int32 → Hp → Option ((Int32 × Hp))
  | 0, _, _, _, _, _, _, _, _, _, _, _ => none
  | n + 1, x1, x2, x3, x4, x5, x6, x7, x8, x9, x10, h => t_M_need_89 this k76 (f_M_need_89 this k76 n) x1 x2 x3 x4 x5 x6 x7 x8 x9 x10 h
theorem w_M_need_89 {p : Program} {l : Launch} {e : Env} {s : State} {m : MethodId} {args : Array Value} {below : List Frame} {meth : Method} {c : Code} {N0 : Nat} {D : va_G} {cs : Nat → ClassId} (M : ZC p s m args meth c "YearBasketsModel" "need" b_M_need 11 (some .int) N0 D cs) (this : Nat) (k76 : Int32 → Int32 → Int32 → Int32 → Int32 → Int32 → Int32 → Int32 → Hp → Option ((Int32 × Hp))) {r0 : Int32} {h0 : Hp} (hk76 : ∀ (x1 : Int32) (x2 : Int32) (x3 : Int32) (x4 : Int32) (x5 : Int32) (x6 : Int32) (x7 : Int32) (x8 : Int32) (h : Hp), k76 x1 x2 x3 x4 x5 x6 x7 x8 h = some (r0, h0) → ZG p l e (zrm 5 0 0) s m args below meth c N0 D cs (some (.int r0)) h0 h 11 [(0, .ref this), (1, .int x1), (2, .int x2), (3, .int x3), (4, .int x4), (5, .int x5), (6, .int x6), (7, .int x7), (8, .int x8)] 76 []) : ∀ (n : Nat) (x1 : Int32) (x2 : Int32) (x3 : Int32) (x4 : Int32) (x5 : Int32) (x6 : Int32) (x7 : Int32) (x8 : Int32) (x9 : Int32) (x10 : Int32) (h : Hp), f_M_need_89 this k76 n x1 x2 x3 x4 x5 x6 x7 x8 x9 x10 h = some (r0, h0) → ZG p l e (zrm 5 0 0) s m args below meth c N0 D cs (some (.int r0)) h0 h 11 [(0, .ref this), (1, .int x1), (2, .int x2), (3, .int x3), (4, .int x4), (5, .int x5), (6, .int x6), (7, .int x7), (8, .int x8), (9, .int x9), (10, .int x10)] 89 [] := by
  intro n
  induction n with
  | zero => intro x1 x2 x3 x4 x5 x6 x7 x8 x9 x10 h hf; exact absurd (show none = some _ from hf) (fun q => by cases q)
  | succ n ih => intro x1 x2 x3 x4 x5 x6 x7 x8 x9 x10 h hf; exact v_M_need_89 M this k76 (f_M_need_89 this k76 n) hk76 ih _ _ _ _ _ _ _ _ _ _ _ hf
def t_M_need_76 (this : Nat) (k76 : Int32 → Int32 → Int32 → Int32 → Int32 → Int32 → Int32 → Int32 → Hp → Option ((Int32 × Hp))) (x1 : Int32) (x2 : Int32) (x3 : Int32) (x4 : Int32) (x5 : Int32) (x6 : Int32) (x7 : Int32) (x8 : Int32) (h : Hp) : Option ((Int32 × Hp)) :=
  if (8 : Int32) ≤ x8 then
    if 0 ≤ x6 then
      (f_M_gcd (x7).toInt64 (x5).toInt64).bind fun l17 =>
      if x4 = 0 then
        if (l17).toInt32 = 0 then none else
        some ((x7 / (l17).toInt32), h)
      else
      if x4 = (1 : Int32) then
        if (l17).toInt32 = 0 then none else
        some ((x5 / (l17).toInt32), h)
      else
      some (x6, h)
    else
    some ((-1003 : Int32), h)
  else
  f_M_need_89 this k76 FU x1 x2 x3 x4 x5 x6 x7 x8 (0 : Int32) (0 : Int32) h
set_option maxRecDepth 100000 in
set_option maxHeartbeats 4000000 in
theorem v_M_need_76 {p : Program} {l : Launch} {e : Env} {s : State} {m : MethodId} {args : Array Value} {below : List Frame} {meth : Method} {c : Code} {N0 : Nat} {D : va_G} {cs : Nat → ClassId} (M : ZC p s m args meth c "YearBasketsModel" "need" b_M_need 11 (some .int) N0 D cs) (this : Nat) (k76 : Int32 → Int32 → Int32 → Int32 → Int32 → Int32 → Int32 → Int32 → Hp → Option ((Int32 × Hp))) {r0 : Int32} {h0 : Hp} (hk76 : ∀ (x1 : Int32) (x2 : Int32) (x3 : Int32) (x4 : Int32) (x5 : Int32) (x6 : Int32) (x7 : Int32) (x8 : Int32) (h : Hp), k76 x1 x2 x3 x4 x5 x6 x7 x8 h = some (r0, h0) → ZG p l e (zrm 5 0 0) s m args below meth c N0 D cs (some (.int r0)) h0 h 11 [(0, .ref this), (1, .int x1), (2, .int x2), (3, .int x3), (4, .int x4), (5, .int x5), (6, .int x6), (7, .int x7), (8, .int x8)] 76 []) (x1 : Int32) (x2 : Int32) (x3 : Int32) (x4 : Int32) (x5 : Int32) (x6 : Int32) (x7 : Int32) (x8 : Int32) (h : Hp) (hf : t_M_need_76 this k76 x1 x2 x3 x4 x5 x6 x7 x8 h = some (r0, h0)) : ZG p l e (zrm 5 0 0) s m args below meth c N0 D cs (some (.int r0)) h0 h 11 [(0, .ref this), (1, .int x1), (2, .int x2), (3, .int x3), (4, .int x4), (5, .int x5), (6, .int x6), (7, .int x7), (8, .int x8)] 76 [] := by
  intro H locs ls hH hS hl
  unfold t_M_need_76 at hf
  refine lv_iload M.x M.b d_M_need_76 (lv_at hl 8 rfl) ?_
  refine lv_bipush (v := (8 : Int32)) M.x M.b d_M_need_78 rfl ?_
  refine lv_icmp_ge (tgt := 187) M.x M.b d_M_need_80 (by decide) (fun c23 => ?_) (fun c23 => ?_)
  · replace hf := z_t c23 hf
    refine lv_iload M.x M.b d_M_need_187 (lv_at hl 6 rfl) ?_
    refine lv_if_ge (tgt := 196) M.x M.b d_M_need_189 (by decide) (fun c22 => ?_) (fun c22 => ?_)
    · replace hf := z_t c22 hf
      refine lv_iload M.x M.b d_M_need_196 (lv_at hl 7 rfl) ?_
      refine lv_i2l M.x M.b d_M_need_198 rfl ?_
      refine lv_iload M.x M.b d_M_need_199 (lv_at hl 5 rfl) ?_
      refine lv_i2l M.x M.b d_M_need_201 rfl ?_
      replace hf := z_bind hf; obtain ⟨l17, e16, hf⟩ := hf
      refine zk_S (st1 := [.long l17]) M hH hS (c_M_gcd e16) w_M_gcd q_670 [] rfl ⟨Nat.le_of_ble_eq_true rfl, Nat.le_of_ble_eq_true rfl⟩ hl.1 rfl rfl (Nat.le_of_ble_eq_true rfl) d_M_need_202 (fun H locs hH hS => ?_)
      refine lv_l2i M.x M.b d_M_need_205 rfl ?_
      refine lv_istore (lv' := [(8, .int (l17).toInt32), (0, .ref this), (1, .int x1), (2, .int x2), (3, .int x3), (4, .int x4), (5, .int x5), (6, .int x6), (7, .int x7)]) M.x M.b d_M_need_206 hl (by decide) rfl (fun ls hl => ?_)
      refine lv_iload M.x M.b d_M_need_208 (lv_at hl 5 rfl) ?_
      refine lv_if_ne (tgt := 221) M.x M.b d_M_need_210 (by decide) (fun c21 => ?_) (fun c21 => ?_)
      · replace hf := z_f c21 hf
        refine lv_iload M.x M.b d_M_need_221 (lv_at hl 5 rfl) ?_
        refine lv_iconst (v := (1 : Int32)) M.x M.b d_M_need_223 rfl ?_
        refine lv_icmp_ne (tgt := 235) M.x M.b d_M_need_224 (by decide) (fun c19 => ?_) (fun c19 => ?_)
        · replace hf := z_f c19 hf
          refine lv_iload M.x M.b d_M_need_235 (lv_at hl 7 rfl) ?_
          obtain ⟨rfl, rfl⟩ := z_r2 hf
          exact z_iret M hH hS d_M_need_237
        · replace hf := z_t c19 hf
          refine lv_iload M.x M.b d_M_need_227 (lv_at hl 6 rfl) ?_
          refine lv_iload M.x M.b d_M_need_229 (lv_at hl 0 rfl) ?_
          replace hf := z_gn hf; obtain ⟨c18, hf⟩ := hf
          refine lv_idiv M.x M.b d_M_need_231 c18 ?_
          refine lv_goto (tgt := 237) M.x M.b d_M_need_232 (by decide) ?_
          obtain ⟨rfl, rfl⟩ := z_r2 hf
          exact z_iret M hH hS d_M_need_237
      · replace hf := z_t c21 hf
        refine lv_iload M.x M.b d_M_need_213 (lv_at hl 8 rfl) ?_
        refine lv_iload M.x M.b d_M_need_215 (lv_at hl 0 rfl) ?_
        replace hf := z_gn hf; obtain ⟨c20, hf⟩ := hf
        refine lv_idiv M.x M.b d_M_need_217 c20 ?_
        refine lv_goto (tgt := 237) M.x M.b d_M_need_218 (by decide) ?_
        obtain ⟨rfl, rfl⟩ := z_r2 hf
        exact z_iret M hH hS d_M_need_237
    · replace hf := z_f c22 hf
      refine lv_sipush (v := (-1003 : Int32)) M.x M.b d_M_need_192 rfl ?_
      obtain ⟨rfl, rfl⟩ := z_r2 hf
      exact z_iret M hH hS d_M_need_195
  · replace hf := z_f c23 hf
    refine lv_iconst (v := (0 : Int32)) M.x M.b d_M_need_83 rfl ?_
    refine lv_istore (lv' := [(9, .int (0 : Int32)), (0, .ref this), (1, .int x1), (2, .int x2), (3, .int x3), (4, .int x4), (5, .int x5), (6, .int x6), (7, .int x7), (8, .int x8)]) M.x M.b d_M_need_84 hl (by decide) rfl (fun ls hl => ?_)
    refine lv_iconst (v := (0 : Int32)) M.x M.b d_M_need_86 rfl ?_
    refine lv_istore (lv' := [(10, .int (0 : Int32)), (9, .int (0 : Int32)), (0, .ref this), (1, .int x1), (2, .int x2), (3, .int x3), (4, .int x4), (5, .int x5), (6, .int x6), (7, .int x7), (8, .int x8)]) M.x M.b d_M_need_87 hl (by decide) rfl (fun ls hl => ?_)
    exact w_M_need_89 M this k76 hk76 FU _ _ _ _ _ _ _ _ _ _ _ hf H locs ls hH hS (lv_sub hl [2, 3, 4, 5, 6, 7, 8, 9, 10, 1, 0] rfl)
def f_M_need_76 (this : Nat) : Nat → Int32 → Int32 → Int32 → Int32 → Int32 → Int32 → Int32 → Int32 → Hp → Option ((Int32 × Hp))
  | 0, _, _, _, _, _, _, _, _, _ => none
  | n + 1, x1, x2, x3, x4, x5, x6, x7, x8, h => t_M_need_76 this (f_M_need_76 this n) x1 x2 x3 x4 x5 x6 x7 x8 h
theorem w_M_need_76 {p : Program} {l : Launch} {e : Env} {s : State} {m : MethodId} {args : Array Value} {below : List Frame} {meth : Method} {c : Code} {N0 : Nat} {D : va_G} {cs : Nat → ClassId} (M : ZC p s m args meth c "YearBasketsModel" "need" b_M_need 11 (some .int) N0 D cs) (this : Nat)  {r0 : Int32} {h0 : Hp}  : ∀ (n : Nat) (x1 : Int32) (x2 : Int32) (x3 : Int32) (x4 : Int32) (x5 : Int32) (x6 : Int32) (x7 : Int32) (x8 : Int32) (h : Hp), f_M_need_76 this n x1 x2 x3 x4 x5 x6 x7 x8 h = some (r0, h0) → ZG p l e (zrm 5 0 0) s m args below meth c N0 D cs (some (.int r0)) h0 h 11 [(0, .ref this), (1, .int x1), (2, .int x2), (3, .int x3), (4, .int x4), (5, .int x5), (6, .int x6), (7, .int x7), (8, .int x8)] 76 [] := by
  intro n
  induction n with
  | zero => intro x1 x2 x3 x4 x5 x6 x7 x8 h hf; exact absurd (show none = some _ from hf) (fun q => by cases q)
  | succ n ih => intro x1 x2 x3 x4 x5 x6 x7 x8 h hf; exact v_M_need_76 M this (f_M_need_76 this n)  ih _ _ _ _ _ _ _ _ _ hf
def f_M_need (this : Nat) (x1 : Int32) (x2 : Int32) (x3 : Int32) (x4 : Int32) (h : Hp) : Option ((Int32 × Hp)) :=
  if isO h this 8 = true then
  (f_M_isWho x1).bind fun i25 =>
  if i25 = 0 then
    some ((-1001 : Int32), h)
  else
  (f_M_isYear x2).bind fun i27 =>
  if i27 = 0 then
    some ((-1001 : Int32), h)
  else
  (f_M_isYear x3).bind fun i29 =>
  if i29 = 0 then
    some ((-1001 : Int32), h)
  else
  (f_M_in (x4).toInt64 (0 : Int64) (2 : Int64)).bind fun i31 =>
  if i31 = 0 then
    some ((-1002 : Int32), h)
  else
  (f_M_costOf this h x1 x2 x2 (31 : Int32)).bind fun i33 =>
  if 0 < i33 then
    (f_M_findWalks this x1 h).bind fun h35 =>
    f_M_need_76 this FU x1 x2 x3 x4 i33 (-1 : Int32) (0 : Int32) (0 : Int32) h35
  else
  some ((-1003 : Int32), h)
  else none
theorem o_M_need {this : Nat} {x1 : Int32} {x2 : Int32} {x3 : Int32} {x4 : Int32} {h : Hp} {r0 : Int32} {h0 : Hp} (hf : f_M_need this x1 x2 x3 x4 h = some (r0, h0)) : isO h this 8 = true := by
  unfold f_M_need at hf
  exact (z_gd hf).1
set_option maxRecDepth 100000 in
set_option maxHeartbeats 4000000 in
theorem c_M_need {l : Launch} {N0 : Nat} {D : va_G} {cs : Nat → ClassId} {this : Nat} {x1 : Int32} {x2 : Int32} {x3 : Int32} {x4 : Int32} {h : Hp} {r0 : Int32} {h0 : Hp} (hf : f_M_need this x1 x2 x3 x4 h = some (r0, h0)) : Fn l N0 D cs y_M_need b_M_need 11 (some .int) 5 0 0 [.ref this, .int x1, .int x2, .int x3, .int x4] h (some (.int r0)) h0 := by
  refine z_start (by decide) (Nat.le_of_ble_eq_true rfl) ?_
  intro p e s m args below meth c M hH hS ls hl
  unfold f_M_need at hf
  obtain ⟨hO, hf⟩ := z_gd hf
  have hl : lv_has ls 11 [(0, .ref this), (1, .int x1), (2, .int x2), (3, .int x3), (4, .int x4)] := hl
  obtain ⟨H, hHe⟩ : ∃ H, H = s.heap := ⟨_, rfl⟩
  obtain ⟨locs, hLe⟩ : ∃ locs : List Loc, locs = [] := ⟨_, rfl⟩
  have hS : va_S (zA N0) s.heap H locs := by rw [hHe, hLe]; exact hS
  have hH : HH N0 D cs h H := by rw [hHe]; exact hH
  suffices hg : W p l e (zrm 5 0 0) s m args below meth c H locs 0 0 (MQ below (zQ N0 D cs (some (.int r0)) h0) args s 0 0 (zA N0)) (F0 m 0 ls []) by rw [hHe, hLe] at hg; exact hg
  clear hHe hLe
  refine lv_iload_n M.x M.b d_M_need_0 rfl (lv_at hl 1 rfl) ?_
  replace hf := z_bind hf; obtain ⟨i25, e24, hf⟩ := hf
  refine zk_S (st1 := [.int i25]) M hH hS (c_M_isWho e24) w_M_isWho q_582 [] rfl ⟨Nat.le_of_ble_eq_true rfl, Nat.le_of_ble_eq_true rfl⟩ hl.1 rfl rfl (Nat.le_of_ble_eq_true rfl) d_M_need_1 (fun H locs hH hS => ?_)
  refine lv_if_eq (tgt := 21) M.x M.b d_M_need_4 (by decide) (fun c40 => ?_) (fun c40 => ?_)
  · replace hf := z_t c40 hf
    refine lv_sipush (v := (-1001 : Int32)) M.x M.b d_M_need_21 rfl ?_
    obtain ⟨rfl, rfl⟩ := z_r2 hf
    exact z_iret M hH hS d_M_need_24
  · replace hf := z_f c40 hf
    refine lv_iload_n M.x M.b d_M_need_7 rfl (lv_at hl 2 rfl) ?_
    replace hf := z_bind hf; obtain ⟨i27, e26, hf⟩ := hf
    refine zk_S (st1 := [.int i27]) M hH hS (c_M_isYear e26) w_M_isYear q_564 [] rfl ⟨Nat.le_of_ble_eq_true rfl, Nat.le_of_ble_eq_true rfl⟩ hl.1 rfl rfl (Nat.le_of_ble_eq_true rfl) d_M_need_8 (fun H locs hH hS => ?_)
    refine lv_if_eq (tgt := 21) M.x M.b d_M_need_11 (by decide) (fun c39 => ?_) (fun c39 => ?_)
    · replace hf := z_t c39 hf
      refine lv_sipush (v := (-1001 : Int32)) M.x M.b d_M_need_21 rfl ?_
      obtain ⟨rfl, rfl⟩ := z_r2 hf
      exact z_iret M hH hS d_M_need_24
    · replace hf := z_f c39 hf
      refine lv_iload_n M.x M.b d_M_need_14 rfl (lv_at hl 3 rfl) ?_
      replace hf := z_bind hf; obtain ⟨i29, e28, hf⟩ := hf
      refine zk_S (st1 := [.int i29]) M hH hS (c_M_isYear e28) w_M_isYear q_564 [] rfl ⟨Nat.le_of_ble_eq_true rfl, Nat.le_of_ble_eq_true rfl⟩ hl.1 rfl rfl (Nat.le_of_ble_eq_true rfl) d_M_need_15 (fun H locs hH hS => ?_)
      refine lv_if_ne (tgt := 25) M.x M.b d_M_need_18 (by decide) (fun c38 => ?_) (fun c38 => ?_)
      · replace hf := z_f c38 hf
        refine lv_iload M.x M.b d_M_need_25 (lv_at hl 4 rfl) ?_
        refine lv_i2l M.x M.b d_M_need_27 rfl ?_
        refine lv_lconst (v := (0 : Int64)) M.x M.b d_M_need_28 rfl ?_
        refine z_ldc2 (v := (2 : Int64)) M q_568 d_M_need_29 ?_
        replace hf := z_bind hf; obtain ⟨i31, e30, hf⟩ := hf
        refine zk_S (st1 := [.int i31]) M hH hS (c_M_in e30) w_M_in q_551 [] rfl ⟨Nat.le_of_ble_eq_true rfl, Nat.le_of_ble_eq_true rfl⟩ hl.1 rfl rfl (Nat.le_of_ble_eq_true rfl) d_M_need_32 (fun H locs hH hS => ?_)
        refine lv_if_ne (tgt := 42) M.x M.b d_M_need_35 (by decide) (fun c37 => ?_) (fun c37 => ?_)
        · replace hf := z_f c37 hf
          refine lv_aload_n M.x M.b d_M_need_42 rfl (lv_at hl 0 rfl) ?_
          refine lv_iload_n M.x M.b d_M_need_43 rfl (lv_at hl 1 rfl) ?_
          refine lv_iload_n M.x M.b d_M_need_44 rfl (lv_at hl 2 rfl) ?_
          refine lv_iload_n M.x M.b d_M_need_45 rfl (lv_at hl 2 rfl) ?_
          refine lv_bipush (v := (31 : Int32)) M.x M.b d_M_need_46 rfl ?_
          replace hf := z_bind hf; obtain ⟨i33, e32, hf⟩ := hf
          refine zk_V (ci := 8) (st1 := [.int i33]) M hH hS (c_M_costOf e32) rfl (o_M_costOf e32) w_M_costOf q_581 [] rfl ⟨Nat.le_of_ble_eq_true rfl, Nat.le_of_ble_eq_true rfl⟩ hl.1 rfl rfl (Nat.le_of_ble_eq_true rfl) d_M_need_48 (fun H locs hH hS => ?_)
          refine lv_istore (lv' := [(5, .int i33), (0, .ref this), (1, .int x1), (2, .int x2), (3, .int x3), (4, .int x4)]) M.x M.b d_M_need_51 hl (by decide) rfl (fun ls hl => ?_)
          refine lv_iload M.x M.b d_M_need_53 (lv_at hl 0 rfl) ?_
          refine lv_if_gt (tgt := 62) M.x M.b d_M_need_55 (by decide) (fun c36 => ?_) (fun c36 => ?_)
          · replace hf := z_t c36 hf
            refine lv_aload_n M.x M.b d_M_need_62 rfl (lv_at hl 1 rfl) ?_
            refine lv_iload_n M.x M.b d_M_need_63 rfl (lv_at hl 2 rfl) ?_
            replace hf := z_bind hf; obtain ⟨h35, e34, hf⟩ := hf
            refine zk_V (ci := 8) (st1 := []) M hH hS (c_M_findWalks e34) rfl (o_M_findWalks e34) w_M_findWalks q_858 [] rfl ⟨Nat.le_of_ble_eq_true rfl, Nat.le_of_ble_eq_true rfl⟩ hl.1 rfl rfl (Nat.le_of_ble_eq_true rfl) d_M_need_64 (fun H locs hH hS => ?_)
            refine lv_iconst (v := (-1 : Int32)) M.x M.b d_M_need_67 rfl ?_
            refine lv_istore (lv' := [(6, .int (-1 : Int32)), (5, .int i33), (0, .ref this), (1, .int x1), (2, .int x2), (3, .int x3), (4, .int x4)]) M.x M.b d_M_need_68 hl (by decide) rfl (fun ls hl => ?_)
            refine lv_iconst (v := (0 : Int32)) M.x M.b d_M_need_70 rfl ?_
            refine lv_istore (lv' := [(7, .int (0 : Int32)), (6, .int (-1 : Int32)), (5, .int i33), (0, .ref this), (1, .int x1), (2, .int x2), (3, .int x3), (4, .int x4)]) M.x M.b d_M_need_71 hl (by decide) rfl (fun ls hl => ?_)
            refine lv_iconst (v := (0 : Int32)) M.x M.b d_M_need_73 rfl ?_
            refine lv_istore (lv' := [(8, .int (0 : Int32)), (7, .int (0 : Int32)), (6, .int (-1 : Int32)), (5, .int i33), (0, .ref this), (1, .int x1), (2, .int x2), (3, .int x3), (4, .int x4)]) M.x M.b d_M_need_74 hl (by decide) rfl (fun ls hl => ?_)
            exact w_M_need_76 M this FU _ _ _ _ _ _ _ _ _ hf H locs ls hH hS (lv_sub hl [4, 5, 6, 7, 8, 3, 2, 1, 0] rfl)
          · replace hf := z_f c36 hf
            refine lv_sipush (v := (-1003 : Int32)) M.x M.b d_M_need_58 rfl ?_
            obtain ⟨rfl, rfl⟩ := z_r2 hf
            exact z_iret M hH hS d_M_need_61
        · replace hf := z_t c37 hf
          refine lv_sipush (v := (-1002 : Int32)) M.x M.b d_M_need_38 rfl ?_
          obtain ⟨rfl, rfl⟩ := z_r2 hf
          exact z_iret M hH hS d_M_need_41
      · replace hf := z_t c38 hf
        refine lv_sipush (v := (-1001 : Int32)) M.x M.b d_M_need_21 rfl ?_
        obtain ⟨rfl, rfl⟩ := z_r2 hf
        exact z_iret M hH hS d_M_need_24
def f_M_part_109 (this : Nat) (h : Hp) (x2 : Int32) (x3 : Int32) (x4 : Int32) (x5 : Int32) (x6 : Int32) (x7 : Int32) : Option (Int32) :=
  (gA h this 8 0).bind fun r1 =>
  (r1).bind fun a3 =>
  (aI h 0 a3 (((5 : Int32) * x4) + x2)).bind fun i6 =>
  (gA h this 8 0).bind fun r7 =>
  (r7).bind fun a9 =>
  (aI h 0 a9 (((5 : Int32) * x3) + x2)).bind fun i12 =>
  (f_M_gcd (((i6 - i12) * x7)).toInt64 (x6).toInt64).bind fun l14 =>
  if x5 = 0 then
    if (l14).toInt32 = 0 then none else
    some (((i6 - i12) * x7) / (l14).toInt32)
  else
  if (l14).toInt32 = 0 then none else
  some (x6 / (l14).toInt32)
set_option maxRecDepth 100000 in
set_option maxHeartbeats 4000000 in
theorem w_M_part_109 {p : Program} {l : Launch} {e : Env} {s : State} {m : MethodId} {args : Array Value} {below : List Frame} {meth : Method} {c : Code} {N0 : Nat} {D : va_G} {cs : Nat → ClassId} (M : ZC p s m args meth c "YearBasketsModel" "part" b_M_part 10 (some .int) N0 D cs) (this : Nat) (h : Hp)  {r0 : Int32}  (x2 : Int32) (x3 : Int32) (x4 : Int32) (x5 : Int32) (x6 : Int32) (x7 : Int32) (hf : f_M_part_109 this h x2 x3 x4 x5 x6 x7 = some r0) : ZG p l e (zrm 3 0 0) s m args below meth c N0 D cs (some (.int r0)) h h 10 [(0, .ref this), (2, .int x2), (3, .int x3), (4, .int x4), (5, .int x5), (6, .int x6), (7, .int x7)] 109 [] := by
  intro H locs ls hH hS hl
  unfold f_M_part_109 at hf
  refine lv_aload_n M.x M.b d_M_part_109 rfl (lv_at hl 0 rfl) ?_
  replace hf := z_bind hf; obtain ⟨r1, e2, hf⟩ := hf
  refine z_get (ci := 8) (k := 0) M hH rfl (by decide) zinM q_562 (gA_spec e2) d_M_part_110 ?_
  refine lv_iconst (v := (5 : Int32)) M.x M.b d_M_part_113 rfl ?_
  refine lv_iload M.x M.b d_M_part_114 (lv_at hl 3 rfl) ?_
  refine lv_imul M.x M.b d_M_part_116 ?_
  refine lv_iload_n M.x M.b d_M_part_117 rfl (lv_at hl 1 rfl) ?_
  refine lv_iadd M.x M.b d_M_part_118 ?_
  rcases r1 with _ | a3
  · exact absurd hf z_nb0
  replace hf := z_sb hf
  replace hf := z_bind hf; obtain ⟨i6, e5, hf⟩ := hf
  refine z_iald M hH e5 d_M_part_119 ?_
  refine lv_aload_n M.x M.b d_M_part_120 rfl (lv_at hl 0 rfl) ?_
  replace hf := z_bind hf; obtain ⟨r7, e8, hf⟩ := hf
  refine z_get (ci := 8) (k := 0) M hH rfl (by decide) zinM q_562 (gA_spec e8) d_M_part_121 ?_
  refine lv_iconst (v := (5 : Int32)) M.x M.b d_M_part_124 rfl ?_
  refine lv_iload_n M.x M.b d_M_part_125 rfl (lv_at hl 2 rfl) ?_
  refine lv_imul M.x M.b d_M_part_126 ?_
  refine lv_iload_n M.x M.b d_M_part_127 rfl (lv_at hl 1 rfl) ?_
  refine lv_iadd M.x M.b d_M_part_128 ?_
  rcases r7 with _ | a9
  · exact absurd hf z_nb0
  replace hf := z_sb hf
  replace hf := z_bind hf; obtain ⟨i12, e11, hf⟩ := hf
  refine z_iald M hH e11 d_M_part_129 ?_
  refine lv_isub M.x M.b d_M_part_130 ?_
  refine lv_iload M.x M.b d_M_part_131 (lv_at hl 6 rfl) ?_
  refine lv_imul M.x M.b d_M_part_133 ?_
  refine lv_istore (lv' := [(8, .int ((i6 - i12) * x7)), (0, .ref this), (2, .int x2), (3, .int x3), (4, .int x4), (5, .int x5), (6, .int x6), (7, .int x7)]) M.x M.b d_M_part_134 hl (by decide) rfl (fun ls hl => ?_)
  refine lv_iload M.x M.b d_M_part_136 (lv_at hl 0 rfl) ?_
  refine lv_i2l M.x M.b d_M_part_138 rfl ?_
  refine lv_iload M.x M.b d_M_part_139 (lv_at hl 6 rfl) ?_
  refine lv_i2l M.x M.b d_M_part_141 rfl ?_
  replace hf := z_bind hf; obtain ⟨l14, e13, hf⟩ := hf
  refine zk_S (st1 := [.long l14]) M hH hS (c_M_gcd e13) w_M_gcd q_670 [] rfl ⟨Nat.le_of_ble_eq_true rfl, Nat.le_of_ble_eq_true rfl⟩ hl.1 rfl rfl (Nat.le_of_ble_eq_true rfl) d_M_part_142 (fun H locs hH hS => ?_)
  refine lv_l2i M.x M.b d_M_part_145 rfl ?_
  refine lv_istore (lv' := [(9, .int (l14).toInt32), (8, .int ((i6 - i12) * x7)), (0, .ref this), (2, .int x2), (3, .int x3), (4, .int x4), (5, .int x5), (6, .int x6), (7, .int x7)]) M.x M.b d_M_part_146 hl (by decide) rfl (fun ls hl => ?_)
  refine lv_iload M.x M.b d_M_part_148 (lv_at hl 6 rfl) ?_
  refine lv_if_ne (tgt := 161) M.x M.b d_M_part_150 (by decide) (fun c17 => ?_) (fun c17 => ?_)
  · replace hf := z_f c17 hf
    refine lv_iload M.x M.b d_M_part_161 (lv_at hl 7 rfl) ?_
    refine lv_iload M.x M.b d_M_part_163 (lv_at hl 0 rfl) ?_
    replace hf := z_gn hf; obtain ⟨c15, hf⟩ := hf
    refine lv_idiv M.x M.b d_M_part_165 c15 ?_
    obtain rfl := z_r1 hf
    exact z_iret M hH hS d_M_part_166
  · replace hf := z_t c17 hf
    refine lv_iload M.x M.b d_M_part_153 (lv_at hl 1 rfl) ?_
    refine lv_iload M.x M.b d_M_part_155 (lv_at hl 0 rfl) ?_
    replace hf := z_gn hf; obtain ⟨c16, hf⟩ := hf
    refine lv_idiv M.x M.b d_M_part_157 c16 ?_
    refine lv_goto (tgt := 166) M.x M.b d_M_part_158 (by decide) ?_
    obtain rfl := z_r1 hf
    exact z_iret M hH hS d_M_part_166
def f_M_part (this : Nat) (h : Hp) (x1 : Int32) (x2 : Int32) (x3 : Int32) (x4 : Int32) (x5 : Int32) : Option (Int32) :=
  if isO h this 8 = true then
  (f_M_isWho x1).bind fun i19 =>
  if i19 = 0 then
    some (-1001 : Int32)
  else
  (f_M_isGood x2).bind fun i21 =>
  if i21 = 0 then
    some (-1001 : Int32)
  else
  (f_M_isYear x3).bind fun i23 =>
  if i23 = 0 then
    some (-1001 : Int32)
  else
  (f_M_isYear x4).bind fun i25 =>
  if i25 = 0 then
    some (-1001 : Int32)
  else
  (f_M_in (x5).toInt64 (0 : Int64) (1 : Int64)).bind fun i27 =>
  if i27 = 0 then
    some (-1002 : Int32)
  else
  (f_M_costOf this h x1 x3 x3 (31 : Int32)).bind fun i29 =>
  (f_M_buying this h x1 x3 x2).bind fun i31 =>
  if i29 ≤ 0 then
    some (-1003 : Int32)
  else
  if i31 ≤ 0 then
    f_M_part_109 this h x2 x3 x4 x5 i29 i31
  else
  (gA h this 8 0).bind fun r32 =>
  (r32).bind fun a34 =>
  (aI h 0 a34 (((5 : Int32) * x3) + x2)).bind fun i37 =>
  if i37 = 0 then
    some (-1003 : Int32)
  else
  (gA h this 8 0).bind fun r38 =>
  (r38).bind fun a40 =>
  (aI h 0 a40 (((5 : Int32) * x4) + x2)).bind fun i43 =>
  if i43 = 0 then
    some (-1003 : Int32)
  else
  f_M_part_109 this h x2 x3 x4 x5 i29 i31
  else none
theorem o_M_part {this : Nat} {h : Hp} {x1 : Int32} {x2 : Int32} {x3 : Int32} {x4 : Int32} {x5 : Int32} {r0 : Int32} (hf : f_M_part this h x1 x2 x3 x4 x5 = some r0) : isO h this 8 = true := by
  unfold f_M_part at hf
  exact (z_gd hf).1
set_option maxRecDepth 100000 in
set_option maxHeartbeats 4000000 in
theorem c_M_part {l : Launch} {N0 : Nat} {D : va_G} {cs : Nat → ClassId} {this : Nat} {h : Hp} {x1 : Int32} {x2 : Int32} {x3 : Int32} {x4 : Int32} {x5 : Int32} {r0 : Int32} (hf : f_M_part this h x1 x2 x3 x4 x5 = some r0) : Fn l N0 D cs y_M_part b_M_part 10 (some .int) 3 0 0 [.ref this, .int x1, .int x2, .int x3, .int x4, .int x5] h (some (.int r0)) h := by
  refine z_start (by decide) (Nat.le_of_ble_eq_true rfl) ?_
  intro p e s m args below meth c M hH hS ls hl
  unfold f_M_part at hf
  obtain ⟨hO, hf⟩ := z_gd hf
  have hl : lv_has ls 10 [(0, .ref this), (1, .int x1), (2, .int x2), (3, .int x3), (4, .int x4), (5, .int x5)] := hl
  obtain ⟨H, hHe⟩ : ∃ H, H = s.heap := ⟨_, rfl⟩
  obtain ⟨locs, hLe⟩ : ∃ locs : List Loc, locs = [] := ⟨_, rfl⟩
  have hS : va_S (zA N0) s.heap H locs := by rw [hHe, hLe]; exact hS
  have hH : HH N0 D cs h H := by rw [hHe]; exact hH
  suffices hg : W p l e (zrm 3 0 0) s m args below meth c H locs 0 0 (MQ below (zQ N0 D cs (some (.int r0)) h) args s 0 0 (zA N0)) (F0 m 0 ls []) by rw [hHe, hLe] at hg; exact hg
  clear hHe hLe
  refine lv_iload_n M.x M.b d_M_part_0 rfl (lv_at hl 1 rfl) ?_
  replace hf := z_bind hf; obtain ⟨i19, e18, hf⟩ := hf
  refine zk_S (st1 := [.int i19]) M hH hS (c_M_isWho e18) w_M_isWho q_582 [] rfl ⟨Nat.le_of_ble_eq_true rfl, Nat.le_of_ble_eq_true rfl⟩ hl.1 rfl rfl (Nat.le_of_ble_eq_true rfl) d_M_part_1 (fun H locs hH hS => ?_)
  refine lv_if_eq (tgt := 29) M.x M.b d_M_part_4 (by decide) (fun c52 => ?_) (fun c52 => ?_)
  · replace hf := z_t c52 hf
    refine lv_sipush (v := (-1001 : Int32)) M.x M.b d_M_part_29 rfl ?_
    obtain rfl := z_r1 hf
    exact z_iret M hH hS d_M_part_32
  · replace hf := z_f c52 hf
    refine lv_iload_n M.x M.b d_M_part_7 rfl (lv_at hl 2 rfl) ?_
    replace hf := z_bind hf; obtain ⟨i21, e20, hf⟩ := hf
    refine zk_S (st1 := [.int i21]) M hH hS (c_M_isGood e20) w_M_isGood q_563 [] rfl ⟨Nat.le_of_ble_eq_true rfl, Nat.le_of_ble_eq_true rfl⟩ hl.1 rfl rfl (Nat.le_of_ble_eq_true rfl) d_M_part_8 (fun H locs hH hS => ?_)
    refine lv_if_eq (tgt := 29) M.x M.b d_M_part_11 (by decide) (fun c51 => ?_) (fun c51 => ?_)
    · replace hf := z_t c51 hf
      refine lv_sipush (v := (-1001 : Int32)) M.x M.b d_M_part_29 rfl ?_
      obtain rfl := z_r1 hf
      exact z_iret M hH hS d_M_part_32
    · replace hf := z_f c51 hf
      refine lv_iload_n M.x M.b d_M_part_14 rfl (lv_at hl 3 rfl) ?_
      replace hf := z_bind hf; obtain ⟨i23, e22, hf⟩ := hf
      refine zk_S (st1 := [.int i23]) M hH hS (c_M_isYear e22) w_M_isYear q_564 [] rfl ⟨Nat.le_of_ble_eq_true rfl, Nat.le_of_ble_eq_true rfl⟩ hl.1 rfl rfl (Nat.le_of_ble_eq_true rfl) d_M_part_15 (fun H locs hH hS => ?_)
      refine lv_if_eq (tgt := 29) M.x M.b d_M_part_18 (by decide) (fun c50 => ?_) (fun c50 => ?_)
      · replace hf := z_t c50 hf
        refine lv_sipush (v := (-1001 : Int32)) M.x M.b d_M_part_29 rfl ?_
        obtain rfl := z_r1 hf
        exact z_iret M hH hS d_M_part_32
      · replace hf := z_f c50 hf
        refine lv_iload M.x M.b d_M_part_21 (lv_at hl 4 rfl) ?_
        replace hf := z_bind hf; obtain ⟨i25, e24, hf⟩ := hf
        refine zk_S (st1 := [.int i25]) M hH hS (c_M_isYear e24) w_M_isYear q_564 [] rfl ⟨Nat.le_of_ble_eq_true rfl, Nat.le_of_ble_eq_true rfl⟩ hl.1 rfl rfl (Nat.le_of_ble_eq_true rfl) d_M_part_23 (fun H locs hH hS => ?_)
        refine lv_if_ne (tgt := 33) M.x M.b d_M_part_26 (by decide) (fun c49 => ?_) (fun c49 => ?_)
        · replace hf := z_f c49 hf
          refine lv_iload M.x M.b d_M_part_33 (lv_at hl 5 rfl) ?_
          refine lv_i2l M.x M.b d_M_part_35 rfl ?_
          refine lv_lconst (v := (0 : Int64)) M.x M.b d_M_part_36 rfl ?_
          refine lv_lconst (v := (1 : Int64)) M.x M.b d_M_part_37 rfl ?_
          replace hf := z_bind hf; obtain ⟨i27, e26, hf⟩ := hf
          refine zk_S (st1 := [.int i27]) M hH hS (c_M_in e26) w_M_in q_551 [] rfl ⟨Nat.le_of_ble_eq_true rfl, Nat.le_of_ble_eq_true rfl⟩ hl.1 rfl rfl (Nat.le_of_ble_eq_true rfl) d_M_part_38 (fun H locs hH hS => ?_)
          refine lv_if_ne (tgt := 48) M.x M.b d_M_part_41 (by decide) (fun c48 => ?_) (fun c48 => ?_)
          · replace hf := z_f c48 hf
            refine lv_aload_n M.x M.b d_M_part_48 rfl (lv_at hl 0 rfl) ?_
            refine lv_iload_n M.x M.b d_M_part_49 rfl (lv_at hl 1 rfl) ?_
            refine lv_iload_n M.x M.b d_M_part_50 rfl (lv_at hl 3 rfl) ?_
            refine lv_iload_n M.x M.b d_M_part_51 rfl (lv_at hl 3 rfl) ?_
            refine lv_bipush (v := (31 : Int32)) M.x M.b d_M_part_52 rfl ?_
            replace hf := z_bind hf; obtain ⟨i29, e28, hf⟩ := hf
            refine zk_V (ci := 8) (st1 := [.int i29]) M hH hS (c_M_costOf e28) rfl (o_M_costOf e28) w_M_costOf q_581 [] rfl ⟨Nat.le_of_ble_eq_true rfl, Nat.le_of_ble_eq_true rfl⟩ hl.1 rfl rfl (Nat.le_of_ble_eq_true rfl) d_M_part_54 (fun H locs hH hS => ?_)
            refine lv_istore (lv' := [(6, .int i29), (0, .ref this), (1, .int x1), (2, .int x2), (3, .int x3), (4, .int x4), (5, .int x5)]) M.x M.b d_M_part_57 hl (by decide) rfl (fun ls hl => ?_)
            refine lv_aload_n M.x M.b d_M_part_59 rfl (lv_at hl 1 rfl) ?_
            refine lv_iload_n M.x M.b d_M_part_60 rfl (lv_at hl 2 rfl) ?_
            refine lv_iload_n M.x M.b d_M_part_61 rfl (lv_at hl 4 rfl) ?_
            refine lv_iload_n M.x M.b d_M_part_62 rfl (lv_at hl 3 rfl) ?_
            replace hf := z_bind hf; obtain ⟨i31, e30, hf⟩ := hf
            refine zk_V (ci := 8) (st1 := [.int i31]) M hH hS (c_M_buying e30) rfl (o_M_buying e30) w_M_buying q_577 [] rfl ⟨Nat.le_of_ble_eq_true rfl, Nat.le_of_ble_eq_true rfl⟩ hl.1 rfl rfl (Nat.le_of_ble_eq_true rfl) d_M_part_63 (fun H locs hH hS => ?_)
            refine lv_istore (lv' := [(7, .int i31), (6, .int i29), (0, .ref this), (1, .int x1), (2, .int x2), (3, .int x3), (4, .int x4), (5, .int x5)]) M.x M.b d_M_part_66 hl (by decide) rfl (fun ls hl => ?_)
            refine lv_iload M.x M.b d_M_part_68 (lv_at hl 1 rfl) ?_
            refine lv_if_le (tgt := 105) M.x M.b d_M_part_70 (by decide) (fun c47 => ?_) (fun c47 => ?_)
            · replace hf := z_t c47 hf
              refine lv_sipush (v := (-1003 : Int32)) M.x M.b d_M_part_105 rfl ?_
              obtain rfl := z_r1 hf
              exact z_iret M hH hS d_M_part_108
            · replace hf := z_f c47 hf
              refine lv_iload M.x M.b d_M_part_73 (lv_at hl 0 rfl) ?_
              refine lv_if_le (tgt := 109) M.x M.b d_M_part_75 (by decide) (fun c46 => ?_) (fun c46 => ?_)
              · replace hf := z_t c46 hf
                exact w_M_part_109 M this h _ _ _ _ _ _ hf H locs ls hH hS (lv_sub hl [2, 4, 5, 6, 7, 1, 0] rfl)
              · replace hf := z_f c46 hf
                refine lv_aload_n M.x M.b d_M_part_78 rfl (lv_at hl 2 rfl) ?_
                replace hf := z_bind hf; obtain ⟨r32, e33, hf⟩ := hf
                refine z_get (ci := 8) (k := 0) M hH rfl (by decide) zinM q_562 (gA_spec e33) d_M_part_79 ?_
                refine lv_iconst (v := (5 : Int32)) M.x M.b d_M_part_82 rfl ?_
                refine lv_iload_n M.x M.b d_M_part_83 rfl (lv_at hl 5 rfl) ?_
                refine lv_imul M.x M.b d_M_part_84 ?_
                refine lv_iload_n M.x M.b d_M_part_85 rfl (lv_at hl 4 rfl) ?_
                refine lv_iadd M.x M.b d_M_part_86 ?_
                rcases r32 with _ | a34
                · exact absurd hf z_nb0
                replace hf := z_sb hf
                replace hf := z_bind hf; obtain ⟨i37, e36, hf⟩ := hf
                refine z_iald M hH e36 d_M_part_87 ?_
                refine lv_if_eq (tgt := 105) M.x M.b d_M_part_88 (by decide) (fun c45 => ?_) (fun c45 => ?_)
                · replace hf := z_t c45 hf
                  refine lv_sipush (v := (-1003 : Int32)) M.x M.b d_M_part_105 rfl ?_
                  obtain rfl := z_r1 hf
                  exact z_iret M hH hS d_M_part_108
                · replace hf := z_f c45 hf
                  refine lv_aload_n M.x M.b d_M_part_91 rfl (lv_at hl 2 rfl) ?_
                  replace hf := z_bind hf; obtain ⟨r38, e39, hf⟩ := hf
                  refine z_get (ci := 8) (k := 0) M hH rfl (by decide) zinM q_562 (gA_spec e39) d_M_part_92 ?_
                  refine lv_iconst (v := (5 : Int32)) M.x M.b d_M_part_95 rfl ?_
                  refine lv_iload M.x M.b d_M_part_96 (lv_at hl 6 rfl) ?_
                  refine lv_imul M.x M.b d_M_part_98 ?_
                  refine lv_iload_n M.x M.b d_M_part_99 rfl (lv_at hl 4 rfl) ?_
                  refine lv_iadd M.x M.b d_M_part_100 ?_
                  rcases r38 with _ | a40
                  · exact absurd hf z_nb0
                  replace hf := z_sb hf
                  replace hf := z_bind hf; obtain ⟨i43, e42, hf⟩ := hf
                  refine z_iald M hH e42 d_M_part_101 ?_
                  refine lv_if_ne (tgt := 109) M.x M.b d_M_part_102 (by decide) (fun c44 => ?_) (fun c44 => ?_)
                  · replace hf := z_f c44 hf
                    exact w_M_part_109 M this h _ _ _ _ _ _ hf H locs ls hH hS (lv_sub hl [2, 4, 5, 6, 7, 1, 0] rfl)
                  · replace hf := z_t c44 hf
                    refine lv_sipush (v := (-1003 : Int32)) M.x M.b d_M_part_105 rfl ?_
                    obtain rfl := z_r1 hf
                    exact z_iret M hH hS d_M_part_108
          · replace hf := z_t c48 hf
            refine lv_sipush (v := (-1002 : Int32)) M.x M.b d_M_part_44 rfl ?_
            obtain rfl := z_r1 hf
            exact z_iret M hH hS d_M_part_47
        · replace hf := z_t c49 hf
          refine lv_sipush (v := (-1001 : Int32)) M.x M.b d_M_part_29 rfl ?_
          obtain rfl := z_r1 hf
          exact z_iret M hH hS d_M_part_32
def f_M_rootOf_67 (k7 : Int64 → Int64 → Int64 → Option (Int64)) (s0 : Int64) (x0 : Int64) (x2 : Int64) : Option (Int64) :=
  k7 x0 x2 s0
set_option maxRecDepth 100000 in
set_option maxHeartbeats 4000000 in
theorem w_M_rootOf_67 {p : Program} {l : Launch} {e : Env} {s : State} {m : MethodId} {args : Array Value} {below : List Frame} {meth : Method} {c : Code} {N0 : Nat} {D : va_G} {cs : Nat → ClassId} (M : ZC p s m args meth c "YearBasketsModel" "rootOf" b_M_rootOf 9 (some .long) N0 D cs)  {h : Hp} (k7 : Int64 → Int64 → Int64 → Option (Int64)) {r0 : Int64} (hk7 : ∀ (x0 : Int64) (x2 : Int64) (x4 : Int64), k7 x0 x2 x4 = some r0 → ZG p l e (zrm 1 0 0) s m args below meth c N0 D cs (some (.long r0)) h h 9 [(0, .long x0), (2, .long x2), (4, .long x4)] 7 []) (s0 : Int64) (x0 : Int64) (x2 : Int64) (hf : f_M_rootOf_67 k7 s0 x0 x2 = some r0) : ZG p l e (zrm 1 0 0) s m args below meth c N0 D cs (some (.long r0)) h h 9 [(0, .long x0), (2, .long x2)] 67 [.long s0] := by
  intro H locs ls hH hS hl
  unfold f_M_rootOf_67 at hf
  refine lv_lstore (lv' := [(4, .long s0), (0, .long x0), (2, .long x2)]) M.x M.b d_M_rootOf_67 hl (by decide) rfl (fun ls hl => ?_)
  refine lv_goto (tgt := 7) M.x M.b d_M_rootOf_69 (by decide) ?_
  exact hk7 _ _ _ hf H locs ls hH hS (lv_sub hl [1, 2, 0] rfl)
def f_M_rootOf_54 (k7 : Int64 → Int64 → Int64 → Option (Int64)) (s0 : Int64) (x0 : Int64) (x4 : Int64) (x6 : Int64) (x8 : Int32) : Option (Int64) :=
  if x8 = 0 then
    f_M_rootOf_67 k7 x6 x0 s0
  else
  f_M_rootOf_67 k7 x4 x0 s0
set_option maxRecDepth 100000 in
set_option maxHeartbeats 4000000 in
theorem w_M_rootOf_54 {p : Program} {l : Launch} {e : Env} {s : State} {m : MethodId} {args : Array Value} {below : List Frame} {meth : Method} {c : Code} {N0 : Nat} {D : va_G} {cs : Nat → ClassId} (M : ZC p s m args meth c "YearBasketsModel" "rootOf" b_M_rootOf 9 (some .long) N0 D cs)  {h : Hp} (k7 : Int64 → Int64 → Int64 → Option (Int64)) {r0 : Int64} (hk7 : ∀ (x0 : Int64) (x2 : Int64) (x4 : Int64), k7 x0 x2 x4 = some r0 → ZG p l e (zrm 1 0 0) s m args below meth c N0 D cs (some (.long r0)) h h 9 [(0, .long x0), (2, .long x2), (4, .long x4)] 7 []) (s0 : Int64) (x0 : Int64) (x4 : Int64) (x6 : Int64) (x8 : Int32) (hf : f_M_rootOf_54 k7 s0 x0 x4 x6 x8 = some r0) : ZG p l e (zrm 1 0 0) s m args below meth c N0 D cs (some (.long r0)) h h 9 [(0, .long x0), (4, .long x4), (6, .long x6), (8, .int x8)] 54 [.long s0] := by
  intro H locs ls hH hS hl
  unfold f_M_rootOf_54 at hf
  refine lv_lstore_n (lv' := [(2, .long s0), (0, .long x0), (4, .long x4), (6, .long x6), (8, .int x8)]) M.x M.b d_M_rootOf_54 rfl hl (by decide) rfl (fun ls hl => ?_)
  refine lv_iload M.x M.b d_M_rootOf_55 (lv_at hl 4 rfl) ?_
  refine lv_if_eq (tgt := 65) M.x M.b d_M_rootOf_57 (by decide) (fun c1 => ?_) (fun c1 => ?_)
  · replace hf := z_t c1 hf
    refine lv_lload M.x M.b d_M_rootOf_65 (lv_at hl 3 rfl) ?_
    exact w_M_rootOf_67 M k7 hk7 _ _ _ hf H locs ls hH hS (lv_sub hl [1, 0] rfl)
  · replace hf := z_f c1 hf
    refine lv_lload M.x M.b d_M_rootOf_60 (lv_at hl 2 rfl) ?_
    refine lv_goto (tgt := 67) M.x M.b d_M_rootOf_62 (by decide) ?_
    exact w_M_rootOf_67 M k7 hk7 _ _ _ hf H locs ls hH hS (lv_sub hl [1, 0] rfl)
def f_M_rootOf_41 (k7 : Int64 → Int64 → Int64 → Option (Int64)) (s0 : Int32) (x0 : Int64) (x2 : Int64) (x4 : Int64) (x6 : Int64) : Option (Int64) :=
  if s0 = 0 then
    f_M_rootOf_54 k7 x2 x0 x4 x6 s0
  else
  f_M_rootOf_54 k7 x6 x0 x4 x6 s0
set_option maxRecDepth 100000 in
set_option maxHeartbeats 4000000 in
theorem w_M_rootOf_41 {p : Program} {l : Launch} {e : Env} {s : State} {m : MethodId} {args : Array Value} {below : List Frame} {meth : Method} {c : Code} {N0 : Nat} {D : va_G} {cs : Nat → ClassId} (M : ZC p s m args meth c "YearBasketsModel" "rootOf" b_M_rootOf 9 (some .long) N0 D cs)  {h : Hp} (k7 : Int64 → Int64 → Int64 → Option (Int64)) {r0 : Int64} (hk7 : ∀ (x0 : Int64) (x2 : Int64) (x4 : Int64), k7 x0 x2 x4 = some r0 → ZG p l e (zrm 1 0 0) s m args below meth c N0 D cs (some (.long r0)) h h 9 [(0, .long x0), (2, .long x2), (4, .long x4)] 7 []) (s0 : Int32) (x0 : Int64) (x2 : Int64) (x4 : Int64) (x6 : Int64) (hf : f_M_rootOf_41 k7 s0 x0 x2 x4 x6 = some r0) : ZG p l e (zrm 1 0 0) s m args below meth c N0 D cs (some (.long r0)) h h 9 [(0, .long x0), (2, .long x2), (4, .long x4), (6, .long x6)] 41 [.int s0] := by
  intro H locs ls hH hS hl
  unfold f_M_rootOf_41 at hf
  refine lv_istore (lv' := [(8, .int s0), (0, .long x0), (2, .long x2), (4, .long x4), (6, .long x6)]) M.x M.b d_M_rootOf_41 hl (by decide) rfl (fun ls hl => ?_)
  refine lv_iload M.x M.b d_M_rootOf_43 (lv_at hl 0 rfl) ?_
  refine lv_if_eq (tgt := 53) M.x M.b d_M_rootOf_45 (by decide) (fun c2 => ?_) (fun c2 => ?_)
  · replace hf := z_t c2 hf
    refine lv_lload_n M.x M.b d_M_rootOf_53 rfl (lv_at hl 2 rfl) ?_
    exact w_M_rootOf_54 M k7 hk7 _ _ _ _ _ hf H locs ls hH hS (lv_sub hl [1, 3, 4, 0] rfl)
  · replace hf := z_f c2 hf
    refine lv_lload M.x M.b d_M_rootOf_48 (lv_at hl 4 rfl) ?_
    refine lv_goto (tgt := 54) M.x M.b d_M_rootOf_50 (by decide) ?_
    exact w_M_rootOf_54 M k7 hk7 _ _ _ _ _ hf H locs ls hH hS (lv_sub hl [1, 3, 4, 0] rfl)
def t_M_rootOf_7 (k7 : Int64 → Int64 → Int64 → Option (Int64)) (x0 : Int64) (x2 : Int64) (x4 : Int64) : Option (Int64) :=
  if (x4 - x2) ≤ (1 : Int64) then
    some x2
  else
  if x0 < (((x2 + x4) / (2 : Int64)) * ((x2 + x4) / (2 : Int64))) then
    f_M_rootOf_41 k7 (0 : Int32) x0 x2 x4 ((x2 + x4) / (2 : Int64))
  else
  f_M_rootOf_41 k7 (1 : Int32) x0 x2 x4 ((x2 + x4) / (2 : Int64))
set_option maxRecDepth 100000 in
set_option maxHeartbeats 4000000 in
theorem v_M_rootOf_7 {p : Program} {l : Launch} {e : Env} {s : State} {m : MethodId} {args : Array Value} {below : List Frame} {meth : Method} {c : Code} {N0 : Nat} {D : va_G} {cs : Nat → ClassId} (M : ZC p s m args meth c "YearBasketsModel" "rootOf" b_M_rootOf 9 (some .long) N0 D cs)  {h : Hp} (k7 : Int64 → Int64 → Int64 → Option (Int64)) {r0 : Int64} (hk7 : ∀ (x0 : Int64) (x2 : Int64) (x4 : Int64), k7 x0 x2 x4 = some r0 → ZG p l e (zrm 1 0 0) s m args below meth c N0 D cs (some (.long r0)) h h 9 [(0, .long x0), (2, .long x2), (4, .long x4)] 7 []) (x0 : Int64) (x2 : Int64) (x4 : Int64) (hf : t_M_rootOf_7 k7 x0 x2 x4 = some r0) : ZG p l e (zrm 1 0 0) s m args below meth c N0 D cs (some (.long r0)) h h 9 [(0, .long x0), (2, .long x2), (4, .long x4)] 7 [] := by
  intro H locs ls hH hS hl
  unfold t_M_rootOf_7 at hf
  refine lv_lload M.x M.b d_M_rootOf_7 (lv_at hl 2 rfl) ?_
  refine lv_lload_n M.x M.b d_M_rootOf_9 rfl (lv_at hl 1 rfl) ?_
  refine lv_lsub M.x M.b d_M_rootOf_10 ?_
  refine lv_lconst (v := (1 : Int64)) M.x M.b d_M_rootOf_11 rfl ?_
  refine z_lcmp_le (tgt := 72) M d_M_rootOf_12 d_M_rootOf_13 (by decide) (fun c4 => ?_) (fun c4 => ?_)
  · replace hf := z_t c4 hf
    refine lv_lload_n M.x M.b d_M_rootOf_72 rfl (lv_at hl 1 rfl) ?_
    obtain rfl := z_r1 hf
    exact z_lret M hH hS d_M_rootOf_73
  · replace hf := z_f c4 hf
    refine lv_lload_n M.x M.b d_M_rootOf_16 rfl (lv_at hl 1 rfl) ?_
    refine lv_lload M.x M.b d_M_rootOf_17 (lv_at hl 2 rfl) ?_
    refine lv_ladd M.x M.b d_M_rootOf_19 ?_
    refine z_ldc2 (v := (2 : Int64)) M q_568 d_M_rootOf_20 ?_
    refine lv_ldiv M.x M.b d_M_rootOf_23 (by decide) ?_
    refine lv_lstore (lv' := [(6, .long ((x2 + x4) / (2 : Int64))), (0, .long x0), (2, .long x2), (4, .long x4)]) M.x M.b d_M_rootOf_24 hl (by decide) rfl (fun ls hl => ?_)
    refine lv_lload M.x M.b d_M_rootOf_26 (lv_at hl 0 rfl) ?_
    refine lv_lload M.x M.b d_M_rootOf_28 (lv_at hl 0 rfl) ?_
    refine lv_lmul M.x M.b d_M_rootOf_30 ?_
    refine lv_lload_n M.x M.b d_M_rootOf_31 rfl (lv_at hl 1 rfl) ?_
    refine z_lcmp_gt (tgt := 40) M d_M_rootOf_32 d_M_rootOf_33 (by decide) (fun c3 => ?_) (fun c3 => ?_)
    · replace hf := z_t c3 hf
      refine lv_iconst (v := (0 : Int32)) M.x M.b d_M_rootOf_40 rfl ?_
      exact w_M_rootOf_41 M k7 hk7 _ _ _ _ _ hf H locs ls hH hS (lv_sub hl [1, 2, 3, 0] rfl)
    · replace hf := z_f c3 hf
      refine lv_iconst (v := (1 : Int32)) M.x M.b d_M_rootOf_36 rfl ?_
      refine lv_goto (tgt := 41) M.x M.b d_M_rootOf_37 (by decide) ?_
      exact w_M_rootOf_41 M k7 hk7 _ _ _ _ _ hf H locs ls hH hS (lv_sub hl [1, 2, 3, 0] rfl)
def f_M_rootOf_7  : Nat → Int64 → Int64 → Int64 → Option (Int64)
  | 0, _, _, _ => none
  | n + 1, x0, x2, x4 => t_M_rootOf_7 (f_M_rootOf_7 n) x0 x2 x4
theorem w_M_rootOf_7 {p : Program} {l : Launch} {e : Env} {s : State} {m : MethodId} {args : Array Value} {below : List Frame} {meth : Method} {c : Code} {N0 : Nat} {D : va_G} {cs : Nat → ClassId} (M : ZC p s m args meth c "YearBasketsModel" "rootOf" b_M_rootOf 9 (some .long) N0 D cs)  {h : Hp}  {r0 : Int64}  : ∀ (n : Nat) (x0 : Int64) (x2 : Int64) (x4 : Int64), f_M_rootOf_7 n x0 x2 x4 = some r0 → ZG p l e (zrm 1 0 0) s m args below meth c N0 D cs (some (.long r0)) h h 9 [(0, .long x0), (2, .long x2), (4, .long x4)] 7 [] := by
  intro n
  induction n with
  | zero => intro x0 x2 x4 hf; exact absurd (show none = some _ from hf) (fun q => by cases q)
  | succ n ih => intro x0 x2 x4 hf; exact v_M_rootOf_7 M (f_M_rootOf_7 n)  ih _ _ _ hf
def f_M_rootOf (x0 : Int64) : Option (Int64) :=
  f_M_rootOf_7  FU x0 (0 : Int64) (1000000001 : Int64)
set_option maxRecDepth 100000 in
set_option maxHeartbeats 4000000 in
theorem c_M_rootOf {l : Launch} {N0 : Nat} {D : va_G} {cs : Nat → ClassId} {x0 : Int64} {r0 : Int64} {h : Hp} (hf : f_M_rootOf x0 = some r0) : Fn l N0 D cs y_M_rootOf b_M_rootOf 9 (some .long) 1 0 0 [.long x0] h (some (.long r0)) h := by
  refine z_start (by decide) (Nat.le_of_ble_eq_true rfl) ?_
  intro p e s m args below meth c M hH hS ls hl
  unfold f_M_rootOf at hf
  have hl : lv_has ls 9 [(0, .long x0)] := hl
  obtain ⟨H, hHe⟩ : ∃ H, H = s.heap := ⟨_, rfl⟩
  obtain ⟨locs, hLe⟩ : ∃ locs : List Loc, locs = [] := ⟨_, rfl⟩
  have hS : va_S (zA N0) s.heap H locs := by rw [hHe, hLe]; exact hS
  have hH : HH N0 D cs h H := by rw [hHe]; exact hH
  suffices hg : W p l e (zrm 1 0 0) s m args below meth c H locs 0 0 (MQ below (zQ N0 D cs (some (.long r0)) h) args s 0 0 (zA N0)) (F0 m 0 ls []) by rw [hHe, hLe] at hg; exact hg
  clear hHe hLe
  refine lv_lconst (v := (0 : Int64)) M.x M.b d_M_rootOf_0 rfl ?_
  refine lv_lstore_n (lv' := [(2, .long (0 : Int64)), (0, .long x0)]) M.x M.b d_M_rootOf_1 rfl hl (by decide) rfl (fun ls hl => ?_)
  refine z_ldc2 (v := (1000000001 : Int64)) M q_867 d_M_rootOf_2 ?_
  refine lv_lstore (lv' := [(4, .long (1000000001 : Int64)), (2, .long (0 : Int64)), (0, .long x0)]) M.x M.b d_M_rootOf_5 hl (by decide) rfl (fun ls hl => ?_)
  exact w_M_rootOf_7 M  FU _ _ _ hf H locs ls hH hS (lv_sub hl [2, 1, 0] rfl)
