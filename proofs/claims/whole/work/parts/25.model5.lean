/-! ===== the reference, 5: printed by wip/whole/drive.py out of the bytecode ===== -/
theorem q_868 : (Jvm.Cond.instanceMethod ({ cls := "YearBasketsModel", name := "wage", desc := "(IIIII)J" } : Jvm.MethodName)) ∈ zG := zt_5 (List.mem_of_getElem? (i := 228) rfl) rfl
theorem q_869 : (Jvm.Cond.selects "YearBasketsModel" ({ cls := "YearBasketsModel", name := "wage", desc := "(IIIII)J" } : Jvm.MethodName) ({ cls := "YearBasketsModel", name := "wage", desc := "(IIIII)J" } : Jvm.MethodName)) ∈ zG := zt_5 (List.mem_of_getElem? (i := 229) rfl) rfl
theorem q_870 : (Jvm.Cond.code ({ cls := "YearBasketsModel", name := "wage", desc := "(IIIII)J" } : Jvm.MethodName) prog_10_method_76_code (9 : Nat) (Option.some Jvm.ClassFile.FieldType.long)) ∈ zG := zt_5 (List.mem_of_getElem? (i := 230) rfl) rfl
theorem q_871 : (Jvm.Cond.constantLong "YearBasketsModel" (361 : Nat) (1000000000000000000 : Int64)) ∈ zG := zt_5 (List.mem_of_getElem? (i := 232) rfl) rfl
theorem q_872 : (Jvm.Cond.methodLink "YearBasketsModel" (365 : Nat) ({ cls := "YearBasketsModel", name := "rootOf", desc := "(J)J" } : Jvm.MethodName)) ∈ zG := zt_5 (List.mem_of_getElem? (i := 234) rfl) rfl
theorem q_873 : (Jvm.Cond.constantLong "YearBasketsModel" (363 : Nat) (-1005 : Int64)) ∈ zG := zt_5 (List.mem_of_getElem? (i := 233) rfl) rfl
theorem q_874 : (Jvm.Cond.constantLong "YearBasketsModel" (359 : Nat) (99999 : Int64)) ∈ zG := zt_5 (List.mem_of_getElem? (i := 231) rfl) rfl
theorem q_875 : (Jvm.Cond.instanceMethod ({ cls := "YearBasketsModel", name := "dearest", desc := "(III)I" } : Jvm.MethodName)) ∈ zG := zt_5 (List.mem_of_getElem? (i := 239) rfl) rfl
theorem q_876 : (Jvm.Cond.selects "YearBasketsModel" ({ cls := "YearBasketsModel", name := "dearest", desc := "(III)I" } : Jvm.MethodName) ({ cls := "YearBasketsModel", name := "dearest", desc := "(III)I" } : Jvm.MethodName)) ∈ zG := zt_6 (List.mem_of_getElem? (i := 0) rfl) rfl
theorem q_877 : (Jvm.Cond.code ({ cls := "YearBasketsModel", name := "dearest", desc := "(III)I" } : Jvm.MethodName) prog_10_method_77_code (7 : Nat) (Option.some Jvm.ClassFile.FieldType.int)) ∈ zG := zt_6 (List.mem_of_getElem? (i := 1) rfl) rfl
theorem q_878 : (Jvm.Cond.instanceMethod ({ cls := "YearBasketsModel", name := "turn", desc := "(IIIIIIII)I" } : Jvm.MethodName)) ∈ zG := zt_6 (List.mem_of_getElem? (i := 3) rfl) rfl
theorem q_879 : (Jvm.Cond.selects "YearBasketsModel" ({ cls := "YearBasketsModel", name := "turn", desc := "(IIIIIIII)I" } : Jvm.MethodName) ({ cls := "YearBasketsModel", name := "turn", desc := "(IIIIIIII)I" } : Jvm.MethodName)) ∈ zG := zt_6 (List.mem_of_getElem? (i := 4) rfl) rfl
theorem q_880 : (Jvm.Cond.code ({ cls := "YearBasketsModel", name := "turn", desc := "(IIIIIIII)I" } : Jvm.MethodName) prog_10_method_78_code (13 : Nat) (Option.some Jvm.ClassFile.FieldType.int)) ∈ zG := zt_6 (List.mem_of_getElem? (i := 5) rfl) rfl
theorem q_881 : (Jvm.Cond.constantLong "YearBasketsModel" (369 : Nat) (9999 : Int64)) ∈ zG := zt_6 (List.mem_of_getElem? (i := 6) rfl) rfl
abbrev b_M_wage : ByteArray := prog_10_method_76_code
abbrev y_M_wage : MethodName := ⟨"YearBasketsModel", "wage", "(IIIII)J"⟩
abbrev b_M_dearest : ByteArray := prog_10_method_77_code
abbrev y_M_dearest : MethodName := ⟨"YearBasketsModel", "dearest", "(III)I"⟩
abbrev b_M_turn : ByteArray := prog_10_method_78_code
abbrev y_M_turn : MethodName := ⟨"YearBasketsModel", "turn", "(IIIIIIII)I"⟩
theorem w_M_wage : Cond.code y_M_wage b_M_wage 9 (some .long) ∈ zG ∧ (Cond.instanceMethod y_M_wage ∈ zG ∧ Cond.selects y_M_wage.cls y_M_wage y_M_wage ∈ zG) ∧ Cond.initialized y_M_wage.cls ∈ zG ∧ zY y_M_wage 5 := ⟨q_870, ⟨q_868, q_869⟩, q_547, by decide +kernel⟩
theorem w_M_dearest : Cond.code y_M_dearest b_M_dearest 7 (some .int) ∈ zG ∧ (Cond.instanceMethod y_M_dearest ∈ zG ∧ Cond.selects y_M_dearest.cls y_M_dearest y_M_dearest ∈ zG) ∧ Cond.initialized y_M_dearest.cls ∈ zG ∧ zY y_M_dearest 3 := ⟨q_877, ⟨q_875, q_876⟩, q_547, by decide +kernel⟩
theorem w_M_turn : Cond.code y_M_turn b_M_turn 13 (some .int) ∈ zG ∧ (Cond.instanceMethod y_M_turn ∈ zG ∧ Cond.selects y_M_turn.cls y_M_turn y_M_turn ∈ zG) ∧ Cond.initialized y_M_turn.cls ∈ zG ∧ zY y_M_turn 8 := ⟨q_880, ⟨q_878, q_879⟩, q_547, by decide +kernel⟩
theorem d_M_wage_0 : decode b_M_wage 0 = .ok (.aload_n 0, 1) := by decide +kernel
theorem d_M_wage_1 : decode b_M_wage 1 = .ok (.iload_n 1, 1) := by decide +kernel
theorem d_M_wage_2 : decode b_M_wage 2 = .ok (.invokevirtual 271, 3) := by decide +kernel
theorem d_M_wage_5 : decode b_M_wage 5 = .ok (.ifCond .eq 26, 3) := by decide +kernel
theorem d_M_wage_8 : decode b_M_wage 8 = .ok (.iload_n 2, 1) := by decide +kernel
theorem d_M_wage_9 : decode b_M_wage 9 = .ok (.invokestatic 115, 3) := by decide +kernel
theorem d_M_wage_12 : decode b_M_wage 12 = .ok (.ifCond .eq 19, 3) := by decide +kernel
theorem d_M_wage_15 : decode b_M_wage 15 = .ok (.iload 4, 2) := by decide +kernel
theorem d_M_wage_17 : decode b_M_wage 17 = .ok (.invokestatic 98, 3) := by decide +kernel
theorem d_M_wage_20 : decode b_M_wage 20 = .ok (.ifCond .eq 11, 3) := by decide +kernel
theorem d_M_wage_23 : decode b_M_wage 23 = .ok (.iload 5, 2) := by decide +kernel
theorem d_M_wage_25 : decode b_M_wage 25 = .ok (.invokestatic 98, 3) := by decide +kernel
theorem d_M_wage_28 : decode b_M_wage 28 = .ok (.ifCond .ne 7, 3) := by decide +kernel
theorem d_M_wage_31 : decode b_M_wage 31 = .ok (.ldc2_w 274, 3) := by decide +kernel
theorem d_M_wage_34 : decode b_M_wage 34 = .ok (.lreturn, 1) := by decide +kernel
theorem d_M_wage_35 : decode b_M_wage 35 = .ok (.iload_n 3, 1) := by decide +kernel
theorem d_M_wage_36 : decode b_M_wage 36 = .ok (.i2l, 1) := by decide +kernel
theorem d_M_wage_37 : decode b_M_wage 37 = .ok (.lconst 1, 1) := by decide +kernel
theorem d_M_wage_38 : decode b_M_wage 38 = .ok (.ldc2_w 359, 3) := by decide +kernel
theorem d_M_wage_41 : decode b_M_wage 41 = .ok (.invokestatic 90, 3) := by decide +kernel
theorem d_M_wage_44 : decode b_M_wage 44 = .ok (.ifCond .ne 7, 3) := by decide +kernel
theorem d_M_wage_47 : decode b_M_wage 47 = .ok (.ldc2_w 276, 3) := by decide +kernel
theorem d_M_wage_50 : decode b_M_wage 50 = .ok (.lreturn, 1) := by decide +kernel
theorem d_M_wage_51 : decode b_M_wage 51 = .ok (.aload_n 0, 1) := by decide +kernel
theorem d_M_wage_52 : decode b_M_wage 52 = .ok (.bipush 40, 2) := by decide +kernel
theorem d_M_wage_54 : decode b_M_wage 54 = .ok (.iload_n 1, 1) := by decide +kernel
theorem d_M_wage_55 : decode b_M_wage 55 = .ok (.imul, 1) := by decide +kernel
theorem d_M_wage_56 : decode b_M_wage 56 = .ok (.iload_n 2, 1) := by decide +kernel
theorem d_M_wage_57 : decode b_M_wage 57 = .ok (.iload 4, 2) := by decide +kernel
theorem d_M_wage_59 : decode b_M_wage 59 = .ok (.iload 5, 2) := by decide +kernel
theorem d_M_wage_61 : decode b_M_wage 61 = .ok (.invokevirtual 278, 3) := by decide +kernel
theorem d_M_wage_64 : decode b_M_wage 64 = .ok (.istore 6, 2) := by decide +kernel
theorem d_M_wage_66 : decode b_M_wage 66 = .ok (.iload 6, 2) := by decide +kernel
theorem d_M_wage_68 : decode b_M_wage 68 = .ok (.ifCond .ge 7, 3) := by decide +kernel
theorem d_M_wage_71 : decode b_M_wage 71 = .ok (.iload 6, 2) := by decide +kernel
theorem d_M_wage_73 : decode b_M_wage 73 = .ok (.i2l, 1) := by decide +kernel
theorem d_M_wage_74 : decode b_M_wage 74 = .ok (.lreturn, 1) := by decide +kernel
theorem d_M_wage_75 : decode b_M_wage 75 = .ok (.aload_n 0, 1) := by decide +kernel
theorem d_M_wage_76 : decode b_M_wage 76 = .ok (.getfield 208, 3) := by decide +kernel
theorem d_M_wage_79 : decode b_M_wage 79 = .ok (.ifCond .eq 11, 3) := by decide +kernel
theorem d_M_wage_82 : decode b_M_wage 82 = .ok (.iload_n 3, 1) := by decide +kernel
theorem d_M_wage_83 : decode b_M_wage 83 = .ok (.i2l, 1) := by decide +kernel
theorem d_M_wage_84 : decode b_M_wage 84 = .ok (.iload_n 3, 1) := by decide +kernel
theorem d_M_wage_85 : decode b_M_wage 85 = .ok (.i2l, 1) := by decide +kernel
theorem d_M_wage_86 : decode b_M_wage 86 = .ok (.lmul, 1) := by decide +kernel
theorem d_M_wage_87 : decode b_M_wage 87 = .ok (.goto 5, 3) := by decide +kernel
theorem d_M_wage_90 : decode b_M_wage 90 = .ok (.iload_n 3, 1) := by decide +kernel
theorem d_M_wage_91 : decode b_M_wage 91 = .ok (.i2l, 1) := by decide +kernel
theorem d_M_wage_92 : decode b_M_wage 92 = .ok (.lstore 7, 2) := by decide +kernel
theorem d_M_wage_94 : decode b_M_wage 94 = .ok (.aload_n 0, 1) := by decide +kernel
theorem d_M_wage_95 : decode b_M_wage 95 = .ok (.getfield 201, 3) := by decide +kernel
theorem d_M_wage_98 : decode b_M_wage 98 = .ok (.ldc2_w 361, 3) := by decide +kernel
theorem d_M_wage_101 : decode b_M_wage 101 = .ok (.lload 7, 2) := by decide +kernel
theorem d_M_wage_103 : decode b_M_wage 103 = .ok (.ldiv, 1) := by decide +kernel
theorem d_M_wage_104 : decode b_M_wage 104 = .ok (.lcmp, 1) := by decide +kernel
theorem d_M_wage_105 : decode b_M_wage 105 = .ok (.ifCond .le 7, 3) := by decide +kernel
theorem d_M_wage_108 : decode b_M_wage 108 = .ok (.ldc2_w 363, 3) := by decide +kernel
theorem d_M_wage_111 : decode b_M_wage 111 = .ok (.lreturn, 1) := by decide +kernel
theorem d_M_wage_112 : decode b_M_wage 112 = .ok (.aload_n 0, 1) := by decide +kernel
theorem d_M_wage_113 : decode b_M_wage 113 = .ok (.getfield 208, 3) := by decide +kernel
theorem d_M_wage_116 : decode b_M_wage 116 = .ok (.ifCond .eq 21, 3) := by decide +kernel
theorem d_M_wage_119 : decode b_M_wage 119 = .ok (.lload 7, 2) := by decide +kernel
theorem d_M_wage_121 : decode b_M_wage 121 = .ok (.aload_n 0, 1) := by decide +kernel
theorem d_M_wage_122 : decode b_M_wage 122 = .ok (.getfield 201, 3) := by decide +kernel
theorem d_M_wage_125 : decode b_M_wage 125 = .ok (.lmul, 1) := by decide +kernel
theorem d_M_wage_126 : decode b_M_wage 126 = .ok (.aload_n 0, 1) := by decide +kernel
theorem d_M_wage_127 : decode b_M_wage 127 = .ok (.getfield 205, 3) := by decide +kernel
theorem d_M_wage_130 : decode b_M_wage 130 = .ok (.ldiv, 1) := by decide +kernel
theorem d_M_wage_131 : decode b_M_wage 131 = .ok (.invokestatic 365, 3) := by decide +kernel
theorem d_M_wage_134 : decode b_M_wage 134 = .ok (.goto 15, 3) := by decide +kernel
theorem d_M_wage_137 : decode b_M_wage 137 = .ok (.lload 7, 2) := by decide +kernel
theorem d_M_wage_139 : decode b_M_wage 139 = .ok (.aload_n 0, 1) := by decide +kernel
theorem d_M_wage_140 : decode b_M_wage 140 = .ok (.getfield 201, 3) := by decide +kernel
theorem d_M_wage_143 : decode b_M_wage 143 = .ok (.lmul, 1) := by decide +kernel
theorem d_M_wage_144 : decode b_M_wage 144 = .ok (.aload_n 0, 1) := by decide +kernel
theorem d_M_wage_145 : decode b_M_wage 145 = .ok (.getfield 205, 3) := by decide +kernel
theorem d_M_wage_148 : decode b_M_wage 148 = .ok (.ldiv, 1) := by decide +kernel
theorem d_M_wage_149 : decode b_M_wage 149 = .ok (.lreturn, 1) := by decide +kernel
theorem d_M_dearest_0 : decode b_M_dearest 0 = .ok (.aload_n 0, 1) := by decide +kernel
theorem d_M_dearest_1 : decode b_M_dearest 1 = .ok (.iload_n 1, 1) := by decide +kernel
theorem d_M_dearest_2 : decode b_M_dearest 2 = .ok (.invokevirtual 271, 3) := by decide +kernel
theorem d_M_dearest_5 : decode b_M_dearest 5 = .ok (.ifCond .eq 17, 3) := by decide +kernel
theorem d_M_dearest_8 : decode b_M_dearest 8 = .ok (.iload_n 2, 1) := by decide +kernel
theorem d_M_dearest_9 : decode b_M_dearest 9 = .ok (.invokestatic 98, 3) := by decide +kernel
theorem d_M_dearest_12 : decode b_M_dearest 12 = .ok (.ifCond .eq 10, 3) := by decide +kernel
theorem d_M_dearest_15 : decode b_M_dearest 15 = .ok (.iload_n 3, 1) := by decide +kernel
theorem d_M_dearest_16 : decode b_M_dearest 16 = .ok (.invokestatic 98, 3) := by decide +kernel
theorem d_M_dearest_19 : decode b_M_dearest 19 = .ok (.ifCond .ne 7, 3) := by decide +kernel
theorem d_M_dearest_22 : decode b_M_dearest 22 = .ok (.sipush (-1001), 3) := by decide +kernel
theorem d_M_dearest_25 : decode b_M_dearest 25 = .ok (.ireturn, 1) := by decide +kernel
theorem d_M_dearest_26 : decode b_M_dearest 26 = .ok (.iconst (-1), 1) := by decide +kernel
theorem d_M_dearest_27 : decode b_M_dearest 27 = .ok (.istore 4, 2) := by decide +kernel
theorem d_M_dearest_29 : decode b_M_dearest 29 = .ok (.iconst 0, 1) := by decide +kernel
theorem d_M_dearest_30 : decode b_M_dearest 30 = .ok (.istore 5, 2) := by decide +kernel
theorem d_M_dearest_32 : decode b_M_dearest 32 = .ok (.iload 5, 2) := by decide +kernel
theorem d_M_dearest_34 : decode b_M_dearest 34 = .ok (.iconst 3, 1) := by decide +kernel
theorem d_M_dearest_35 : decode b_M_dearest 35 = .ok (.if_icmp .ge 100, 3) := by decide +kernel
theorem d_M_dearest_38 : decode b_M_dearest 38 = .ok (.aload_n 0, 1) := by decide +kernel
theorem d_M_dearest_39 : decode b_M_dearest 39 = .ok (.iload_n 1, 1) := by decide +kernel
theorem d_M_dearest_40 : decode b_M_dearest 40 = .ok (.iload 5, 2) := by decide +kernel
theorem d_M_dearest_42 : decode b_M_dearest 42 = .ok (.iload_n 2, 1) := by decide +kernel
theorem d_M_dearest_43 : decode b_M_dearest 43 = .ok (.iload_n 3, 1) := by decide +kernel
theorem d_M_dearest_44 : decode b_M_dearest 44 = .ok (.iconst 1, 1) := by decide +kernel
theorem d_M_dearest_45 : decode b_M_dearest 45 = .ok (.invokevirtual 284, 3) := by decide +kernel
theorem d_M_dearest_48 : decode b_M_dearest 48 = .ok (.istore 6, 2) := by decide +kernel
theorem d_M_dearest_50 : decode b_M_dearest 50 = .ok (.iload 6, 2) := by decide +kernel
theorem d_M_dearest_52 : decode b_M_dearest 52 = .ok (.ifCond .ne 77, 3) := by decide +kernel
theorem d_M_dearest_55 : decode b_M_dearest 55 = .ok (.iload 4, 2) := by decide +kernel
theorem d_M_dearest_57 : decode b_M_dearest 57 = .ok (.ifCond .ge 7, 3) := by decide +kernel
theorem d_M_dearest_60 : decode b_M_dearest 60 = .ok (.iconst 0, 1) := by decide +kernel
theorem d_M_dearest_61 : decode b_M_dearest 61 = .ok (.goto 9, 3) := by decide +kernel
theorem d_M_dearest_64 : decode b_M_dearest 64 = .ok (.aload_n 0, 1) := by decide +kernel
theorem d_M_dearest_65 : decode b_M_dearest 65 = .ok (.iconst 1, 1) := by decide +kernel
theorem d_M_dearest_66 : decode b_M_dearest 66 = .ok (.iconst 0, 1) := by decide +kernel
theorem d_M_dearest_67 : decode b_M_dearest 67 = .ok (.invokevirtual 287, 3) := by decide +kernel
theorem d_M_dearest_70 : decode b_M_dearest 70 = .ok (.istore 6, 2) := by decide +kernel
theorem d_M_dearest_72 : decode b_M_dearest 72 = .ok (.iload 6, 2) := by decide +kernel
theorem d_M_dearest_74 : decode b_M_dearest 74 = .ok (.ifCond .ne 55, 3) := by decide +kernel
theorem d_M_dearest_77 : decode b_M_dearest 77 = .ok (.iload 4, 2) := by decide +kernel
theorem d_M_dearest_79 : decode b_M_dearest 79 = .ok (.ifCond .lt 10, 3) := by decide +kernel
theorem d_M_dearest_82 : decode b_M_dearest 82 = .ok (.aload_n 0, 1) := by decide +kernel
theorem d_M_dearest_83 : decode b_M_dearest 83 = .ok (.getfield 226, 3) := by decide +kernel
theorem d_M_dearest_86 : decode b_M_dearest 86 = .ok (.ifCond .le 43, 3) := by decide +kernel
theorem d_M_dearest_89 : decode b_M_dearest 89 = .ok (.iload 5, 2) := by decide +kernel
theorem d_M_dearest_91 : decode b_M_dearest 91 = .ok (.istore 4, 2) := by decide +kernel
theorem d_M_dearest_93 : decode b_M_dearest 93 = .ok (.aload_n 0, 1) := by decide +kernel
theorem d_M_dearest_94 : decode b_M_dearest 94 = .ok (.getfield 61, 3) := by decide +kernel
theorem d_M_dearest_97 : decode b_M_dearest 97 = .ok (.iconst 0, 1) := by decide +kernel
theorem d_M_dearest_98 : decode b_M_dearest 98 = .ok (.aload_n 0, 1) := by decide +kernel
theorem d_M_dearest_99 : decode b_M_dearest 99 = .ok (.getfield 61, 3) := by decide +kernel
theorem d_M_dearest_102 : decode b_M_dearest 102 = .ok (.iconst 1, 1) := by decide +kernel
theorem d_M_dearest_103 : decode b_M_dearest 103 = .ok (.laload, 1) := by decide +kernel
theorem d_M_dearest_104 : decode b_M_dearest 104 = .ok (.lastore, 1) := by decide +kernel
theorem d_M_dearest_105 : decode b_M_dearest 105 = .ok (.aload_n 0, 1) := by decide +kernel
theorem d_M_dearest_106 : decode b_M_dearest 106 = .ok (.getfield 64, 3) := by decide +kernel
theorem d_M_dearest_109 : decode b_M_dearest 109 = .ok (.iconst 0, 1) := by decide +kernel
theorem d_M_dearest_110 : decode b_M_dearest 110 = .ok (.aload_n 0, 1) := by decide +kernel
theorem d_M_dearest_111 : decode b_M_dearest 111 = .ok (.getfield 64, 3) := by decide +kernel
theorem d_M_dearest_114 : decode b_M_dearest 114 = .ok (.iconst 1, 1) := by decide +kernel
theorem d_M_dearest_115 : decode b_M_dearest 115 = .ok (.laload, 1) := by decide +kernel
theorem d_M_dearest_116 : decode b_M_dearest 116 = .ok (.lastore, 1) := by decide +kernel
theorem d_M_dearest_117 : decode b_M_dearest 117 = .ok (.aload_n 0, 1) := by decide +kernel
theorem d_M_dearest_118 : decode b_M_dearest 118 = .ok (.getfield 67, 3) := by decide +kernel
theorem d_M_dearest_121 : decode b_M_dearest 121 = .ok (.iconst 0, 1) := by decide +kernel
theorem d_M_dearest_122 : decode b_M_dearest 122 = .ok (.aload_n 0, 1) := by decide +kernel
theorem d_M_dearest_123 : decode b_M_dearest 123 = .ok (.getfield 67, 3) := by decide +kernel
theorem d_M_dearest_126 : decode b_M_dearest 126 = .ok (.iconst 1, 1) := by decide +kernel
theorem d_M_dearest_127 : decode b_M_dearest 127 = .ok (.baload, 1) := by decide +kernel
theorem d_M_dearest_128 : decode b_M_dearest 128 = .ok (.bastore, 1) := by decide +kernel
theorem d_M_dearest_129 : decode b_M_dearest 129 = .ok (.iinc 5 1, 3) := by decide +kernel
theorem d_M_dearest_132 : decode b_M_dearest 132 = .ok (.goto (-100), 3) := by decide +kernel
theorem d_M_dearest_135 : decode b_M_dearest 135 = .ok (.iload 4, 2) := by decide +kernel
theorem d_M_dearest_137 : decode b_M_dearest 137 = .ok (.ireturn, 1) := by decide +kernel
theorem d_M_turn_0 : decode b_M_turn 0 = .ok (.aload_n 0, 1) := by decide +kernel
theorem d_M_turn_1 : decode b_M_turn 1 = .ok (.iload_n 1, 1) := by decide +kernel
theorem d_M_turn_2 : decode b_M_turn 2 = .ok (.invokevirtual 271, 3) := by decide +kernel
theorem d_M_turn_5 : decode b_M_turn 5 = .ok (.ifCond .eq 41, 3) := by decide +kernel
theorem d_M_turn_8 : decode b_M_turn 8 = .ok (.iload_n 2, 1) := by decide +kernel
theorem d_M_turn_9 : decode b_M_turn 9 = .ok (.invokestatic 115, 3) := by decide +kernel
theorem d_M_turn_12 : decode b_M_turn 12 = .ok (.ifCond .eq 34, 3) := by decide +kernel
theorem d_M_turn_15 : decode b_M_turn 15 = .ok (.iload_n 3, 1) := by decide +kernel
theorem d_M_turn_16 : decode b_M_turn 16 = .ok (.invokestatic 98, 3) := by decide +kernel
theorem d_M_turn_19 : decode b_M_turn 19 = .ok (.ifCond .eq 27, 3) := by decide +kernel
theorem d_M_turn_22 : decode b_M_turn 22 = .ok (.iload 4, 2) := by decide +kernel
theorem d_M_turn_24 : decode b_M_turn 24 = .ok (.invokestatic 98, 3) := by decide +kernel
theorem d_M_turn_27 : decode b_M_turn 27 = .ok (.ifCond .eq 19, 3) := by decide +kernel
theorem d_M_turn_30 : decode b_M_turn 30 = .ok (.iload 5, 2) := by decide +kernel
theorem d_M_turn_32 : decode b_M_turn 32 = .ok (.invokestatic 98, 3) := by decide +kernel
theorem d_M_turn_35 : decode b_M_turn 35 = .ok (.ifCond .eq 11, 3) := by decide +kernel
theorem d_M_turn_38 : decode b_M_turn 38 = .ok (.iload 6, 2) := by decide +kernel
theorem d_M_turn_40 : decode b_M_turn 40 = .ok (.invokestatic 102, 3) := by decide +kernel
theorem d_M_turn_43 : decode b_M_turn 43 = .ok (.ifCond .ne 7, 3) := by decide +kernel
theorem d_M_turn_46 : decode b_M_turn 46 = .ok (.sipush (-1001), 3) := by decide +kernel
theorem d_M_turn_49 : decode b_M_turn 49 = .ok (.ireturn, 1) := by decide +kernel
theorem d_M_turn_50 : decode b_M_turn 50 = .ok (.iload 7, 2) := by decide +kernel
theorem d_M_turn_52 : decode b_M_turn 52 = .ok (.i2l, 1) := by decide +kernel
theorem d_M_turn_53 : decode b_M_turn 53 = .ok (.lconst 1, 1) := by decide +kernel
theorem d_M_turn_54 : decode b_M_turn 54 = .ok (.ldc2_w 369, 3) := by decide +kernel
theorem d_M_turn_57 : decode b_M_turn 57 = .ok (.invokestatic 90, 3) := by decide +kernel
theorem d_M_turn_60 : decode b_M_turn 60 = .ok (.ifCond .eq 16, 3) := by decide +kernel
theorem d_M_turn_63 : decode b_M_turn 63 = .ok (.iload 8, 2) := by decide +kernel
theorem d_M_turn_65 : decode b_M_turn 65 = .ok (.i2l, 1) := by decide +kernel
theorem d_M_turn_66 : decode b_M_turn 66 = .ok (.lconst 1, 1) := by decide +kernel
theorem d_M_turn_67 : decode b_M_turn 67 = .ok (.ldc2_w 369, 3) := by decide +kernel
theorem d_M_turn_70 : decode b_M_turn 70 = .ok (.invokestatic 90, 3) := by decide +kernel
theorem d_M_turn_73 : decode b_M_turn 73 = .ok (.ifCond .ne 7, 3) := by decide +kernel
theorem d_M_turn_76 : decode b_M_turn 76 = .ok (.sipush (-1002), 3) := by decide +kernel
theorem d_M_turn_79 : decode b_M_turn 79 = .ok (.ireturn, 1) := by decide +kernel
theorem d_M_turn_80 : decode b_M_turn 80 = .ok (.aload_n 0, 1) := by decide +kernel
theorem d_M_turn_81 : decode b_M_turn 81 = .ok (.getfield 7, 3) := by decide +kernel
theorem d_M_turn_84 : decode b_M_turn 84 = .ok (.iconst 5, 1) := by decide +kernel
theorem d_M_turn_85 : decode b_M_turn 85 = .ok (.iload 5, 2) := by decide +kernel
theorem d_M_turn_87 : decode b_M_turn 87 = .ok (.imul, 1) := by decide +kernel
theorem d_M_turn_88 : decode b_M_turn 88 = .ok (.iload 6, 2) := by decide +kernel
theorem d_M_turn_90 : decode b_M_turn 90 = .ok (.iadd, 1) := by decide +kernel
theorem d_M_turn_91 : decode b_M_turn 91 = .ok (.iaload, 1) := by decide +kernel
theorem d_M_turn_92 : decode b_M_turn 92 = .ok (.istore 9, 2) := by decide +kernel
theorem d_M_turn_94 : decode b_M_turn 94 = .ok (.iconst (-1), 1) := by decide +kernel
theorem d_M_turn_95 : decode b_M_turn 95 = .ok (.istore 10, 2) := by decide +kernel
theorem d_M_turn_97 : decode b_M_turn 97 = .ok (.iconst 1, 1) := by decide +kernel
theorem d_M_turn_98 : decode b_M_turn 98 = .ok (.istore 11, 2) := by decide +kernel
theorem d_M_turn_100 : decode b_M_turn 100 = .ok (.iload 11, 2) := by decide +kernel
theorem d_M_turn_102 : decode b_M_turn 102 = .ok (.bipush 99, 2) := by decide +kernel
theorem d_M_turn_104 : decode b_M_turn 104 = .ok (.if_icmp .gt 102, 3) := by decide +kernel
theorem d_M_turn_107 : decode b_M_turn 107 = .ok (.iload 10, 2) := by decide +kernel
theorem d_M_turn_109 : decode b_M_turn 109 = .ok (.ifCond .ge 97, 3) := by decide +kernel
theorem d_M_turn_112 : decode b_M_turn 112 = .ok (.aload_n 0, 1) := by decide +kernel
theorem d_M_turn_113 : decode b_M_turn 113 = .ok (.getfield 7, 3) := by decide +kernel
theorem d_M_turn_116 : decode b_M_turn 116 = .ok (.iconst 5, 1) := by decide +kernel
theorem d_M_turn_117 : decode b_M_turn 117 = .ok (.iload 5, 2) := by decide +kernel
theorem d_M_turn_119 : decode b_M_turn 119 = .ok (.imul, 1) := by decide +kernel
theorem d_M_turn_120 : decode b_M_turn 120 = .ok (.iload 6, 2) := by decide +kernel
theorem d_M_turn_122 : decode b_M_turn 122 = .ok (.iadd, 1) := by decide +kernel
theorem d_M_turn_123 : decode b_M_turn 123 = .ok (.iload 11, 2) := by decide +kernel
theorem d_M_turn_125 : decode b_M_turn 125 = .ok (.iastore, 1) := by decide +kernel
theorem d_M_turn_126 : decode b_M_turn 126 = .ok (.aload_n 0, 1) := by decide +kernel
theorem d_M_turn_127 : decode b_M_turn 127 = .ok (.iload_n 1, 1) := by decide +kernel
theorem d_M_turn_128 : decode b_M_turn 128 = .ok (.iload_n 2, 1) := by decide +kernel
theorem d_M_turn_129 : decode b_M_turn 129 = .ok (.iload_n 3, 1) := by decide +kernel
theorem d_M_turn_130 : decode b_M_turn 130 = .ok (.iload 4, 2) := by decide +kernel
theorem d_M_turn_132 : decode b_M_turn 132 = .ok (.iconst 0, 1) := by decide +kernel
theorem d_M_turn_133 : decode b_M_turn 133 = .ok (.invokevirtual 284, 3) := by decide +kernel
theorem d_M_turn_136 : decode b_M_turn 136 = .ok (.istore 12, 2) := by decide +kernel
theorem d_M_turn_138 : decode b_M_turn 138 = .ok (.iload 12, 2) := by decide +kernel
theorem d_M_turn_140 : decode b_M_turn 140 = .ok (.ifCond .ge 8, 3) := by decide +kernel
theorem d_M_turn_143 : decode b_M_turn 143 = .ok (.iload 12, 2) := by decide +kernel
theorem d_M_turn_145 : decode b_M_turn 145 = .ok (.goto 32, 3) := by decide +kernel
theorem d_M_turn_148 : decode b_M_turn 148 = .ok (.aload_n 0, 1) := by decide +kernel
theorem d_M_turn_149 : decode b_M_turn 149 = .ok (.aload_n 0, 1) := by decide +kernel
theorem d_M_turn_150 : decode b_M_turn 150 = .ok (.getfield 61, 3) := by decide +kernel
theorem d_M_turn_153 : decode b_M_turn 153 = .ok (.iconst 0, 1) := by decide +kernel
theorem d_M_turn_154 : decode b_M_turn 154 = .ok (.laload, 1) := by decide +kernel
theorem d_M_turn_155 : decode b_M_turn 155 = .ok (.aload_n 0, 1) := by decide +kernel
theorem d_M_turn_156 : decode b_M_turn 156 = .ok (.getfield 64, 3) := by decide +kernel
theorem d_M_turn_159 : decode b_M_turn 159 = .ok (.iconst 0, 1) := by decide +kernel
theorem d_M_turn_160 : decode b_M_turn 160 = .ok (.laload, 1) := by decide +kernel
theorem d_M_turn_161 : decode b_M_turn 161 = .ok (.aload_n 0, 1) := by decide +kernel
theorem d_M_turn_162 : decode b_M_turn 162 = .ok (.getfield 67, 3) := by decide +kernel
theorem d_M_turn_165 : decode b_M_turn 165 = .ok (.iconst 0, 1) := by decide +kernel
theorem d_M_turn_166 : decode b_M_turn 166 = .ok (.baload, 1) := by decide +kernel
theorem d_M_turn_167 : decode b_M_turn 167 = .ok (.iload 7, 2) := by decide +kernel
theorem d_M_turn_169 : decode b_M_turn 169 = .ok (.i2l, 1) := by decide +kernel
theorem d_M_turn_170 : decode b_M_turn 170 = .ok (.iload 8, 2) := by decide +kernel
theorem d_M_turn_172 : decode b_M_turn 172 = .ok (.i2l, 1) := by decide +kernel
theorem d_M_turn_173 : decode b_M_turn 173 = .ok (.iconst 0, 1) := by decide +kernel
theorem d_M_turn_174 : decode b_M_turn 174 = .ok (.invokevirtual 242, 3) := by decide +kernel
theorem d_M_turn_177 : decode b_M_turn 177 = .ok (.istore 12, 2) := by decide +kernel
theorem d_M_turn_179 : decode b_M_turn 179 = .ok (.iload 12, 2) := by decide +kernel
theorem d_M_turn_181 : decode b_M_turn 181 = .ok (.ifCond .ne 15, 3) := by decide +kernel
theorem d_M_turn_184 : decode b_M_turn 184 = .ok (.aload_n 0, 1) := by decide +kernel
theorem d_M_turn_185 : decode b_M_turn 185 = .ok (.getfield 226, 3) := by decide +kernel
theorem d_M_turn_188 : decode b_M_turn 188 = .ok (.ifCond .lt 8, 3) := by decide +kernel
theorem d_M_turn_191 : decode b_M_turn 191 = .ok (.iload 11, 2) := by decide +kernel
theorem d_M_turn_193 : decode b_M_turn 193 = .ok (.goto 5, 3) := by decide +kernel
theorem d_M_turn_196 : decode b_M_turn 196 = .ok (.iload 10, 2) := by decide +kernel
theorem d_M_turn_198 : decode b_M_turn 198 = .ok (.istore 10, 2) := by decide +kernel
theorem d_M_turn_200 : decode b_M_turn 200 = .ok (.iinc 11 1, 3) := by decide +kernel
theorem d_M_turn_203 : decode b_M_turn 203 = .ok (.goto (-103), 3) := by decide +kernel
theorem d_M_turn_206 : decode b_M_turn 206 = .ok (.aload_n 0, 1) := by decide +kernel
theorem d_M_turn_207 : decode b_M_turn 207 = .ok (.getfield 7, 3) := by decide +kernel
theorem d_M_turn_210 : decode b_M_turn 210 = .ok (.iconst 5, 1) := by decide +kernel
theorem d_M_turn_211 : decode b_M_turn 211 = .ok (.iload 5, 2) := by decide +kernel
theorem d_M_turn_213 : decode b_M_turn 213 = .ok (.imul, 1) := by decide +kernel
theorem d_M_turn_214 : decode b_M_turn 214 = .ok (.iload 6, 2) := by decide +kernel
theorem d_M_turn_216 : decode b_M_turn 216 = .ok (.iadd, 1) := by decide +kernel
theorem d_M_turn_217 : decode b_M_turn 217 = .ok (.iload 9, 2) := by decide +kernel
theorem d_M_turn_219 : decode b_M_turn 219 = .ok (.iastore, 1) := by decide +kernel
theorem d_M_turn_220 : decode b_M_turn 220 = .ok (.iload 10, 2) := by decide +kernel
theorem d_M_turn_222 : decode b_M_turn 222 = .ok (.ireturn, 1) := by decide +kernel
def f_M_wage_92 (this : Nat) (s0 : Int64) (h : Hp) : Option ((Int64 × Hp)) :=
  (gL h this 8 14).bind fun l1 =>
  if s0 = 0 then none else
  if l1 ≤ ((1000000000000000000 : Int64) / s0) then
    (gI h this 8 16).bind fun i3 =>
    if i3 = 0 then
      (gL h this 8 14).bind fun l5 =>
      (gL h this 8 15).bind fun l7 =>
      if l7 = 0 then none else
      some (((s0 * l5) / l7), h)
    else
    (gL h this 8 14).bind fun l10 =>
    (gL h this 8 15).bind fun l12 =>
    if l12 = 0 then none else
    (f_M_rootOf ((s0 * l10) / l12)).bind fun l15 =>
    some (l15, h)
  else
  some ((-1005 : Int64), h)
set_option maxRecDepth 100000 in
set_option maxHeartbeats 4000000 in
theorem w_M_wage_92 {p : Program} {l : Launch} {e : Env} {s : State} {m : MethodId} {args : Array Value} {below : List Frame} {meth : Method} {c : Code} {N0 : Nat} {D : va_G} {cs : Nat → ClassId} (M : ZC p s m args meth c "YearBasketsModel" "wage" b_M_wage 9 (some .long) N0 D cs) (this : Nat)  {r0 : Int64} {h0 : Hp}  (s0 : Int64) (h : Hp) (hf : f_M_wage_92 this s0 h = some (r0, h0)) : ZG p l e (zrm 8 0 0) s m args below meth c N0 D cs (some (.long r0)) h0 h 9 [(0, .ref this)] 92 [.long s0] := by
  intro H locs ls hH hS hl
  unfold f_M_wage_92 at hf
  refine lv_lstore (lv' := [(7, .long s0), (0, .ref this)]) M.x M.b d_M_wage_92 hl (by decide) rfl (fun ls hl => ?_)
  refine lv_aload_n M.x M.b d_M_wage_94 rfl (lv_at hl 1 rfl) ?_
  replace hf := z_bind hf; obtain ⟨l1, e2, hf⟩ := hf
  refine z_get (ci := 8) (k := 14) M hH rfl (by decide) zinM q_668 (gL_spec e2) d_M_wage_95 ?_
  refine z_ldc2 (v := (1000000000000000000 : Int64)) M q_871 d_M_wage_98 ?_
  refine lv_lload M.x M.b d_M_wage_101 (lv_at hl 0 rfl) ?_
  replace hf := z_gn hf; obtain ⟨c19, hf⟩ := hf
  refine lv_ldiv M.x M.b d_M_wage_103 c19 ?_
  refine z_lcmp_le (tgt := 112) M d_M_wage_104 d_M_wage_105 (by decide) (fun c18 => ?_) (fun c18 => ?_)
  · replace hf := z_t c18 hf
    refine lv_aload_n M.x M.b d_M_wage_112 rfl (lv_at hl 1 rfl) ?_
    replace hf := z_bind hf; obtain ⟨i3, e4, hf⟩ := hf
    refine z_get (ci := 8) (k := 16) M hH rfl (by decide) zinM q_669 (gI_spec e4) d_M_wage_113 ?_
    refine lv_if_eq (tgt := 137) M.x M.b d_M_wage_116 (by decide) (fun c17 => ?_) (fun c17 => ?_)
    · replace hf := z_t c17 hf
      refine lv_lload M.x M.b d_M_wage_137 (lv_at hl 0 rfl) ?_
      refine lv_aload_n M.x M.b d_M_wage_139 rfl (lv_at hl 1 rfl) ?_
      replace hf := z_bind hf; obtain ⟨l5, e6, hf⟩ := hf
      refine z_get (ci := 8) (k := 14) M hH rfl (by decide) zinM q_668 (gL_spec e6) d_M_wage_140 ?_
      refine lv_lmul M.x M.b d_M_wage_143 ?_
      refine lv_aload_n M.x M.b d_M_wage_144 rfl (lv_at hl 1 rfl) ?_
      replace hf := z_bind hf; obtain ⟨l7, e8, hf⟩ := hf
      refine z_get (ci := 8) (k := 15) M hH rfl (by decide) zinM q_667 (gL_spec e8) d_M_wage_145 ?_
      replace hf := z_gn hf; obtain ⟨c9, hf⟩ := hf
      refine lv_ldiv M.x M.b d_M_wage_148 c9 ?_
      obtain ⟨rfl, rfl⟩ := z_r2 hf
      exact z_lret M hH hS d_M_wage_149
    · replace hf := z_f c17 hf
      refine lv_lload M.x M.b d_M_wage_119 (lv_at hl 0 rfl) ?_
      refine lv_aload_n M.x M.b d_M_wage_121 rfl (lv_at hl 1 rfl) ?_
      replace hf := z_bind hf; obtain ⟨l10, e11, hf⟩ := hf
      refine z_get (ci := 8) (k := 14) M hH rfl (by decide) zinM q_668 (gL_spec e11) d_M_wage_122 ?_
      refine lv_lmul M.x M.b d_M_wage_125 ?_
      refine lv_aload_n M.x M.b d_M_wage_126 rfl (lv_at hl 1 rfl) ?_
      replace hf := z_bind hf; obtain ⟨l12, e13, hf⟩ := hf
      refine z_get (ci := 8) (k := 15) M hH rfl (by decide) zinM q_667 (gL_spec e13) d_M_wage_127 ?_
      replace hf := z_gn hf; obtain ⟨c16, hf⟩ := hf
      refine lv_ldiv M.x M.b d_M_wage_130 c16 ?_
      replace hf := z_bind hf; obtain ⟨l15, e14, hf⟩ := hf
      refine zk_S (st1 := [.long l15]) M hH hS (c_M_rootOf e14) w_M_rootOf q_872 [] rfl ⟨Nat.le_of_ble_eq_true rfl, Nat.le_of_ble_eq_true rfl⟩ hl.1 rfl rfl (Nat.le_of_ble_eq_true rfl) d_M_wage_131 (fun H locs hH hS => ?_)
      refine lv_goto (tgt := 149) M.x M.b d_M_wage_134 (by decide) ?_
      obtain ⟨rfl, rfl⟩ := z_r2 hf
      exact z_lret M hH hS d_M_wage_149
  · replace hf := z_f c18 hf
    refine z_ldc2 (v := (-1005 : Int64)) M q_873 d_M_wage_108 ?_
    obtain ⟨rfl, rfl⟩ := z_r2 hf
    exact z_lret M hH hS d_M_wage_111
def f_M_wage (this : Nat) (x1 : Int32) (x2 : Int32) (x3 : Int32) (x4 : Int32) (x5 : Int32) (h : Hp) : Option ((Int64 × Hp)) :=
  if isO h this 8 = true then
  (f_M_isNumber this h x1).bind fun i21 =>
  if i21 = 0 then
    some ((-1001 : Int64), h)
  else
  (f_M_isWho x2).bind fun i23 =>
  if i23 = 0 then
    some ((-1001 : Int64), h)
  else
  (f_M_isYear x4).bind fun i25 =>
  if i25 = 0 then
    some ((-1001 : Int64), h)
  else
  (f_M_isYear x5).bind fun i27 =>
  if i27 = 0 then
    some ((-1001 : Int64), h)
  else
  (f_M_in (x3).toInt64 (1 : Int64) (99999 : Int64)).bind fun i29 =>
  if i29 = 0 then
    some ((-1002 : Int64), h)
  else
  zb2 (f_M_find this ((40 : Int32) * x1) x2 x4 x5 h) fun i31 h32 =>
  if 0 ≤ i31 then
    (gI h32 this 8 16).bind fun i33 =>
    if i33 = 0 then
      f_M_wage_92 this (x3).toInt64 h32
    else
    f_M_wage_92 this ((x3).toInt64 * (x3).toInt64) h32
  else
  some ((i31).toInt64, h32)
  else none
theorem o_M_wage {this : Nat} {x1 : Int32} {x2 : Int32} {x3 : Int32} {x4 : Int32} {x5 : Int32} {h : Hp} {r0 : Int64} {h0 : Hp} (hf : f_M_wage this x1 x2 x3 x4 x5 h = some (r0, h0)) : isO h this 8 = true := by
  unfold f_M_wage at hf
  exact (z_gd hf).1
set_option maxRecDepth 100000 in
set_option maxHeartbeats 4000000 in
theorem c_M_wage {l : Launch} {N0 : Nat} {D : va_G} {cs : Nat → ClassId} {this : Nat} {x1 : Int32} {x2 : Int32} {x3 : Int32} {x4 : Int32} {x5 : Int32} {h : Hp} {r0 : Int64} {h0 : Hp} (hf : f_M_wage this x1 x2 x3 x4 x5 h = some (r0, h0)) : Fn l N0 D cs y_M_wage b_M_wage 9 (some .long) 8 0 0 [.ref this, .int x1, .int x2, .int x3, .int x4, .int x5] h (some (.long r0)) h0 := by
  refine z_start (by decide) (Nat.le_of_ble_eq_true rfl) ?_
  intro p e s m args below meth c M hH hS ls hl
  unfold f_M_wage at hf
  obtain ⟨hO, hf⟩ := z_gd hf
  have hl : lv_has ls 9 [(0, .ref this), (1, .int x1), (2, .int x2), (3, .int x3), (4, .int x4), (5, .int x5)] := hl
  obtain ⟨H, hHe⟩ : ∃ H, H = s.heap := ⟨_, rfl⟩
  obtain ⟨locs, hLe⟩ : ∃ locs : List Loc, locs = [] := ⟨_, rfl⟩
  have hS : va_S (zA N0) s.heap H locs := by rw [hHe, hLe]; exact hS
  have hH : HH N0 D cs h H := by rw [hHe]; exact hH
  suffices hg : W p l e (zrm 8 0 0) s m args below meth c H locs 0 0 (MQ below (zQ N0 D cs (some (.long r0)) h0) args s 0 0 (zA N0)) (F0 m 0 ls []) by rw [hHe, hLe] at hg; exact hg
  clear hHe hLe
  refine lv_aload_n M.x M.b d_M_wage_0 rfl (lv_at hl 0 rfl) ?_
  refine lv_iload_n M.x M.b d_M_wage_1 rfl (lv_at hl 1 rfl) ?_
  replace hf := z_bind hf; obtain ⟨i21, e20, hf⟩ := hf
  refine zk_V (ci := 8) (st1 := [.int i21]) M hH hS (c_M_isNumber e20) rfl (o_M_isNumber e20) w_M_isNumber q_742 [] rfl ⟨Nat.le_of_ble_eq_true rfl, Nat.le_of_ble_eq_true rfl⟩ hl.1 rfl rfl (Nat.le_of_ble_eq_true rfl) d_M_wage_2 (fun H locs hH hS => ?_)
  refine lv_if_eq (tgt := 31) M.x M.b d_M_wage_5 (by decide) (fun c41 => ?_) (fun c41 => ?_)
  · replace hf := z_t c41 hf
    refine z_ldc2 (v := (-1001 : Int64)) M q_739 d_M_wage_31 ?_
    obtain ⟨rfl, rfl⟩ := z_r2 hf
    exact z_lret M hH hS d_M_wage_34
  · replace hf := z_f c41 hf
    refine lv_iload_n M.x M.b d_M_wage_8 rfl (lv_at hl 2 rfl) ?_
    replace hf := z_bind hf; obtain ⟨i23, e22, hf⟩ := hf
    refine zk_S (st1 := [.int i23]) M hH hS (c_M_isWho e22) w_M_isWho q_582 [] rfl ⟨Nat.le_of_ble_eq_true rfl, Nat.le_of_ble_eq_true rfl⟩ hl.1 rfl rfl (Nat.le_of_ble_eq_true rfl) d_M_wage_9 (fun H locs hH hS => ?_)
    refine lv_if_eq (tgt := 31) M.x M.b d_M_wage_12 (by decide) (fun c40 => ?_) (fun c40 => ?_)
    · replace hf := z_t c40 hf
      refine z_ldc2 (v := (-1001 : Int64)) M q_739 d_M_wage_31 ?_
      obtain ⟨rfl, rfl⟩ := z_r2 hf
      exact z_lret M hH hS d_M_wage_34
    · replace hf := z_f c40 hf
      refine lv_iload M.x M.b d_M_wage_15 (lv_at hl 4 rfl) ?_
      replace hf := z_bind hf; obtain ⟨i25, e24, hf⟩ := hf
      refine zk_S (st1 := [.int i25]) M hH hS (c_M_isYear e24) w_M_isYear q_564 [] rfl ⟨Nat.le_of_ble_eq_true rfl, Nat.le_of_ble_eq_true rfl⟩ hl.1 rfl rfl (Nat.le_of_ble_eq_true rfl) d_M_wage_17 (fun H locs hH hS => ?_)
      refine lv_if_eq (tgt := 31) M.x M.b d_M_wage_20 (by decide) (fun c39 => ?_) (fun c39 => ?_)
      · replace hf := z_t c39 hf
        refine z_ldc2 (v := (-1001 : Int64)) M q_739 d_M_wage_31 ?_
        obtain ⟨rfl, rfl⟩ := z_r2 hf
        exact z_lret M hH hS d_M_wage_34
      · replace hf := z_f c39 hf
        refine lv_iload M.x M.b d_M_wage_23 (lv_at hl 5 rfl) ?_
        replace hf := z_bind hf; obtain ⟨i27, e26, hf⟩ := hf
        refine zk_S (st1 := [.int i27]) M hH hS (c_M_isYear e26) w_M_isYear q_564 [] rfl ⟨Nat.le_of_ble_eq_true rfl, Nat.le_of_ble_eq_true rfl⟩ hl.1 rfl rfl (Nat.le_of_ble_eq_true rfl) d_M_wage_25 (fun H locs hH hS => ?_)
        refine lv_if_ne (tgt := 35) M.x M.b d_M_wage_28 (by decide) (fun c38 => ?_) (fun c38 => ?_)
        · replace hf := z_f c38 hf
          refine lv_iload_n M.x M.b d_M_wage_35 rfl (lv_at hl 3 rfl) ?_
          refine lv_i2l M.x M.b d_M_wage_36 rfl ?_
          refine lv_lconst (v := (1 : Int64)) M.x M.b d_M_wage_37 rfl ?_
          refine z_ldc2 (v := (99999 : Int64)) M q_874 d_M_wage_38 ?_
          replace hf := z_bind hf; obtain ⟨i29, e28, hf⟩ := hf
          refine zk_S (st1 := [.int i29]) M hH hS (c_M_in e28) w_M_in q_551 [] rfl ⟨Nat.le_of_ble_eq_true rfl, Nat.le_of_ble_eq_true rfl⟩ hl.1 rfl rfl (Nat.le_of_ble_eq_true rfl) d_M_wage_41 (fun H locs hH hS => ?_)
          refine lv_if_ne (tgt := 51) M.x M.b d_M_wage_44 (by decide) (fun c37 => ?_) (fun c37 => ?_)
          · replace hf := z_f c37 hf
            refine lv_aload_n M.x M.b d_M_wage_51 rfl (lv_at hl 0 rfl) ?_
            refine lv_bipush (v := (40 : Int32)) M.x M.b d_M_wage_52 rfl ?_
            refine lv_iload_n M.x M.b d_M_wage_54 rfl (lv_at hl 1 rfl) ?_
            refine lv_imul M.x M.b d_M_wage_55 ?_
            refine lv_iload_n M.x M.b d_M_wage_56 rfl (lv_at hl 2 rfl) ?_
            refine lv_iload M.x M.b d_M_wage_57 (lv_at hl 4 rfl) ?_
            refine lv_iload M.x M.b d_M_wage_59 (lv_at hl 5 rfl) ?_
            replace hf := z_bind2 hf; obtain ⟨i31, h32, e30, hf⟩ := hf
            refine zk_V (ci := 8) (st1 := [.int i31]) M hH hS (c_M_find e30) rfl (o_M_find e30) w_M_find q_740 [] rfl ⟨Nat.le_of_ble_eq_true rfl, Nat.le_of_ble_eq_true rfl⟩ hl.1 rfl rfl (Nat.le_of_ble_eq_true rfl) d_M_wage_61 (fun H locs hH hS => ?_)
            refine lv_istore (lv' := [(6, .int i31), (0, .ref this), (1, .int x1), (2, .int x2), (3, .int x3), (4, .int x4), (5, .int x5)]) M.x M.b d_M_wage_64 hl (by decide) rfl (fun ls hl => ?_)
            refine lv_iload M.x M.b d_M_wage_66 (lv_at hl 0 rfl) ?_
            refine lv_if_ge (tgt := 75) M.x M.b d_M_wage_68 (by decide) (fun c36 => ?_) (fun c36 => ?_)
            · replace hf := z_t c36 hf
              refine lv_aload_n M.x M.b d_M_wage_75 rfl (lv_at hl 1 rfl) ?_
              replace hf := z_bind hf; obtain ⟨i33, e34, hf⟩ := hf
              refine z_get (ci := 8) (k := 16) M hH rfl (by decide) zinM q_669 (gI_spec e34) d_M_wage_76 ?_
              refine lv_if_eq (tgt := 90) M.x M.b d_M_wage_79 (by decide) (fun c35 => ?_) (fun c35 => ?_)
              · replace hf := z_t c35 hf
                refine lv_iload_n M.x M.b d_M_wage_90 rfl (lv_at hl 4 rfl) ?_
                refine lv_i2l M.x M.b d_M_wage_91 rfl ?_
                exact w_M_wage_92 M this _ _ hf H locs ls hH hS (lv_sub hl [1] rfl)
              · replace hf := z_f c35 hf
                refine lv_iload_n M.x M.b d_M_wage_82 rfl (lv_at hl 4 rfl) ?_
                refine lv_i2l M.x M.b d_M_wage_83 rfl ?_
                refine lv_iload_n M.x M.b d_M_wage_84 rfl (lv_at hl 4 rfl) ?_
                refine lv_i2l M.x M.b d_M_wage_85 rfl ?_
                refine lv_lmul M.x M.b d_M_wage_86 ?_
                refine lv_goto (tgt := 92) M.x M.b d_M_wage_87 (by decide) ?_
                exact w_M_wage_92 M this _ _ hf H locs ls hH hS (lv_sub hl [1] rfl)
            · replace hf := z_f c36 hf
              refine lv_iload M.x M.b d_M_wage_71 (lv_at hl 0 rfl) ?_
              refine lv_i2l M.x M.b d_M_wage_73 rfl ?_
              obtain ⟨rfl, rfl⟩ := z_r2 hf
              exact z_lret M hH hS d_M_wage_74
          · replace hf := z_t c37 hf
            refine z_ldc2 (v := (-1002 : Int64)) M q_741 d_M_wage_47 ?_
            obtain ⟨rfl, rfl⟩ := z_r2 hf
            exact z_lret M hH hS d_M_wage_50
        · replace hf := z_t c38 hf
          refine z_ldc2 (v := (-1001 : Int64)) M q_739 d_M_wage_31 ?_
          obtain ⟨rfl, rfl⟩ := z_r2 hf
          exact z_lret M hH hS d_M_wage_34
def f_M_dearest_129 (this : Nat) (k32 : Int32 → Int32 → Int32 → Int32 → Int32 → Hp → Option ((Int32 × Hp))) (x1 : Int32) (x2 : Int32) (x3 : Int32) (x4 : Int32) (x5 : Int32) (h : Hp) : Option ((Int32 × Hp)) :=
  k32 x1 x2 x3 x4 (x5 + (1 : Int32)) h
set_option maxRecDepth 100000 in
set_option maxHeartbeats 4000000 in
theorem w_M_dearest_129 {p : Program} {l : Launch} {e : Env} {s : State} {m : MethodId} {args : Array Value} {below : List Frame} {meth : Method} {c : Code} {N0 : Nat} {D : va_G} {cs : Nat → ClassId} (M : ZC p s m args meth c "YearBasketsModel" "dearest" b_M_dearest 7 (some .int) N0 D cs) (this : Nat) (k32 : Int32 → Int32 → Int32 → Int32 → Int32 → Hp → Option ((Int32 × Hp))) {r0 : Int32} {h0 : Hp} (hk32 : ∀ (x1 : Int32) (x2 : Int32) (x3 : Int32) (x4 : Int32) (x5 : Int32) (h : Hp), k32 x1 x2 x3 x4 x5 h = some (r0, h0) → ZG p l e (zrm 9 0 0) s m args below meth c N0 D cs (some (.int r0)) h0 h 7 [(0, .ref this), (1, .int x1), (2, .int x2), (3, .int x3), (4, .int x4), (5, .int x5)] 32 []) (x1 : Int32) (x2 : Int32) (x3 : Int32) (x4 : Int32) (x5 : Int32) (h : Hp) (hf : f_M_dearest_129 this k32 x1 x2 x3 x4 x5 h = some (r0, h0)) : ZG p l e (zrm 9 0 0) s m args below meth c N0 D cs (some (.int r0)) h0 h 7 [(0, .ref this), (1, .int x1), (2, .int x2), (3, .int x3), (4, .int x4), (5, .int x5)] 129 [] := by
  intro H locs ls hH hS hl
  unfold f_M_dearest_129 at hf
  refine lv_iinc (v := (x5 + (1 : Int32))) (lv' := [(5, .int (x5 + (1 : Int32))), (0, .ref this), (1, .int x1), (2, .int x2), (3, .int x3), (4, .int x4)]) M.x M.b d_M_dearest_129 hl (k := 5) rfl rfl (by decide) rfl (fun ls hl => ?_)
  refine lv_goto (tgt := 32) M.x M.b d_M_dearest_132 (by decide) ?_
  exact hk32 _ _ _ _ _ _ hf H locs ls hH hS (lv_sub hl [1, 2, 3, 4, 5, 0] rfl)
def f_M_dearest_89 (this : Nat) (k32 : Int32 → Int32 → Int32 → Int32 → Int32 → Hp → Option ((Int32 × Hp))) (x1 : Int32) (x2 : Int32) (x3 : Int32) (x5 : Int32) (h : Hp) : Option ((Int32 × Hp)) :=
  (gA h this 8 28).bind fun r1 =>
  (gA h this 8 28).bind fun r3 =>
  (r3).bind fun a5 =>
  (aL h a5 (1 : Int32)).bind fun l8 =>
  (r1).bind fun a9 =>
  (sL h a9 (0 : Int32) l8).bind fun h12 =>
  (gA h12 this 8 29).bind fun r13 =>
  (gA h12 this 8 29).bind fun r15 =>
  (r15).bind fun a17 =>
  (aL h12 a17 (1 : Int32)).bind fun l20 =>
  (r13).bind fun a21 =>
  (sL h12 a21 (0 : Int32) l20).bind fun h24 =>
  (gA h24 this 8 30).bind fun r25 =>
  (gA h24 this 8 30).bind fun r27 =>
  (r27).bind fun a29 =>
  (aI h24 2 a29 (1 : Int32)).bind fun i32 =>
  (r25).bind fun a33 =>
  (sZ h24 a33 (0 : Int32) i32).bind fun h36 =>
  f_M_dearest_129 this k32 x1 x2 x3 x5 x5 h36
set_option maxRecDepth 100000 in
set_option maxHeartbeats 4000000 in
theorem w_M_dearest_89 {p : Program} {l : Launch} {e : Env} {s : State} {m : MethodId} {args : Array Value} {below : List Frame} {meth : Method} {c : Code} {N0 : Nat} {D : va_G} {cs : Nat → ClassId} (M : ZC p s m args meth c "YearBasketsModel" "dearest" b_M_dearest 7 (some .int) N0 D cs) (this : Nat) (k32 : Int32 → Int32 → Int32 → Int32 → Int32 → Hp → Option ((Int32 × Hp))) {r0 : Int32} {h0 : Hp} (hk32 : ∀ (x1 : Int32) (x2 : Int32) (x3 : Int32) (x4 : Int32) (x5 : Int32) (h : Hp), k32 x1 x2 x3 x4 x5 h = some (r0, h0) → ZG p l e (zrm 9 0 0) s m args below meth c N0 D cs (some (.int r0)) h0 h 7 [(0, .ref this), (1, .int x1), (2, .int x2), (3, .int x3), (4, .int x4), (5, .int x5)] 32 []) (x1 : Int32) (x2 : Int32) (x3 : Int32) (x5 : Int32) (h : Hp) (hf : f_M_dearest_89 this k32 x1 x2 x3 x5 h = some (r0, h0)) : ZG p l e (zrm 9 0 0) s m args below meth c N0 D cs (some (.int r0)) h0 h 7 [(0, .ref this), (1, .int x1), (2, .int x2), (3, .int x3), (5, .int x5)] 89 [] := by
  intro H locs ls hH hS hl
  unfold f_M_dearest_89 at hf
  refine lv_iload M.x M.b d_M_dearest_89 (lv_at hl 4 rfl) ?_
  refine lv_istore (lv' := [(4, .int x5), (0, .ref this), (1, .int x1), (2, .int x2), (3, .int x3), (5, .int x5)]) M.x M.b d_M_dearest_91 hl (by decide) rfl (fun ls hl => ?_)
  refine lv_aload_n M.x M.b d_M_dearest_93 rfl (lv_at hl 1 rfl) ?_
  replace hf := z_bind hf; obtain ⟨r1, e2, hf⟩ := hf
  refine z_get (ci := 8) (k := 28) M hH rfl (by decide) zinM q_748 (gA_spec e2) d_M_dearest_94 ?_
  refine lv_iconst (v := (0 : Int32)) M.x M.b d_M_dearest_97 rfl ?_
  refine lv_aload_n M.x M.b d_M_dearest_98 rfl (lv_at hl 1 rfl) ?_
  replace hf := z_bind hf; obtain ⟨r3, e4, hf⟩ := hf
  refine z_get (ci := 8) (k := 28) M hH rfl (by decide) zinM q_748 (gA_spec e4) d_M_dearest_99 ?_
  refine lv_iconst (v := (1 : Int32)) M.x M.b d_M_dearest_102 rfl ?_
  rcases r3 with _ | a5
  · exact absurd hf z_nb0
  replace hf := z_sb hf
  replace hf := z_bind hf; obtain ⟨l8, e7, hf⟩ := hf
  refine z_lald M hH e7 d_M_dearest_103 ?_
  rcases r1 with _ | a9
  · exact absurd hf z_nb0
  replace hf := z_sb hf
  replace hf := z_bind hf; obtain ⟨h12, e11, hf⟩ := hf
  refine z_last M hH hS e11 d_M_dearest_104 (fun H locs hH hS => ?_)
  refine lv_aload_n M.x M.b d_M_dearest_105 rfl (lv_at hl 1 rfl) ?_
  replace hf := z_bind hf; obtain ⟨r13, e14, hf⟩ := hf
  refine z_get (ci := 8) (k := 29) M hH rfl (by decide) zinM q_747 (gA_spec e14) d_M_dearest_106 ?_
  refine lv_iconst (v := (0 : Int32)) M.x M.b d_M_dearest_109 rfl ?_
  refine lv_aload_n M.x M.b d_M_dearest_110 rfl (lv_at hl 1 rfl) ?_
  replace hf := z_bind hf; obtain ⟨r15, e16, hf⟩ := hf
  refine z_get (ci := 8) (k := 29) M hH rfl (by decide) zinM q_747 (gA_spec e16) d_M_dearest_111 ?_
  refine lv_iconst (v := (1 : Int32)) M.x M.b d_M_dearest_114 rfl ?_
  rcases r15 with _ | a17
  · exact absurd hf z_nb0
  replace hf := z_sb hf
  replace hf := z_bind hf; obtain ⟨l20, e19, hf⟩ := hf
  refine z_lald M hH e19 d_M_dearest_115 ?_
  rcases r13 with _ | a21
  · exact absurd hf z_nb0
  replace hf := z_sb hf
  replace hf := z_bind hf; obtain ⟨h24, e23, hf⟩ := hf
  refine z_last M hH hS e23 d_M_dearest_116 (fun H locs hH hS => ?_)
  refine lv_aload_n M.x M.b d_M_dearest_117 rfl (lv_at hl 1 rfl) ?_
  replace hf := z_bind hf; obtain ⟨r25, e26, hf⟩ := hf
  refine z_get (ci := 8) (k := 30) M hH rfl (by decide) zinM q_746 (gA_spec e26) d_M_dearest_118 ?_
  refine lv_iconst (v := (0 : Int32)) M.x M.b d_M_dearest_121 rfl ?_
  refine lv_aload_n M.x M.b d_M_dearest_122 rfl (lv_at hl 1 rfl) ?_
  replace hf := z_bind hf; obtain ⟨r27, e28, hf⟩ := hf
  refine z_get (ci := 8) (k := 30) M hH rfl (by decide) zinM q_746 (gA_spec e28) d_M_dearest_123 ?_
  refine lv_iconst (v := (1 : Int32)) M.x M.b d_M_dearest_126 rfl ?_
  rcases r27 with _ | a29
  · exact absurd hf z_nb0
  replace hf := z_sb hf
  replace hf := z_bind hf; obtain ⟨i32, e31, hf⟩ := hf
  refine z_zald M hH e31 d_M_dearest_127 ?_
  rcases r25 with _ | a33
  · exact absurd hf z_nb0
  replace hf := z_sb hf
  replace hf := z_bind hf; obtain ⟨h36, e35, hf⟩ := hf
  refine z_zast M hH hS e35 d_M_dearest_128 (fun H locs hH hS => ?_)
  exact w_M_dearest_129 M this k32 hk32 _ _ _ _ _ _ hf H locs ls hH hS (lv_sub hl [1, 2, 3, 4, 0, 5] rfl)
def f_M_dearest_70 (this : Nat) (k32 : Int32 → Int32 → Int32 → Int32 → Int32 → Hp → Option ((Int32 × Hp))) (s0 : Int32) (x1 : Int32) (x2 : Int32) (x3 : Int32) (x4 : Int32) (x5 : Int32) (h : Hp) : Option ((Int32 × Hp)) :=
  if s0 = 0 then
    if x4 < 0 then
      f_M_dearest_89 this k32 x1 x2 x3 x5 h
    else
    (gI h this 8 17).bind fun i37 =>
    if i37 ≤ 0 then
      f_M_dearest_129 this k32 x1 x2 x3 x4 x5 h
    else
    f_M_dearest_89 this k32 x1 x2 x3 x5 h
  else
  f_M_dearest_129 this k32 x1 x2 x3 x4 x5 h
set_option maxRecDepth 100000 in
set_option maxHeartbeats 4000000 in
theorem w_M_dearest_70 {p : Program} {l : Launch} {e : Env} {s : State} {m : MethodId} {args : Array Value} {below : List Frame} {meth : Method} {c : Code} {N0 : Nat} {D : va_G} {cs : Nat → ClassId} (M : ZC p s m args meth c "YearBasketsModel" "dearest" b_M_dearest 7 (some .int) N0 D cs) (this : Nat) (k32 : Int32 → Int32 → Int32 → Int32 → Int32 → Hp → Option ((Int32 × Hp))) {r0 : Int32} {h0 : Hp} (hk32 : ∀ (x1 : Int32) (x2 : Int32) (x3 : Int32) (x4 : Int32) (x5 : Int32) (h : Hp), k32 x1 x2 x3 x4 x5 h = some (r0, h0) → ZG p l e (zrm 9 0 0) s m args below meth c N0 D cs (some (.int r0)) h0 h 7 [(0, .ref this), (1, .int x1), (2, .int x2), (3, .int x3), (4, .int x4), (5, .int x5)] 32 []) (s0 : Int32) (x1 : Int32) (x2 : Int32) (x3 : Int32) (x4 : Int32) (x5 : Int32) (h : Hp) (hf : f_M_dearest_70 this k32 s0 x1 x2 x3 x4 x5 h = some (r0, h0)) : ZG p l e (zrm 9 0 0) s m args below meth c N0 D cs (some (.int r0)) h0 h 7 [(0, .ref this), (1, .int x1), (2, .int x2), (3, .int x3), (4, .int x4), (5, .int x5)] 70 [.int s0] := by
  intro H locs ls hH hS hl
  unfold f_M_dearest_70 at hf
  refine lv_istore (lv' := [(6, .int s0), (0, .ref this), (1, .int x1), (2, .int x2), (3, .int x3), (4, .int x4), (5, .int x5)]) M.x M.b d_M_dearest_70 hl (by decide) rfl (fun ls hl => ?_)
  refine lv_iload M.x M.b d_M_dearest_72 (lv_at hl 0 rfl) ?_
  refine lv_if_ne (tgt := 129) M.x M.b d_M_dearest_74 (by decide) (fun c41 => ?_) (fun c41 => ?_)
  · replace hf := z_f c41 hf
    exact w_M_dearest_129 M this k32 hk32 _ _ _ _ _ _ hf H locs ls hH hS (lv_sub hl [1, 2, 3, 4, 5, 6] rfl)
  · replace hf := z_t c41 hf
    refine lv_iload M.x M.b d_M_dearest_77 (lv_at hl 5 rfl) ?_
    refine lv_if_lt (tgt := 89) M.x M.b d_M_dearest_79 (by decide) (fun c40 => ?_) (fun c40 => ?_)
    · replace hf := z_t c40 hf
      exact w_M_dearest_89 M this k32 hk32 _ _ _ _ _ hf H locs ls hH hS (lv_sub hl [1, 2, 3, 4, 6] rfl)
    · replace hf := z_f c40 hf
      refine lv_aload_n M.x M.b d_M_dearest_82 rfl (lv_at hl 1 rfl) ?_
      replace hf := z_bind hf; obtain ⟨i37, e38, hf⟩ := hf
      refine z_get (ci := 8) (k := 17) M hH rfl (by decide) zinM q_680 (gI_spec e38) d_M_dearest_83 ?_
      refine lv_if_le (tgt := 129) M.x M.b d_M_dearest_86 (by decide) (fun c39 => ?_) (fun c39 => ?_)
      · replace hf := z_t c39 hf
        exact w_M_dearest_129 M this k32 hk32 _ _ _ _ _ _ hf H locs ls hH hS (lv_sub hl [1, 2, 3, 4, 5, 6] rfl)
      · replace hf := z_f c39 hf
        exact w_M_dearest_89 M this k32 hk32 _ _ _ _ _ hf H locs ls hH hS (lv_sub hl [1, 2, 3, 4, 6] rfl)
def t_M_dearest_32 (this : Nat) (k32 : Int32 → Int32 → Int32 → Int32 → Int32 → Hp → Option ((Int32 × Hp))) (x1 : Int32) (x2 : Int32) (x3 : Int32) (x4 : Int32) (x5 : Int32) (h : Hp) : Option ((Int32 × Hp)) :=
  if (3 : Int32) ≤ x5 then
    some (x4, h)
  else
  zb2 (f_M_findKept this x1 x5 x2 x3 (1 : Int32) h) fun i43 h44 =>
  if i43 = 0 then
    if 0 ≤ x4 then
      zb2 (f_M_orderKept this (1 : Int32) (0 : Int32) h44) fun i46 h47 =>
      f_M_dearest_70 this k32 i46 x1 x2 x3 x4 x5 h47
    else
    f_M_dearest_70 this k32 (0 : Int32) x1 x2 x3 x4 x5 h44
  else
  f_M_dearest_129 this k32 x1 x2 x3 x4 x5 h44
set_option maxRecDepth 100000 in
set_option maxHeartbeats 4000000 in
theorem v_M_dearest_32 {p : Program} {l : Launch} {e : Env} {s : State} {m : MethodId} {args : Array Value} {below : List Frame} {meth : Method} {c : Code} {N0 : Nat} {D : va_G} {cs : Nat → ClassId} (M : ZC p s m args meth c "YearBasketsModel" "dearest" b_M_dearest 7 (some .int) N0 D cs) (this : Nat) (k32 : Int32 → Int32 → Int32 → Int32 → Int32 → Hp → Option ((Int32 × Hp))) {r0 : Int32} {h0 : Hp} (hk32 : ∀ (x1 : Int32) (x2 : Int32) (x3 : Int32) (x4 : Int32) (x5 : Int32) (h : Hp), k32 x1 x2 x3 x4 x5 h = some (r0, h0) → ZG p l e (zrm 9 0 0) s m args below meth c N0 D cs (some (.int r0)) h0 h 7 [(0, .ref this), (1, .int x1), (2, .int x2), (3, .int x3), (4, .int x4), (5, .int x5)] 32 []) (x1 : Int32) (x2 : Int32) (x3 : Int32) (x4 : Int32) (x5 : Int32) (h : Hp) (hf : t_M_dearest_32 this k32 x1 x2 x3 x4 x5 h = some (r0, h0)) : ZG p l e (zrm 9 0 0) s m args below meth c N0 D cs (some (.int r0)) h0 h 7 [(0, .ref this), (1, .int x1), (2, .int x2), (3, .int x3), (4, .int x4), (5, .int x5)] 32 [] := by
  intro H locs ls hH hS hl
  unfold t_M_dearest_32 at hf
  refine lv_iload M.x M.b d_M_dearest_32 (lv_at hl 5 rfl) ?_
  refine lv_iconst (v := (3 : Int32)) M.x M.b d_M_dearest_34 rfl ?_
  refine lv_icmp_ge (tgt := 135) M.x M.b d_M_dearest_35 (by decide) (fun c50 => ?_) (fun c50 => ?_)
  · replace hf := z_t c50 hf
    refine lv_iload M.x M.b d_M_dearest_135 (lv_at hl 4 rfl) ?_
    obtain ⟨rfl, rfl⟩ := z_r2 hf
    exact z_iret M hH hS d_M_dearest_137
  · replace hf := z_f c50 hf
    refine lv_aload_n M.x M.b d_M_dearest_38 rfl (lv_at hl 0 rfl) ?_
    refine lv_iload_n M.x M.b d_M_dearest_39 rfl (lv_at hl 1 rfl) ?_
    refine lv_iload M.x M.b d_M_dearest_40 (lv_at hl 5 rfl) ?_
    refine lv_iload_n M.x M.b d_M_dearest_42 rfl (lv_at hl 2 rfl) ?_
    refine lv_iload_n M.x M.b d_M_dearest_43 rfl (lv_at hl 3 rfl) ?_
    refine lv_iconst (v := (1 : Int32)) M.x M.b d_M_dearest_44 rfl ?_
    replace hf := z_bind2 hf; obtain ⟨i43, h44, e42, hf⟩ := hf
    refine zk_V (ci := 8) (st1 := [.int i43]) M hH hS (c_M_findKept e42) rfl (o_M_findKept e42) w_M_findKept q_760 [] rfl ⟨Nat.le_of_ble_eq_true rfl, Nat.le_of_ble_eq_true rfl⟩ hl.1 rfl rfl (Nat.le_of_ble_eq_true rfl) d_M_dearest_45 (fun H locs hH hS => ?_)
    refine lv_istore (lv' := [(6, .int i43), (0, .ref this), (1, .int x1), (2, .int x2), (3, .int x3), (4, .int x4), (5, .int x5)]) M.x M.b d_M_dearest_48 hl (by decide) rfl (fun ls hl => ?_)
    refine lv_iload M.x M.b d_M_dearest_50 (lv_at hl 0 rfl) ?_
    refine lv_if_ne (tgt := 129) M.x M.b d_M_dearest_52 (by decide) (fun c49 => ?_) (fun c49 => ?_)
    · replace hf := z_f c49 hf
      exact w_M_dearest_129 M this k32 hk32 _ _ _ _ _ _ hf H locs ls hH hS (lv_sub hl [1, 2, 3, 4, 5, 6] rfl)
    · replace hf := z_t c49 hf
      refine lv_iload M.x M.b d_M_dearest_55 (lv_at hl 5 rfl) ?_
      refine lv_if_ge (tgt := 64) M.x M.b d_M_dearest_57 (by decide) (fun c48 => ?_) (fun c48 => ?_)
      · replace hf := z_t c48 hf
        refine lv_aload_n M.x M.b d_M_dearest_64 rfl (lv_at hl 1 rfl) ?_
        refine lv_iconst (v := (1 : Int32)) M.x M.b d_M_dearest_65 rfl ?_
        refine lv_iconst (v := (0 : Int32)) M.x M.b d_M_dearest_66 rfl ?_
        replace hf := z_bind2 hf; obtain ⟨i46, h47, e45, hf⟩ := hf
        refine zk_V (ci := 8) (st1 := [.int i46]) M hH hS (c_M_orderKept e45) rfl (o_M_orderKept e45) w_M_orderKept q_759 [] rfl ⟨Nat.le_of_ble_eq_true rfl, Nat.le_of_ble_eq_true rfl⟩ hl.1 rfl rfl (Nat.le_of_ble_eq_true rfl) d_M_dearest_67 (fun H locs hH hS => ?_)
        exact w_M_dearest_70 M this k32 hk32 _ _ _ _ _ _ _ hf H locs ls hH hS (lv_sub hl [1, 2, 3, 4, 5, 6] rfl)
      · replace hf := z_f c48 hf
        refine lv_iconst (v := (0 : Int32)) M.x M.b d_M_dearest_60 rfl ?_
        refine lv_goto (tgt := 70) M.x M.b d_M_dearest_61 (by decide) ?_
        exact w_M_dearest_70 M this k32 hk32 _ _ _ _ _ _ _ hf H locs ls hH hS (lv_sub hl [1, 2, 3, 4, 5, 6] rfl)
def f_M_dearest_32 (this : Nat) : Nat → Int32 → Int32 → Int32 → Int32 → Int32 → Hp → Option ((Int32 × Hp))
  | 0, _, _, _, _, _, _ => none
  | n + 1, x1, x2, x3, x4, x5, h => t_M_dearest_32 this (f_M_dearest_32 this n) x1 x2 x3 x4 x5 h
theorem w_M_dearest_32 {p : Program} {l : Launch} {e : Env} {s : State} {m : MethodId} {args : Array Value} {below : List Frame} {meth : Method} {c : Code} {N0 : Nat} {D : va_G} {cs : Nat → ClassId} (M : ZC p s m args meth c "YearBasketsModel" "dearest" b_M_dearest 7 (some .int) N0 D cs) (this : Nat)  {r0 : Int32} {h0 : Hp}  : ∀ (n : Nat) (x1 : Int32) (x2 : Int32) (x3 : Int32) (x4 : Int32) (x5 : Int32) (h : Hp), f_M_dearest_32 this n x1 x2 x3 x4 x5 h = some (r0, h0) → ZG p l e (zrm 9 0 0) s m args below meth c N0 D cs (some (.int r0)) h0 h 7 [(0, .ref this), (1, .int x1), (2, .int x2), (3, .int x3), (4, .int x4), (5, .int x5)] 32 [] := by
  intro n
  induction n with
  | zero => intro x1 x2 x3 x4 x5 h hf; exact absurd (show none = some _ from hf) (fun q => by cases q)
  | succ n ih => intro x1 x2 x3 x4 x5 h hf; exact v_M_dearest_32 M this (f_M_dearest_32 this n)  ih _ _ _ _ _ _ hf
def f_M_dearest (this : Nat) (x1 : Int32) (x2 : Int32) (x3 : Int32) (h : Hp) : Option ((Int32 × Hp)) :=
  if isO h this 8 = true then
  (f_M_isNumber this h x1).bind fun i52 =>
  if i52 = 0 then
    some ((-1001 : Int32), h)
  else
  (f_M_isYear x2).bind fun i54 =>
  if i54 = 0 then
    some ((-1001 : Int32), h)
  else
  (f_M_isYear x3).bind fun i56 =>
  if i56 = 0 then
    some ((-1001 : Int32), h)
  else
  f_M_dearest_32 this FU x1 x2 x3 (-1 : Int32) (0 : Int32) h
  else none
theorem o_M_dearest {this : Nat} {x1 : Int32} {x2 : Int32} {x3 : Int32} {h : Hp} {r0 : Int32} {h0 : Hp} (hf : f_M_dearest this x1 x2 x3 h = some (r0, h0)) : isO h this 8 = true := by
  unfold f_M_dearest at hf
  exact (z_gd hf).1
set_option maxRecDepth 100000 in
set_option maxHeartbeats 4000000 in
theorem c_M_dearest {l : Launch} {N0 : Nat} {D : va_G} {cs : Nat → ClassId} {this : Nat} {x1 : Int32} {x2 : Int32} {x3 : Int32} {h : Hp} {r0 : Int32} {h0 : Hp} (hf : f_M_dearest this x1 x2 x3 h = some (r0, h0)) : Fn l N0 D cs y_M_dearest b_M_dearest 7 (some .int) 9 0 0 [.ref this, .int x1, .int x2, .int x3] h (some (.int r0)) h0 := by
  refine z_start (by decide) (Nat.le_of_ble_eq_true rfl) ?_
  intro p e s m args below meth c M hH hS ls hl
  unfold f_M_dearest at hf
  obtain ⟨hO, hf⟩ := z_gd hf
  have hl : lv_has ls 7 [(0, .ref this), (1, .int x1), (2, .int x2), (3, .int x3)] := hl
  obtain ⟨H, hHe⟩ : ∃ H, H = s.heap := ⟨_, rfl⟩
  obtain ⟨locs, hLe⟩ : ∃ locs : List Loc, locs = [] := ⟨_, rfl⟩
  have hS : va_S (zA N0) s.heap H locs := by rw [hHe, hLe]; exact hS
  have hH : HH N0 D cs h H := by rw [hHe]; exact hH
  suffices hg : W p l e (zrm 9 0 0) s m args below meth c H locs 0 0 (MQ below (zQ N0 D cs (some (.int r0)) h0) args s 0 0 (zA N0)) (F0 m 0 ls []) by rw [hHe, hLe] at hg; exact hg
  clear hHe hLe
  refine lv_aload_n M.x M.b d_M_dearest_0 rfl (lv_at hl 0 rfl) ?_
  refine lv_iload_n M.x M.b d_M_dearest_1 rfl (lv_at hl 1 rfl) ?_
  replace hf := z_bind hf; obtain ⟨i52, e51, hf⟩ := hf
  refine zk_V (ci := 8) (st1 := [.int i52]) M hH hS (c_M_isNumber e51) rfl (o_M_isNumber e51) w_M_isNumber q_742 [] rfl ⟨Nat.le_of_ble_eq_true rfl, Nat.le_of_ble_eq_true rfl⟩ hl.1 rfl rfl (Nat.le_of_ble_eq_true rfl) d_M_dearest_2 (fun H locs hH hS => ?_)
  refine lv_if_eq (tgt := 22) M.x M.b d_M_dearest_5 (by decide) (fun c59 => ?_) (fun c59 => ?_)
  · replace hf := z_t c59 hf
    refine lv_sipush (v := (-1001 : Int32)) M.x M.b d_M_dearest_22 rfl ?_
    obtain ⟨rfl, rfl⟩ := z_r2 hf
    exact z_iret M hH hS d_M_dearest_25
  · replace hf := z_f c59 hf
    refine lv_iload_n M.x M.b d_M_dearest_8 rfl (lv_at hl 2 rfl) ?_
    replace hf := z_bind hf; obtain ⟨i54, e53, hf⟩ := hf
    refine zk_S (st1 := [.int i54]) M hH hS (c_M_isYear e53) w_M_isYear q_564 [] rfl ⟨Nat.le_of_ble_eq_true rfl, Nat.le_of_ble_eq_true rfl⟩ hl.1 rfl rfl (Nat.le_of_ble_eq_true rfl) d_M_dearest_9 (fun H locs hH hS => ?_)
    refine lv_if_eq (tgt := 22) M.x M.b d_M_dearest_12 (by decide) (fun c58 => ?_) (fun c58 => ?_)
    · replace hf := z_t c58 hf
      refine lv_sipush (v := (-1001 : Int32)) M.x M.b d_M_dearest_22 rfl ?_
      obtain ⟨rfl, rfl⟩ := z_r2 hf
      exact z_iret M hH hS d_M_dearest_25
    · replace hf := z_f c58 hf
      refine lv_iload_n M.x M.b d_M_dearest_15 rfl (lv_at hl 3 rfl) ?_
      replace hf := z_bind hf; obtain ⟨i56, e55, hf⟩ := hf
      refine zk_S (st1 := [.int i56]) M hH hS (c_M_isYear e55) w_M_isYear q_564 [] rfl ⟨Nat.le_of_ble_eq_true rfl, Nat.le_of_ble_eq_true rfl⟩ hl.1 rfl rfl (Nat.le_of_ble_eq_true rfl) d_M_dearest_16 (fun H locs hH hS => ?_)
      refine lv_if_ne (tgt := 26) M.x M.b d_M_dearest_19 (by decide) (fun c57 => ?_) (fun c57 => ?_)
      · replace hf := z_f c57 hf
        refine lv_iconst (v := (-1 : Int32)) M.x M.b d_M_dearest_26 rfl ?_
        refine lv_istore (lv' := [(4, .int (-1 : Int32)), (0, .ref this), (1, .int x1), (2, .int x2), (3, .int x3)]) M.x M.b d_M_dearest_27 hl (by decide) rfl (fun ls hl => ?_)
        refine lv_iconst (v := (0 : Int32)) M.x M.b d_M_dearest_29 rfl ?_
        refine lv_istore (lv' := [(5, .int (0 : Int32)), (4, .int (-1 : Int32)), (0, .ref this), (1, .int x1), (2, .int x2), (3, .int x3)]) M.x M.b d_M_dearest_30 hl (by decide) rfl (fun ls hl => ?_)
        exact w_M_dearest_32 M this FU _ _ _ _ _ _ hf H locs ls hH hS (lv_sub hl [2, 3, 4, 5, 1, 0] rfl)
      · replace hf := z_t c57 hf
        refine lv_sipush (v := (-1001 : Int32)) M.x M.b d_M_dearest_22 rfl ?_
        obtain ⟨rfl, rfl⟩ := z_r2 hf
        exact z_iret M hH hS d_M_dearest_25
def f_M_turn_206 (this : Nat) (x5 : Int32) (x6 : Int32) (x9 : Int32) (x10 : Int32) (h : Hp) : Option ((Int32 × Hp)) :=
  (gA h this 8 0).bind fun r1 =>
  (r1).bind fun a3 =>
  (sI h a3 (((5 : Int32) * x5) + x6) x9).bind fun h6 =>
  some (x10, h6)
set_option maxRecDepth 100000 in
set_option maxHeartbeats 4000000 in
theorem w_M_turn_206 {p : Program} {l : Launch} {e : Env} {s : State} {m : MethodId} {args : Array Value} {below : List Frame} {meth : Method} {c : Code} {N0 : Nat} {D : va_G} {cs : Nat → ClassId} (M : ZC p s m args meth c "YearBasketsModel" "turn" b_M_turn 13 (some .int) N0 D cs) (this : Nat)  {r0 : Int32} {h0 : Hp}  (x5 : Int32) (x6 : Int32) (x9 : Int32) (x10 : Int32) (h : Hp) (hf : f_M_turn_206 this x5 x6 x9 x10 h = some (r0, h0)) : ZG p l e (zrm 9 0 0) s m args below meth c N0 D cs (some (.int r0)) h0 h 13 [(0, .ref this), (5, .int x5), (6, .int x6), (9, .int x9), (10, .int x10)] 206 [] := by
  intro H locs ls hH hS hl
  unfold f_M_turn_206 at hf
  refine lv_aload_n M.x M.b d_M_turn_206 rfl (lv_at hl 0 rfl) ?_
  replace hf := z_bind hf; obtain ⟨r1, e2, hf⟩ := hf
  refine z_get (ci := 8) (k := 0) M hH rfl (by decide) zinM q_562 (gA_spec e2) d_M_turn_207 ?_
  refine lv_iconst (v := (5 : Int32)) M.x M.b d_M_turn_210 rfl ?_
  refine lv_iload M.x M.b d_M_turn_211 (lv_at hl 1 rfl) ?_
  refine lv_imul M.x M.b d_M_turn_213 ?_
  refine lv_iload M.x M.b d_M_turn_214 (lv_at hl 2 rfl) ?_
  refine lv_iadd M.x M.b d_M_turn_216 ?_
  refine lv_iload M.x M.b d_M_turn_217 (lv_at hl 3 rfl) ?_
  rcases r1 with _ | a3
  · exact absurd hf z_nb0
  replace hf := z_sb hf
  replace hf := z_bind hf; obtain ⟨h6, e5, hf⟩ := hf
  refine z_iast M hH hS e5 d_M_turn_219 (fun H locs hH hS => ?_)
  refine lv_iload M.x M.b d_M_turn_220 (lv_at hl 4 rfl) ?_
  obtain ⟨rfl, rfl⟩ := z_r2 hf
  exact z_iret M hH hS d_M_turn_222
def f_M_turn_198 (this : Nat) (k100 : Int32 → Int32 → Int32 → Int32 → Int32 → Int32 → Int32 → Int32 → Int32 → Int32 → Int32 → Hp → Option ((Int32 × Hp))) (s0 : Int32) (x1 : Int32) (x2 : Int32) (x3 : Int32) (x4 : Int32) (x5 : Int32) (x6 : Int32) (x7 : Int32) (x8 : Int32) (x9 : Int32) (x11 : Int32) (h : Hp) : Option ((Int32 × Hp)) :=
  k100 x1 x2 x3 x4 x5 x6 x7 x8 x9 s0 (x11 + (1 : Int32)) h
set_option maxRecDepth 100000 in
set_option maxHeartbeats 4000000 in
theorem w_M_turn_198 {p : Program} {l : Launch} {e : Env} {s : State} {m : MethodId} {args : Array Value} {below : List Frame} {meth : Method} {c : Code} {N0 : Nat} {D : va_G} {cs : Nat → ClassId} (M : ZC p s m args meth c "YearBasketsModel" "turn" b_M_turn 13 (some .int) N0 D cs) (this : Nat) (k100 : Int32 → Int32 → Int32 → Int32 → Int32 → Int32 → Int32 → Int32 → Int32 → Int32 → Int32 → Hp → Option ((Int32 × Hp))) {r0 : Int32} {h0 : Hp} (hk100 : ∀ (x1 : Int32) (x2 : Int32) (x3 : Int32) (x4 : Int32) (x5 : Int32) (x6 : Int32) (x7 : Int32) (x8 : Int32) (x9 : Int32) (x10 : Int32) (x11 : Int32) (h : Hp), k100 x1 x2 x3 x4 x5 x6 x7 x8 x9 x10 x11 h = some (r0, h0) → ZG p l e (zrm 9 0 0) s m args below meth c N0 D cs (some (.int r0)) h0 h 13 [(0, .ref this), (1, .int x1), (2, .int x2), (3, .int x3), (4, .int x4), (5, .int x5), (6, .int x6), (7, .int x7), (8, .int x8), (9, .int x9), (10, .int x10), (11, .int x11)] 100 []) (s0 : Int32) (x1 : Int32) (x2 : Int32) (x3 : Int32) (x4 : Int32) (x5 : Int32) (x6 : Int32) (x7 : Int32) (x8 : Int32) (x9 : Int32) (x11 : Int32) (h : Hp) (hf : f_M_turn_198 this k100 s0 x1 x2 x3 x4 x5 x6 x7 x8 x9 x11 h = some (r0, h0)) : ZG p l e (zrm 9 0 0) s m args below meth c N0 D cs (some (.int r0)) h0 h 13 [(0, .ref this), (1, .int x1), (2, .int x2), (3, .int x3), (4, .int x4), (5, .int x5), (6, .int x6), (7, .int x7), (8, .int x8), (9, .int x9), (11, .int x11)] 198 [.int s0] := by
  intro H locs ls hH hS hl
  unfold f_M_turn_198 at hf
  refine lv_istore (lv' := [(10, .int s0), (0, .ref this), (1, .int x1), (2, .int x2), (3, .int x3), (4, .int x4), (5, .int x5), (6, .int x6), (7, .int x7), (8, .int x8), (9, .int x9), (11, .int x11)]) M.x M.b d_M_turn_198 hl (by decide) rfl (fun ls hl => ?_)
  refine lv_iinc (v := (x11 + (1 : Int32))) (lv' := [(11, .int (x11 + (1 : Int32))), (10, .int s0), (0, .ref this), (1, .int x1), (2, .int x2), (3, .int x3), (4, .int x4), (5, .int x5), (6, .int x6), (7, .int x7), (8, .int x8), (9, .int x9)]) M.x M.b d_M_turn_200 hl (k := 11) rfl rfl (by decide) rfl (fun ls hl => ?_)
  refine lv_goto (tgt := 100) M.x M.b d_M_turn_203 (by decide) ?_
  exact hk100 _ _ _ _ _ _ _ _ _ _ _ _ hf H locs ls hH hS (lv_sub hl [2, 3, 4, 5, 6, 7, 8, 9, 10, 11, 1, 0] rfl)
def f_M_turn_196 (this : Nat) (k100 : Int32 → Int32 → Int32 → Int32 → Int32 → Int32 → Int32 → Int32 → Int32 → Int32 → Int32 → Hp → Option ((Int32 × Hp))) (x1 : Int32) (x2 : Int32) (x3 : Int32) (x4 : Int32) (x5 : Int32) (x6 : Int32) (x7 : Int32) (x8 : Int32) (x9 : Int32) (x10 : Int32) (x11 : Int32) (h : Hp) : Option ((Int32 × Hp)) :=
  f_M_turn_198 this k100 x10 x1 x2 x3 x4 x5 x6 x7 x8 x9 x11 h
set_option maxRecDepth 100000 in
set_option maxHeartbeats 4000000 in
theorem w_M_turn_196 {p : Program} {l : Launch} {e : Env} {s : State} {m : MethodId} {args : Array Value} {below : List Frame} {meth : Method} {c : Code} {N0 : Nat} {D : va_G} {cs : Nat → ClassId} (M : ZC p s m args meth c "YearBasketsModel" "turn" b_M_turn 13 (some .int) N0 D cs) (this : Nat) (k100 : Int32 → Int32 → Int32 → Int32 → Int32 → Int32 → Int32 → Int32 → Int32 → Int32 → Int32 → Hp → Option ((Int32 × Hp))) {r0 : Int32} {h0 : Hp} (hk100 : ∀ (x1 : Int32) (x2 : Int32) (x3 : Int32) (x4 : Int32) (x5 : Int32) (x6 : Int32) (x7 : Int32) (x8 : Int32) (x9 : Int32) (x10 : Int32) (x11 : Int32) (h : Hp), k100 x1 x2 x3 x4 x5 x6 x7 x8 x9 x10 x11 h = some (r0, h0) → ZG p l e (zrm 9 0 0) s m args below meth c N0 D cs (some (.int r0)) h0 h 13 [(0, .ref this), (1, .int x1), (2, .int x2), (3, .int x3), (4, .int x4), (5, .int x5), (6, .int x6), (7, .int x7), (8, .int x8), (9, .int x9), (10, .int x10), (11, .int x11)] 100 []) (x1 : Int32) (x2 : Int32) (x3 : Int32) (x4 : Int32) (x5 : Int32) (x6 : Int32) (x7 : Int32) (x8 : Int32) (x9 : Int32) (x10 : Int32) (x11 : Int32) (h : Hp) (hf : f_M_turn_196 this k100 x1 x2 x3 x4 x5 x6 x7 x8 x9 x10 x11 h = some (r0, h0)) : ZG p l e (zrm 9 0 0) s m args below meth c N0 D cs (some (.int r0)) h0 h 13 [(0, .ref this), (1, .int x1), (2, .int x2), (3, .int x3), (4, .int x4), (5, .int x5), (6, .int x6), (7, .int x7), (8, .int x8), (9, .int x9), (10, .int x10), (11, .int x11)] 196 [] := by
  intro H locs ls hH hS hl
  unfold f_M_turn_196 at hf
  refine lv_iload M.x M.b d_M_turn_196 (lv_at hl 10 rfl) ?_
  exact w_M_turn_198 M this k100 hk100 _ _ _ _ _ _ _ _ _ _ _ _ hf H locs ls hH hS (lv_sub hl [0, 1, 2, 3, 4, 5, 6, 7, 8, 9, 11] rfl)
def f_M_turn_177 (this : Nat) (k100 : Int32 → Int32 → Int32 → Int32 → Int32 → Int32 → Int32 → Int32 → Int32 → Int32 → Int32 → Hp → Option ((Int32 × Hp))) (s0 : Int32) (x1 : Int32) (x2 : Int32) (x3 : Int32) (x4 : Int32) (x5 : Int32) (x6 : Int32) (x7 : Int32) (x8 : Int32) (x9 : Int32) (x10 : Int32) (x11 : Int32) (h : Hp) : Option ((Int32 × Hp)) :=
  if s0 = 0 then
    (gI h this 8 17).bind fun i7 =>
    if i7 < 0 then
      f_M_turn_196 this k100 x1 x2 x3 x4 x5 x6 x7 x8 x9 x10 x11 h
    else
    f_M_turn_198 this k100 x11 x1 x2 x3 x4 x5 x6 x7 x8 x9 x11 h
  else
  f_M_turn_196 this k100 x1 x2 x3 x4 x5 x6 x7 x8 x9 x10 x11 h
set_option maxRecDepth 100000 in
set_option maxHeartbeats 4000000 in
theorem w_M_turn_177 {p : Program} {l : Launch} {e : Env} {s : State} {m : MethodId} {args : Array Value} {below : List Frame} {meth : Method} {c : Code} {N0 : Nat} {D : va_G} {cs : Nat → ClassId} (M : ZC p s m args meth c "YearBasketsModel" "turn" b_M_turn 13 (some .int) N0 D cs) (this : Nat) (k100 : Int32 → Int32 → Int32 → Int32 → Int32 → Int32 → Int32 → Int32 → Int32 → Int32 → Int32 → Hp → Option ((Int32 × Hp))) {r0 : Int32} {h0 : Hp} (hk100 : ∀ (x1 : Int32) (x2 : Int32) (x3 : Int32) (x4 : Int32) (x5 : Int32) (x6 : Int32) (x7 : Int32) (x8 : Int32) (x9 : Int32) (x10 : Int32) (x11 : Int32) (h : Hp), k100 x1 x2 x3 x4 x5 x6 x7 x8 x9 x10 x11 h = some (r0, h0) → ZG p l e (zrm 9 0 0) s m args below meth c N0 D cs (some (.int r0)) h0 h 13 [(0, .ref this), (1, .int x1), (2, .int x2), (3, .int x3), (4, .int x4), (5, .int x5), (6, .int x6), (7, .int x7), (8, .int x8), (9, .int x9), (10, .int x10), (11, .int x11)] 100 []) (s0 : Int32) (x1 : Int32) (x2 : Int32) (x3 : Int32) (x4 : Int32) (x5 : Int32) (x6 : Int32) (x7 : Int32) (x8 : Int32) (x9 : Int32) (x10 : Int32) (x11 : Int32) (h : Hp) (hf : f_M_turn_177 this k100 s0 x1 x2 x3 x4 x5 x6 x7 x8 x9 x10 x11 h = some (r0, h0)) : ZG p l e (zrm 9 0 0) s m args below meth c N0 D cs (some (.int r0)) h0 h 13 [(0, .ref this), (1, .int x1), (2, .int x2), (3, .int x3), (4, .int x4), (5, .int x5), (6, .int x6), (7, .int x7), (8, .int x8), (9, .int x9), (10, .int x10), (11, .int x11)] 177 [.int s0] := by
  intro H locs ls hH hS hl
  unfold f_M_turn_177 at hf
  refine lv_istore (lv' := [(12, .int s0), (0, .ref this), (1, .int x1), (2, .int x2), (3, .int x3), (4, .int x4), (5, .int x5), (6, .int x6), (7, .int x7), (8, .int x8), (9, .int x9), (10, .int x10), (11, .int x11)]) M.x M.b d_M_turn_177 hl (by decide) rfl (fun ls hl => ?_)
  refine lv_iload M.x M.b d_M_turn_179 (lv_at hl 0 rfl) ?_
  refine lv_if_ne (tgt := 196) M.x M.b d_M_turn_181 (by decide) (fun c10 => ?_) (fun c10 => ?_)
  · replace hf := z_f c10 hf
    exact w_M_turn_196 M this k100 hk100 _ _ _ _ _ _ _ _ _ _ _ _ hf H locs ls hH hS (lv_sub hl [1, 2, 3, 4, 5, 6, 7, 8, 9, 10, 11, 12] rfl)
  · replace hf := z_t c10 hf
    refine lv_aload_n M.x M.b d_M_turn_184 rfl (lv_at hl 1 rfl) ?_
    replace hf := z_bind hf; obtain ⟨i7, e8, hf⟩ := hf
    refine z_get (ci := 8) (k := 17) M hH rfl (by decide) zinM q_680 (gI_spec e8) d_M_turn_185 ?_
    refine lv_if_lt (tgt := 196) M.x M.b d_M_turn_188 (by decide) (fun c9 => ?_) (fun c9 => ?_)
    · replace hf := z_t c9 hf
      exact w_M_turn_196 M this k100 hk100 _ _ _ _ _ _ _ _ _ _ _ _ hf H locs ls hH hS (lv_sub hl [1, 2, 3, 4, 5, 6, 7, 8, 9, 10, 11, 12] rfl)
    · replace hf := z_f c9 hf
      refine lv_iload M.x M.b d_M_turn_191 (lv_at hl 12 rfl) ?_
      refine lv_goto (tgt := 198) M.x M.b d_M_turn_193 (by decide) ?_
      exact w_M_turn_198 M this k100 hk100 _ _ _ _ _ _ _ _ _ _ _ _ hf H locs ls hH hS (lv_sub hl [1, 2, 3, 4, 5, 6, 7, 8, 9, 10, 12] rfl)
def t_M_turn_100 (this : Nat) (k100 : Int32 → Int32 → Int32 → Int32 → Int32 → Int32 → Int32 → Int32 → Int32 → Int32 → Int32 → Hp → Option ((Int32 × Hp))) (x1 : Int32) (x2 : Int32) (x3 : Int32) (x4 : Int32) (x5 : Int32) (x6 : Int32) (x7 : Int32) (x8 : Int32) (x9 : Int32) (x10 : Int32) (x11 : Int32) (h : Hp) : Option ((Int32 × Hp)) :=
  if (99 : Int32) < x11 then
    f_M_turn_206 this x5 x6 x9 x10 h
  else
  if 0 ≤ x10 then
    f_M_turn_206 this x5 x6 x9 x10 h
  else
  (gA h this 8 0).bind fun r11 =>
  (r11).bind fun a13 =>
  (sI h a13 (((5 : Int32) * x5) + x6) x11).bind fun h16 =>
  zb2 (f_M_findKept this x1 x2 x3 x4 (0 : Int32) h16) fun i18 h19 =>
  if 0 ≤ i18 then
    (gA h19 this 8 28).bind fun r20 =>
    (r20).bind fun a22 =>
    (aL h19 a22 (0 : Int32)).bind fun l25 =>
    (gA h19 this 8 29).bind fun r26 =>
    (r26).bind fun a28 =>
    (aL h19 a28 (0 : Int32)).bind fun l31 =>
    (gA h19 this 8 30).bind fun r32 =>
    (r32).bind fun a34 =>
    (aI h19 2 a34 (0 : Int32)).bind fun i37 =>
    zb2 (f_M_orderOf this l25 l31 i37 (x7).toInt64 (x8).toInt64 (0 : Int32) h19) fun i39 h40 =>
    f_M_turn_177 this k100 i39 x1 x2 x3 x4 x5 x6 x7 x8 x9 x10 x11 h40
  else
  f_M_turn_177 this k100 i18 x1 x2 x3 x4 x5 x6 x7 x8 x9 x10 x11 h19
set_option maxRecDepth 100000 in
set_option maxHeartbeats 4000000 in
theorem v_M_turn_100 {p : Program} {l : Launch} {e : Env} {s : State} {m : MethodId} {args : Array Value} {below : List Frame} {meth : Method} {c : Code} {N0 : Nat} {D : va_G} {cs : Nat → ClassId} (M : ZC p s m args meth c "YearBasketsModel" "turn" b_M_turn 13 (some .int) N0 D cs) (this : Nat) (k100 : Int32 → Int32 → Int32 → Int32 → Int32 → Int32 → Int32 → Int32 → Int32 → Int32 → Int32 → Hp → Option ((Int32 × Hp))) {r0 : Int32} {h0 : Hp} (hk100 : ∀ (x1 : Int32) (x2 : Int32) (x3 : Int32) (x4 : Int32) (x5 : Int32) (x6 : Int32) (x7 : Int32) (x8 : Int32) (x9 : Int32) (x10 : Int32) (x11 : Int32) (h : Hp), k100 x1 x2 x3 x4 x5 x6 x7 x8 x9 x10 x11 h = some (r0, h0) → ZG p l e (zrm 9 0 0) s m args below meth c N0 D cs (some (.int r0)) h0 h 13 [(0, .ref this), (1, .int x1), (2, .int x2), (3, .int x3), (4, .int x4), (5, .int x5), (6, .int x6), (7, .int x7), (8, .int x8), (9, .int x9), (10, .int x10), (11, .int x11)] 100 []) (x1 : Int32) (x2 : Int32) (x3 : Int32) (x4 : Int32) (x5 : Int32) (x6 : Int32) (x7 : Int32) (x8 : Int32) (x9 : Int32) (x10 : Int32) (x11 : Int32) (h : Hp) (hf : t_M_turn_100 this k100 x1 x2 x3 x4 x5 x6 x7 x8 x9 x10 x11 h = some (r0, h0)) : ZG p l e (zrm 9 0 0) s m args below meth c N0 D cs (some (.int r0)) h0 h 13 [(0, .ref this), (1, .int x1), (2, .int x2), (3, .int x3), (4, .int x4), (5, .int x5), (6, .int x6), (7, .int x7), (8, .int x8), (9, .int x9), (10, .int x10), (11, .int x11)] 100 [] := by
  intro H locs ls hH hS hl
  unfold t_M_turn_100 at hf
  refine lv_iload M.x M.b d_M_turn_100 (lv_at hl 11 rfl) ?_
  refine lv_bipush (v := (99 : Int32)) M.x M.b d_M_turn_102 rfl ?_
  refine lv_icmp_gt (tgt := 206) M.x M.b d_M_turn_104 (by decide) (fun c43 => ?_) (fun c43 => ?_)
  · replace hf := z_t c43 hf
    exact w_M_turn_206 M this _ _ _ _ _ hf H locs ls hH hS (lv_sub hl [0, 5, 6, 9, 10] rfl)
  · replace hf := z_f c43 hf
    refine lv_iload M.x M.b d_M_turn_107 (lv_at hl 10 rfl) ?_
    refine lv_if_ge (tgt := 206) M.x M.b d_M_turn_109 (by decide) (fun c42 => ?_) (fun c42 => ?_)
    · replace hf := z_t c42 hf
      exact w_M_turn_206 M this _ _ _ _ _ hf H locs ls hH hS (lv_sub hl [0, 5, 6, 9, 10] rfl)
    · replace hf := z_f c42 hf
      refine lv_aload_n M.x M.b d_M_turn_112 rfl (lv_at hl 0 rfl) ?_
      replace hf := z_bind hf; obtain ⟨r11, e12, hf⟩ := hf
      refine z_get (ci := 8) (k := 0) M hH rfl (by decide) zinM q_562 (gA_spec e12) d_M_turn_113 ?_
      refine lv_iconst (v := (5 : Int32)) M.x M.b d_M_turn_116 rfl ?_
      refine lv_iload M.x M.b d_M_turn_117 (lv_at hl 5 rfl) ?_
      refine lv_imul M.x M.b d_M_turn_119 ?_
      refine lv_iload M.x M.b d_M_turn_120 (lv_at hl 6 rfl) ?_
      refine lv_iadd M.x M.b d_M_turn_122 ?_
      refine lv_iload M.x M.b d_M_turn_123 (lv_at hl 11 rfl) ?_
      rcases r11 with _ | a13
      · exact absurd hf z_nb0
      replace hf := z_sb hf
      replace hf := z_bind hf; obtain ⟨h16, e15, hf⟩ := hf
      refine z_iast M hH hS e15 d_M_turn_125 (fun H locs hH hS => ?_)
      refine lv_aload_n M.x M.b d_M_turn_126 rfl (lv_at hl 0 rfl) ?_
      refine lv_iload_n M.x M.b d_M_turn_127 rfl (lv_at hl 1 rfl) ?_
      refine lv_iload_n M.x M.b d_M_turn_128 rfl (lv_at hl 2 rfl) ?_
      refine lv_iload_n M.x M.b d_M_turn_129 rfl (lv_at hl 3 rfl) ?_
      refine lv_iload M.x M.b d_M_turn_130 (lv_at hl 4 rfl) ?_
      refine lv_iconst (v := (0 : Int32)) M.x M.b d_M_turn_132 rfl ?_
      replace hf := z_bind2 hf; obtain ⟨i18, h19, e17, hf⟩ := hf
      refine zk_V (ci := 8) (st1 := [.int i18]) M hH hS (c_M_findKept e17) rfl (o_M_findKept e17) w_M_findKept q_760 [] rfl ⟨Nat.le_of_ble_eq_true rfl, Nat.le_of_ble_eq_true rfl⟩ hl.1 rfl rfl (Nat.le_of_ble_eq_true rfl) d_M_turn_133 (fun H locs hH hS => ?_)
      refine lv_istore (lv' := [(12, .int i18), (0, .ref this), (1, .int x1), (2, .int x2), (3, .int x3), (4, .int x4), (5, .int x5), (6, .int x6), (7, .int x7), (8, .int x8), (9, .int x9), (10, .int x10), (11, .int x11)]) M.x M.b d_M_turn_136 hl (by decide) rfl (fun ls hl => ?_)
      refine lv_iload M.x M.b d_M_turn_138 (lv_at hl 0 rfl) ?_
      refine lv_if_ge (tgt := 148) M.x M.b d_M_turn_140 (by decide) (fun c41 => ?_) (fun c41 => ?_)
      · replace hf := z_t c41 hf
        refine lv_aload_n M.x M.b d_M_turn_148 rfl (lv_at hl 1 rfl) ?_
        refine lv_aload_n M.x M.b d_M_turn_149 rfl (lv_at hl 1 rfl) ?_
        replace hf := z_bind hf; obtain ⟨r20, e21, hf⟩ := hf
        refine z_get (ci := 8) (k := 28) M hH rfl (by decide) zinM q_748 (gA_spec e21) d_M_turn_150 ?_
        refine lv_iconst (v := (0 : Int32)) M.x M.b d_M_turn_153 rfl ?_
        rcases r20 with _ | a22
        · exact absurd hf z_nb0
        replace hf := z_sb hf
        replace hf := z_bind hf; obtain ⟨l25, e24, hf⟩ := hf
        refine z_lald M hH e24 d_M_turn_154 ?_
        refine lv_aload_n M.x M.b d_M_turn_155 rfl (lv_at hl 1 rfl) ?_
        replace hf := z_bind hf; obtain ⟨r26, e27, hf⟩ := hf
        refine z_get (ci := 8) (k := 29) M hH rfl (by decide) zinM q_747 (gA_spec e27) d_M_turn_156 ?_
        refine lv_iconst (v := (0 : Int32)) M.x M.b d_M_turn_159 rfl ?_
        rcases r26 with _ | a28
        · exact absurd hf z_nb0
        replace hf := z_sb hf
        replace hf := z_bind hf; obtain ⟨l31, e30, hf⟩ := hf
        refine z_lald M hH e30 d_M_turn_160 ?_
        refine lv_aload_n M.x M.b d_M_turn_161 rfl (lv_at hl 1 rfl) ?_
        replace hf := z_bind hf; obtain ⟨r32, e33, hf⟩ := hf
        refine z_get (ci := 8) (k := 30) M hH rfl (by decide) zinM q_746 (gA_spec e33) d_M_turn_162 ?_
        refine lv_iconst (v := (0 : Int32)) M.x M.b d_M_turn_165 rfl ?_
        rcases r32 with _ | a34
        · exact absurd hf z_nb0
        replace hf := z_sb hf
        replace hf := z_bind hf; obtain ⟨i37, e36, hf⟩ := hf
        refine z_zald M hH e36 d_M_turn_166 ?_
        refine lv_iload M.x M.b d_M_turn_167 (lv_at hl 8 rfl) ?_
        refine lv_i2l M.x M.b d_M_turn_169 rfl ?_
        refine lv_iload M.x M.b d_M_turn_170 (lv_at hl 9 rfl) ?_
        refine lv_i2l M.x M.b d_M_turn_172 rfl ?_
        refine lv_iconst (v := (0 : Int32)) M.x M.b d_M_turn_173 rfl ?_
        replace hf := z_bind2 hf; obtain ⟨i39, h40, e38, hf⟩ := hf
        refine zk_V (ci := 8) (st1 := [.int i39]) M hH hS (c_M_orderOf e38) rfl (o_M_orderOf e38) w_M_orderOf q_711 [] rfl ⟨Nat.le_of_ble_eq_true rfl, Nat.le_of_ble_eq_true rfl⟩ hl.1 rfl rfl (Nat.le_of_ble_eq_true rfl) d_M_turn_174 (fun H locs hH hS => ?_)
        exact w_M_turn_177 M this k100 hk100 _ _ _ _ _ _ _ _ _ _ _ _ _ hf H locs ls hH hS (lv_sub hl [1, 2, 3, 4, 5, 6, 7, 8, 9, 10, 11, 12] rfl)
      · replace hf := z_f c41 hf
        refine lv_iload M.x M.b d_M_turn_143 (lv_at hl 0 rfl) ?_
        refine lv_goto (tgt := 177) M.x M.b d_M_turn_145 (by decide) ?_
        exact w_M_turn_177 M this k100 hk100 _ _ _ _ _ _ _ _ _ _ _ _ _ hf H locs ls hH hS (lv_sub hl [1, 2, 3, 4, 5, 6, 7, 8, 9, 10, 11, 12] rfl)
def f_M_turn_100 (this : Nat) : Nat → Int32 → Int32 → Int32 → Int32 → Int32 → Int32 → Int32 → Int32 → Int32 → Int32 → Int32 → Hp → Option ((Int32 × Hp))
  | 0, _, _, _, _, _, _, _, _, _, _, _, _ => none
  | n + 1, x1, x2, x3, x4, x5, x6, x7, x8, x9, x10, x11, h => t_M_turn_100 this (f_M_turn_100 this n) x1 x2 x3 x4 x5 x6 x7 x8 x9 x10 x11 h
theorem w_M_turn_100 {p : Program} {l : Launch} {e : Env} {s : State} {m : MethodId} {args : Array Value} {below : List Frame} {meth : Method} {c : Code} {N0 : Nat} {D : va_G} {cs : Nat → ClassId} (M : ZC p s m args meth c "YearBasketsModel" "turn" b_M_turn 13 (some .int) N0 D cs) (this : Nat)  {r0 : Int32} {h0 : Hp}  : ∀ (n : Nat) (x1 : Int32) (x2 : Int32) (x3 : Int32) (x4 : Int32) (x5 : Int32) (x6 : Int32) (x7 : Int32) (x8 : Int32) (x9 : Int32) (x10 : Int32) (x11 : Int32) (h : Hp), f_M_turn_100 this n x1 x2 x3 x4 x5 x6 x7 x8 x9 x10 x11 h = some (r0, h0) → ZG p l e (zrm 9 0 0) s m args below meth c N0 D cs (some (.int r0)) h0 h 13 [(0, .ref this), (1, .int x1), (2, .int x2), (3, .int x3), (4, .int x4), (5, .int x5), (6, .int x6), (7, .int x7), (8, .int x8), (9, .int x9), (10, .int x10), (11, .int x11)] 100 [] := by
  intro n
  induction n with
  | zero => intro x1 x2 x3 x4 x5 x6 x7 x8 x9 x10 x11 h hf; exact absurd (show none = some _ from hf) (fun q => by cases q)
  | succ n ih => intro x1 x2 x3 x4 x5 x6 x7 x8 x9 x10 x11 h hf; exact v_M_turn_100 M this (f_M_turn_100 this n)  ih _ _ _ _ _ _ _ _ _ _ _ _ hf
def f_M_turn (this : Nat) (x1 : Int32) (x2 : Int32) (x3 : Int32) (x4 : Int32) (x5 : Int32) (x6 : Int32) (x7 : Int32) (x8 : Int32) (h : Hp) : Option ((Int32 × Hp)) :=
  if isO h this 8 = true then
  (f_M_isNumber this h x1).bind fun i45 =>
  if i45 = 0 then
    some ((-1001 : Int32), h)
  else
  (f_M_isWho x2).bind fun i47 =>
  if i47 = 0 then
    some ((-1001 : Int32), h)
  else
  (f_M_isYear x3).bind fun i49 =>
  if i49 = 0 then
    some ((-1001 : Int32), h)
  else
  (f_M_isYear x4).bind fun i51 =>
  if i51 = 0 then
    some ((-1001 : Int32), h)
  else
  (f_M_isYear x5).bind fun i53 =>
  if i53 = 0 then
    some ((-1001 : Int32), h)
  else
  (f_M_isGood x6).bind fun i55 =>
  if i55 = 0 then
    some ((-1001 : Int32), h)
  else
  (f_M_in (x7).toInt64 (1 : Int64) (9999 : Int64)).bind fun i57 =>
  if i57 = 0 then
    some ((-1002 : Int32), h)
  else
  (f_M_in (x8).toInt64 (1 : Int64) (9999 : Int64)).bind fun i59 =>
  if i59 = 0 then
    some ((-1002 : Int32), h)
  else
  (gA h this 8 0).bind fun r60 =>
  (r60).bind fun a62 =>
  (aI h 0 a62 (((5 : Int32) * x5) + x6)).bind fun i65 =>
  f_M_turn_100 this FU x1 x2 x3 x4 x5 x6 x7 x8 i65 (-1 : Int32) (1 : Int32) h
  else none
theorem o_M_turn {this : Nat} {x1 : Int32} {x2 : Int32} {x3 : Int32} {x4 : Int32} {x5 : Int32} {x6 : Int32} {x7 : Int32} {x8 : Int32} {h : Hp} {r0 : Int32} {h0 : Hp} (hf : f_M_turn this x1 x2 x3 x4 x5 x6 x7 x8 h = some (r0, h0)) : isO h this 8 = true := by
  unfold f_M_turn at hf
  exact (z_gd hf).1
set_option maxRecDepth 100000 in
set_option maxHeartbeats 4000000 in
theorem c_M_turn {l : Launch} {N0 : Nat} {D : va_G} {cs : Nat → ClassId} {this : Nat} {x1 : Int32} {x2 : Int32} {x3 : Int32} {x4 : Int32} {x5 : Int32} {x6 : Int32} {x7 : Int32} {x8 : Int32} {h : Hp} {r0 : Int32} {h0 : Hp} (hf : f_M_turn this x1 x2 x3 x4 x5 x6 x7 x8 h = some (r0, h0)) : Fn l N0 D cs y_M_turn b_M_turn 13 (some .int) 9 0 0 [.ref this, .int x1, .int x2, .int x3, .int x4, .int x5, .int x6, .int x7, .int x8] h (some (.int r0)) h0 := by
  refine z_start (by decide) (Nat.le_of_ble_eq_true rfl) ?_
  intro p e s m args below meth c M hH hS ls hl
  unfold f_M_turn at hf
  obtain ⟨hO, hf⟩ := z_gd hf
  have hl : lv_has ls 13 [(0, .ref this), (1, .int x1), (2, .int x2), (3, .int x3), (4, .int x4), (5, .int x5), (6, .int x6), (7, .int x7), (8, .int x8)] := hl
  obtain ⟨H, hHe⟩ : ∃ H, H = s.heap := ⟨_, rfl⟩
  obtain ⟨locs, hLe⟩ : ∃ locs : List Loc, locs = [] := ⟨_, rfl⟩
  have hS : va_S (zA N0) s.heap H locs := by rw [hHe, hLe]; exact hS
  have hH : HH N0 D cs h H := by rw [hHe]; exact hH
  suffices hg : W p l e (zrm 9 0 0) s m args below meth c H locs 0 0 (MQ below (zQ N0 D cs (some (.int r0)) h0) args s 0 0 (zA N0)) (F0 m 0 ls []) by rw [hHe, hLe] at hg; exact hg
  clear hHe hLe
  refine lv_aload_n M.x M.b d_M_turn_0 rfl (lv_at hl 0 rfl) ?_
  refine lv_iload_n M.x M.b d_M_turn_1 rfl (lv_at hl 1 rfl) ?_
  replace hf := z_bind hf; obtain ⟨i45, e44, hf⟩ := hf
  refine zk_V (ci := 8) (st1 := [.int i45]) M hH hS (c_M_isNumber e44) rfl (o_M_isNumber e44) w_M_isNumber q_742 [] rfl ⟨Nat.le_of_ble_eq_true rfl, Nat.le_of_ble_eq_true rfl⟩ hl.1 rfl rfl (Nat.le_of_ble_eq_true rfl) d_M_turn_2 (fun H locs hH hS => ?_)
  refine lv_if_eq (tgt := 46) M.x M.b d_M_turn_5 (by decide) (fun c73 => ?_) (fun c73 => ?_)
  · replace hf := z_t c73 hf
    refine lv_sipush (v := (-1001 : Int32)) M.x M.b d_M_turn_46 rfl ?_
    obtain ⟨rfl, rfl⟩ := z_r2 hf
    exact z_iret M hH hS d_M_turn_49
  · replace hf := z_f c73 hf
    refine lv_iload_n M.x M.b d_M_turn_8 rfl (lv_at hl 2 rfl) ?_
    replace hf := z_bind hf; obtain ⟨i47, e46, hf⟩ := hf
    refine zk_S (st1 := [.int i47]) M hH hS (c_M_isWho e46) w_M_isWho q_582 [] rfl ⟨Nat.le_of_ble_eq_true rfl, Nat.le_of_ble_eq_true rfl⟩ hl.1 rfl rfl (Nat.le_of_ble_eq_true rfl) d_M_turn_9 (fun H locs hH hS => ?_)
    refine lv_if_eq (tgt := 46) M.x M.b d_M_turn_12 (by decide) (fun c72 => ?_) (fun c72 => ?_)
    · replace hf := z_t c72 hf
      refine lv_sipush (v := (-1001 : Int32)) M.x M.b d_M_turn_46 rfl ?_
      obtain ⟨rfl, rfl⟩ := z_r2 hf
      exact z_iret M hH hS d_M_turn_49
    · replace hf := z_f c72 hf
      refine lv_iload_n M.x M.b d_M_turn_15 rfl (lv_at hl 3 rfl) ?_
      replace hf := z_bind hf; obtain ⟨i49, e48, hf⟩ := hf
      refine zk_S (st1 := [.int i49]) M hH hS (c_M_isYear e48) w_M_isYear q_564 [] rfl ⟨Nat.le_of_ble_eq_true rfl, Nat.le_of_ble_eq_true rfl⟩ hl.1 rfl rfl (Nat.le_of_ble_eq_true rfl) d_M_turn_16 (fun H locs hH hS => ?_)
      refine lv_if_eq (tgt := 46) M.x M.b d_M_turn_19 (by decide) (fun c71 => ?_) (fun c71 => ?_)
      · replace hf := z_t c71 hf
        refine lv_sipush (v := (-1001 : Int32)) M.x M.b d_M_turn_46 rfl ?_
        obtain ⟨rfl, rfl⟩ := z_r2 hf
        exact z_iret M hH hS d_M_turn_49
      · replace hf := z_f c71 hf
        refine lv_iload M.x M.b d_M_turn_22 (lv_at hl 4 rfl) ?_
        replace hf := z_bind hf; obtain ⟨i51, e50, hf⟩ := hf
        refine zk_S (st1 := [.int i51]) M hH hS (c_M_isYear e50) w_M_isYear q_564 [] rfl ⟨Nat.le_of_ble_eq_true rfl, Nat.le_of_ble_eq_true rfl⟩ hl.1 rfl rfl (Nat.le_of_ble_eq_true rfl) d_M_turn_24 (fun H locs hH hS => ?_)
        refine lv_if_eq (tgt := 46) M.x M.b d_M_turn_27 (by decide) (fun c70 => ?_) (fun c70 => ?_)
        · replace hf := z_t c70 hf
          refine lv_sipush (v := (-1001 : Int32)) M.x M.b d_M_turn_46 rfl ?_
          obtain ⟨rfl, rfl⟩ := z_r2 hf
          exact z_iret M hH hS d_M_turn_49
        · replace hf := z_f c70 hf
          refine lv_iload M.x M.b d_M_turn_30 (lv_at hl 5 rfl) ?_
          replace hf := z_bind hf; obtain ⟨i53, e52, hf⟩ := hf
          refine zk_S (st1 := [.int i53]) M hH hS (c_M_isYear e52) w_M_isYear q_564 [] rfl ⟨Nat.le_of_ble_eq_true rfl, Nat.le_of_ble_eq_true rfl⟩ hl.1 rfl rfl (Nat.le_of_ble_eq_true rfl) d_M_turn_32 (fun H locs hH hS => ?_)
          refine lv_if_eq (tgt := 46) M.x M.b d_M_turn_35 (by decide) (fun c69 => ?_) (fun c69 => ?_)
          · replace hf := z_t c69 hf
            refine lv_sipush (v := (-1001 : Int32)) M.x M.b d_M_turn_46 rfl ?_
            obtain ⟨rfl, rfl⟩ := z_r2 hf
            exact z_iret M hH hS d_M_turn_49
          · replace hf := z_f c69 hf
            refine lv_iload M.x M.b d_M_turn_38 (lv_at hl 6 rfl) ?_
            replace hf := z_bind hf; obtain ⟨i55, e54, hf⟩ := hf
            refine zk_S (st1 := [.int i55]) M hH hS (c_M_isGood e54) w_M_isGood q_563 [] rfl ⟨Nat.le_of_ble_eq_true rfl, Nat.le_of_ble_eq_true rfl⟩ hl.1 rfl rfl (Nat.le_of_ble_eq_true rfl) d_M_turn_40 (fun H locs hH hS => ?_)
            refine lv_if_ne (tgt := 50) M.x M.b d_M_turn_43 (by decide) (fun c68 => ?_) (fun c68 => ?_)
            · replace hf := z_f c68 hf
              refine lv_iload M.x M.b d_M_turn_50 (lv_at hl 7 rfl) ?_
              refine lv_i2l M.x M.b d_M_turn_52 rfl ?_
              refine lv_lconst (v := (1 : Int64)) M.x M.b d_M_turn_53 rfl ?_
              refine z_ldc2 (v := (9999 : Int64)) M q_881 d_M_turn_54 ?_
              replace hf := z_bind hf; obtain ⟨i57, e56, hf⟩ := hf
              refine zk_S (st1 := [.int i57]) M hH hS (c_M_in e56) w_M_in q_551 [] rfl ⟨Nat.le_of_ble_eq_true rfl, Nat.le_of_ble_eq_true rfl⟩ hl.1 rfl rfl (Nat.le_of_ble_eq_true rfl) d_M_turn_57 (fun H locs hH hS => ?_)
              refine lv_if_eq (tgt := 76) M.x M.b d_M_turn_60 (by decide) (fun c67 => ?_) (fun c67 => ?_)
              · replace hf := z_t c67 hf
                refine lv_sipush (v := (-1002 : Int32)) M.x M.b d_M_turn_76 rfl ?_
                obtain ⟨rfl, rfl⟩ := z_r2 hf
                exact z_iret M hH hS d_M_turn_79
              · replace hf := z_f c67 hf
                refine lv_iload M.x M.b d_M_turn_63 (lv_at hl 8 rfl) ?_
                refine lv_i2l M.x M.b d_M_turn_65 rfl ?_
                refine lv_lconst (v := (1 : Int64)) M.x M.b d_M_turn_66 rfl ?_
                refine z_ldc2 (v := (9999 : Int64)) M q_881 d_M_turn_67 ?_
                replace hf := z_bind hf; obtain ⟨i59, e58, hf⟩ := hf
                refine zk_S (st1 := [.int i59]) M hH hS (c_M_in e58) w_M_in q_551 [] rfl ⟨Nat.le_of_ble_eq_true rfl, Nat.le_of_ble_eq_true rfl⟩ hl.1 rfl rfl (Nat.le_of_ble_eq_true rfl) d_M_turn_70 (fun H locs hH hS => ?_)
                refine lv_if_ne (tgt := 80) M.x M.b d_M_turn_73 (by decide) (fun c66 => ?_) (fun c66 => ?_)
                · replace hf := z_f c66 hf
                  refine lv_aload_n M.x M.b d_M_turn_80 rfl (lv_at hl 0 rfl) ?_
                  replace hf := z_bind hf; obtain ⟨r60, e61, hf⟩ := hf
                  refine z_get (ci := 8) (k := 0) M hH rfl (by decide) zinM q_562 (gA_spec e61) d_M_turn_81 ?_
                  refine lv_iconst (v := (5 : Int32)) M.x M.b d_M_turn_84 rfl ?_
                  refine lv_iload M.x M.b d_M_turn_85 (lv_at hl 5 rfl) ?_
                  refine lv_imul M.x M.b d_M_turn_87 ?_
                  refine lv_iload M.x M.b d_M_turn_88 (lv_at hl 6 rfl) ?_
                  refine lv_iadd M.x M.b d_M_turn_90 ?_
                  rcases r60 with _ | a62
                  · exact absurd hf z_nb0
                  replace hf := z_sb hf
                  replace hf := z_bind hf; obtain ⟨i65, e64, hf⟩ := hf
                  refine z_iald M hH e64 d_M_turn_91 ?_
                  refine lv_istore (lv' := [(9, .int i65), (0, .ref this), (1, .int x1), (2, .int x2), (3, .int x3), (4, .int x4), (5, .int x5), (6, .int x6), (7, .int x7), (8, .int x8)]) M.x M.b d_M_turn_92 hl (by decide) rfl (fun ls hl => ?_)
                  refine lv_iconst (v := (-1 : Int32)) M.x M.b d_M_turn_94 rfl ?_
                  refine lv_istore (lv' := [(10, .int (-1 : Int32)), (9, .int i65), (0, .ref this), (1, .int x1), (2, .int x2), (3, .int x3), (4, .int x4), (5, .int x5), (6, .int x6), (7, .int x7), (8, .int x8)]) M.x M.b d_M_turn_95 hl (by decide) rfl (fun ls hl => ?_)
                  refine lv_iconst (v := (1 : Int32)) M.x M.b d_M_turn_97 rfl ?_
                  refine lv_istore (lv' := [(11, .int (1 : Int32)), (10, .int (-1 : Int32)), (9, .int i65), (0, .ref this), (1, .int x1), (2, .int x2), (3, .int x3), (4, .int x4), (5, .int x5), (6, .int x6), (7, .int x7), (8, .int x8)]) M.x M.b d_M_turn_98 hl (by decide) rfl (fun ls hl => ?_)
                  exact w_M_turn_100 M this FU _ _ _ _ _ _ _ _ _ _ _ _ hf H locs ls hH hS (lv_sub hl [3, 4, 5, 6, 7, 8, 9, 10, 11, 2, 1, 0] rfl)
                · replace hf := z_t c66 hf
                  refine lv_sipush (v := (-1002 : Int32)) M.x M.b d_M_turn_76 rfl ?_
                  obtain ⟨rfl, rfl⟩ := z_r2 hf
                  exact z_iret M hH hS d_M_turn_79
            · replace hf := z_t c68 hf
              refine lv_sipush (v := (-1001 : Int32)) M.x M.b d_M_turn_46 rfl ?_
              obtain ⟨rfl, rfl⟩ := z_r2 hf
              exact z_iret M hH hS d_M_turn_49
