/-! ===== constructors: printed by wip/whole/gen3.py out of the bytecode ===== -/
theorem q_882 : (Jvm.Cond.methodLink "YearBaskets$Books" (3 : Nat) ({ cls := "java/lang/Object", name := "<init>", desc := "()V" } : Jvm.MethodName)) ∈ zG := zt_1 (List.mem_of_getElem? (i := 30) rfl) rfl
theorem q_883 : (Jvm.Cond.instanceMethod ({ cls := "java/lang/Object", name := "<init>", desc := "()V" } : Jvm.MethodName)) ∈ zG := zt_1 (List.mem_of_getElem? (i := 23) rfl) rfl
theorem q_884 : (Jvm.Cond.code ({ cls := "java/lang/Object", name := "<init>", desc := "()V" } : Jvm.MethodName) object_method_1_code (1 : Nat) (Option.none : Option Jvm.ClassFile.FieldType)) ∈ zG := zt_1 (List.mem_of_getElem? (i := 24) rfl) rfl
theorem q_885 : (Jvm.Cond.arrayClass Jvm.ClassFile.FieldType.int) ∈ zG := zt_1 (List.mem_of_getElem? (i := 38) rfl) rfl
theorem q_886 : (Jvm.Cond.instanceMethod ({ cls := "YearBaskets$Books", name := "<init>", desc := "()V" } : Jvm.MethodName)) ∈ zG := zt_1 (List.mem_of_getElem? (i := 28) rfl) rfl
theorem q_887 : (Jvm.Cond.code ({ cls := "YearBaskets$Books", name := "<init>", desc := "()V" } : Jvm.MethodName) prog_2_method_1_code (1 : Nat) (Option.none : Option Jvm.ClassFile.FieldType)) ∈ zG := zt_1 (List.mem_of_getElem? (i := 29) rfl) rfl
theorem q_888 : (Jvm.Cond.methodLink "YearBaskets$Fraction" (3 : Nat) ({ cls := "java/lang/Object", name := "<init>", desc := "()V" } : Jvm.MethodName)) ∈ zG := zt_1 (List.mem_of_getElem? (i := 97) rfl) rfl
theorem q_889 : (Jvm.Cond.instanceMethod ({ cls := "YearBaskets$Fraction", name := "<init>", desc := "()V" } : Jvm.MethodName)) ∈ zG := zt_1 (List.mem_of_getElem? (i := 95) rfl) rfl
theorem q_890 : (Jvm.Cond.code ({ cls := "YearBaskets$Fraction", name := "<init>", desc := "()V" } : Jvm.MethodName) prog_3_method_1_code (1 : Nat) (Option.none : Option Jvm.ClassFile.FieldType)) ∈ zG := zt_1 (List.mem_of_getElem? (i := 96) rfl) rfl
theorem q_891 : (Jvm.Cond.methodLink "YearBaskets$Plan" (3 : Nat) ({ cls := "java/lang/Object", name := "<init>", desc := "()V" } : Jvm.MethodName)) ∈ zG := zt_1 (List.mem_of_getElem? (i := 45) rfl) rfl
theorem q_892 : (Jvm.Cond.instanceMethod ({ cls := "YearBaskets$Plan", name := "<init>", desc := "()V" } : Jvm.MethodName)) ∈ zG := zt_1 (List.mem_of_getElem? (i := 43) rfl) rfl
theorem q_893 : (Jvm.Cond.code ({ cls := "YearBaskets$Plan", name := "<init>", desc := "()V" } : Jvm.MethodName) prog_6_method_1_code (1 : Nat) (Option.none : Option Jvm.ClassFile.FieldType)) ∈ zG := zt_1 (List.mem_of_getElem? (i := 44) rfl) rfl
theorem q_894 : (Jvm.Cond.methodLink "YearBaskets$Reader" (3 : Nat) ({ cls := "java/lang/Object", name := "<init>", desc := "()V" } : Jvm.MethodName)) ∈ zG := zt_1 (List.mem_of_getElem? (i := 62) rfl) rfl
theorem q_895 : (Jvm.Cond.instanceMethod ({ cls := "YearBaskets$Reader", name := "<init>", desc := "()V" } : Jvm.MethodName)) ∈ zG := zt_1 (List.mem_of_getElem? (i := 60) rfl) rfl
theorem q_896 : (Jvm.Cond.code ({ cls := "YearBaskets$Reader", name := "<init>", desc := "()V" } : Jvm.MethodName) prog_7_method_1_code (1 : Nat) (Option.none : Option Jvm.ClassFile.FieldType)) ∈ zG := zt_1 (List.mem_of_getElem? (i := 61) rfl) rfl
theorem q_897 : (Jvm.Cond.methodLink "YearBaskets$Teller" (3 : Nat) ({ cls := "java/lang/Object", name := "<init>", desc := "()V" } : Jvm.MethodName)) ∈ zG := zt_1 (List.mem_of_getElem? (i := 90) rfl) rfl
theorem q_898 : (Jvm.Cond.methodLinkNest "YearBaskets$Teller" (29 : Nat) ({ cls := "YearBaskets$Fraction", name := "<init>", desc := "()V" } : Jvm.MethodName) "YearBaskets") ∈ zNw := List.mem_of_getElem? (i := 7) rfl
theorem q_899 : (Jvm.Cond.classLink "YearBaskets$Teller" (9 : Nat) "YearBaskets$Fraction") ∈ zG := zt_1 (List.mem_of_getElem? (i := 91) rfl) rfl
theorem q_900 : (Jvm.Cond.instantiable "YearBaskets$Fraction" (4 : Nat)) ∈ zG := zt_1 (List.mem_of_getElem? (i := 93) rfl) rfl
theorem q_901 : (Jvm.Cond.instanceMethod ({ cls := "YearBaskets$Teller", name := "<init>", desc := "()V" } : Jvm.MethodName)) ∈ zG := zt_1 (List.mem_of_getElem? (i := 88) rfl) rfl
theorem q_902 : (Jvm.Cond.code ({ cls := "YearBaskets$Teller", name := "<init>", desc := "()V" } : Jvm.MethodName) prog_8_method_1_code (2 : Nat) (Option.none : Option Jvm.ClassFile.FieldType)) ∈ zG := zt_1 (List.mem_of_getElem? (i := 89) rfl) rfl
theorem q_903 : (Jvm.Cond.methodLink "YearBaskets$Laws" (3 : Nat) ({ cls := "java/lang/Object", name := "<init>", desc := "()V" } : Jvm.MethodName)) ∈ zG := zt_1 (List.mem_of_getElem? (i := 141) rfl) rfl
theorem q_904 : (Jvm.Cond.methodLinkNest "YearBaskets$Laws" (30 : Nat) ({ cls := "YearBaskets$Fraction", name := "<init>", desc := "()V" } : Jvm.MethodName) "YearBaskets") ∈ zNw := List.mem_of_getElem? (i := 20) rfl
theorem q_905 : (Jvm.Cond.classLink "YearBaskets$Laws" (28 : Nat) "YearBaskets$Fraction") ∈ zG := zt_1 (List.mem_of_getElem? (i := 142) rfl) rfl
theorem q_906 : (Jvm.Cond.arrayClass Jvm.ClassFile.FieldType.long) ∈ zG := zt_1 (List.mem_of_getElem? (i := 184) rfl) rfl
theorem q_907 : (Jvm.Cond.instanceMethod ({ cls := "YearBaskets$Laws", name := "<init>", desc := "(LYearBaskets$Books;LYearBaskets$Books;LYearBaskets$Teller;)V" } : Jvm.MethodName)) ∈ zG := zt_1 (List.mem_of_getElem? (i := 139) rfl) rfl
theorem q_908 : (Jvm.Cond.code ({ cls := "YearBaskets$Laws", name := "<init>", desc := "(LYearBaskets$Books;LYearBaskets$Books;LYearBaskets$Teller;)V" } : Jvm.MethodName) prog_4_method_1_code (4 : Nat) (Option.none : Option Jvm.ClassFile.FieldType)) ∈ zG := zt_1 (List.mem_of_getElem? (i := 140) rfl) rfl
theorem q_909 : (Jvm.Cond.methodLink "YearBaskets$Likes" (3 : Nat) ({ cls := "java/lang/Object", name := "<init>", desc := "()V" } : Jvm.MethodName)) ∈ zG := zt_1 (List.mem_of_getElem? (i := 190) rfl) rfl
theorem q_910 : (Jvm.Cond.arrayClass Jvm.ClassFile.FieldType.boolean) ∈ zG := zt_1 (List.mem_of_getElem? (i := 204) rfl) rfl
theorem q_911 : (Jvm.Cond.instanceMethod ({ cls := "YearBaskets$Likes", name := "<init>", desc := "(LYearBaskets$Books;)V" } : Jvm.MethodName)) ∈ zG := zt_1 (List.mem_of_getElem? (i := 188) rfl) rfl
theorem q_912 : (Jvm.Cond.code ({ cls := "YearBaskets$Likes", name := "<init>", desc := "(LYearBaskets$Books;)V" } : Jvm.MethodName) prog_5_method_1_code (2 : Nat) (Option.none : Option Jvm.ClassFile.FieldType)) ∈ zG := zt_1 (List.mem_of_getElem? (i := 189) rfl) rfl
theorem q_913 : (Jvm.Cond.methodLink "YearBaskets" (1 : Nat) ({ cls := "java/lang/Object", name := "<init>", desc := "()V" } : Jvm.MethodName)) ∈ zG := zt_1 (List.mem_of_getElem? (i := 22) rfl) rfl
theorem q_914 : (Jvm.Cond.methodLinkNest "YearBaskets" (60 : Nat) ({ cls := "YearBaskets$Fraction", name := "<init>", desc := "()V" } : Jvm.MethodName) "YearBaskets") ∈ zNw := List.mem_of_getElem? (i := 21) rfl
theorem q_915 : (Jvm.Cond.classLink "YearBaskets" (58 : Nat) "YearBaskets$Fraction") ∈ zG := zt_1 (List.mem_of_getElem? (i := 205) rfl) rfl
theorem q_916 : (Jvm.Cond.methodLink "YearBaskets" (51 : Nat) ({ cls := "YearBaskets$Likes", name := "<init>", desc := "(LYearBaskets$Books;)V" } : Jvm.MethodName)) ∈ zG := zt_1 (List.mem_of_getElem? (i := 187) rfl) rfl
theorem q_917 : (Jvm.Cond.classLink "YearBaskets" (49 : Nat) "YearBaskets$Likes") ∈ zG := zt_1 (List.mem_of_getElem? (i := 185) rfl) rfl
theorem q_918 : (Jvm.Cond.instantiable "YearBaskets$Likes" (4 : Nat)) ∈ zG := zt_1 (List.mem_of_getElem? (i := 186) rfl) rfl
theorem q_919 : (Jvm.Cond.methodLink "YearBaskets" (42 : Nat) ({ cls := "YearBaskets$Laws", name := "<init>", desc := "(LYearBaskets$Books;LYearBaskets$Books;LYearBaskets$Teller;)V" } : Jvm.MethodName)) ∈ zG := zt_1 (List.mem_of_getElem? (i := 138) rfl) rfl
theorem q_920 : (Jvm.Cond.classLink "YearBaskets" (40 : Nat) "YearBaskets$Laws") ∈ zG := zt_1 (List.mem_of_getElem? (i := 136) rfl) rfl
theorem q_921 : (Jvm.Cond.instantiable "YearBaskets$Laws" (13 : Nat)) ∈ zG := zt_1 (List.mem_of_getElem? (i := 137) rfl) rfl
theorem q_922 : (Jvm.Cond.methodLink "YearBaskets" (35 : Nat) ({ cls := "YearBaskets$Teller", name := "<init>", desc := "()V" } : Jvm.MethodName)) ∈ zG := zt_1 (List.mem_of_getElem? (i := 87) rfl) rfl
theorem q_923 : (Jvm.Cond.classLink "YearBaskets" (33 : Nat) "YearBaskets$Teller") ∈ zG := zt_1 (List.mem_of_getElem? (i := 85) rfl) rfl
theorem q_924 : (Jvm.Cond.instantiable "YearBaskets$Teller" (4 : Nat)) ∈ zG := zt_1 (List.mem_of_getElem? (i := 86) rfl) rfl
theorem q_925 : (Jvm.Cond.methodLinkNest "YearBaskets" (28 : Nat) ({ cls := "YearBaskets$Reader", name := "<init>", desc := "()V" } : Jvm.MethodName) "YearBaskets") ∈ zNw := List.mem_of_getElem? (i := 3) rfl
theorem q_926 : (Jvm.Cond.classLink "YearBaskets" (26 : Nat) "YearBaskets$Reader") ∈ zG := zt_1 (List.mem_of_getElem? (i := 57) rfl) rfl
theorem q_927 : (Jvm.Cond.instantiable "YearBaskets$Reader" (6 : Nat)) ∈ zG := zt_1 (List.mem_of_getElem? (i := 58) rfl) rfl
theorem q_928 : (Jvm.Cond.methodLinkNest "YearBaskets" (25 : Nat) ({ cls := "YearBaskets$Plan", name := "<init>", desc := "()V" } : Jvm.MethodName) "YearBaskets") ∈ zNw := List.mem_of_getElem? (i := 1) rfl
theorem q_929 : (Jvm.Cond.classLink "YearBaskets" (19 : Nat) "YearBaskets$Plan") ∈ zG := zt_1 (List.mem_of_getElem? (i := 39) rfl) rfl
theorem q_930 : (Jvm.Cond.instantiable "YearBaskets$Plan" (3 : Nat)) ∈ zG := zt_1 (List.mem_of_getElem? (i := 41) rfl) rfl
theorem q_931 : (Jvm.Cond.methodLinkNest "YearBaskets" (9 : Nat) ({ cls := "YearBaskets$Books", name := "<init>", desc := "()V" } : Jvm.MethodName) "YearBaskets") ∈ zNw := List.mem_of_getElem? (i := 0) rfl
theorem q_932 : (Jvm.Cond.classLink "YearBaskets" (7 : Nat) "YearBaskets$Books") ∈ zG := zt_1 (List.mem_of_getElem? (i := 25) rfl) rfl
theorem q_933 : (Jvm.Cond.instantiable "YearBaskets$Books" (2 : Nat)) ∈ zG := zt_1 (List.mem_of_getElem? (i := 26) rfl) rfl
theorem q_934 : (Jvm.Cond.instanceMethod ({ cls := "YearBaskets", name := "<init>", desc := "()V" } : Jvm.MethodName)) ∈ zG := zt_1 (List.mem_of_getElem? (i := 20) rfl) rfl
theorem q_935 : (Jvm.Cond.code ({ cls := "YearBaskets", name := "<init>", desc := "()V" } : Jvm.MethodName) prog_1_method_1_code (2 : Nat) (Option.none : Option Jvm.ClassFile.FieldType)) ∈ zG := zt_1 (List.mem_of_getElem? (i := 21) rfl) rfl
theorem q_936 : (Jvm.Cond.methodLink "YearBasketsModel" (1 : Nat) ({ cls := "java/lang/Object", name := "<init>", desc := "()V" } : Jvm.MethodName)) ∈ zG := zt_4 (List.mem_of_getElem? (i := 48) rfl) rfl
theorem q_937 : (Jvm.Cond.instanceMethod ({ cls := "YearBasketsModel", name := "<init>", desc := "()V" } : Jvm.MethodName)) ∈ zG := zt_4 (List.mem_of_getElem? (i := 46) rfl) rfl
theorem q_938 : (Jvm.Cond.code ({ cls := "YearBasketsModel", name := "<init>", desc := "()V" } : Jvm.MethodName) prog_10_method_1_code (1 : Nat) (Option.none : Option Jvm.ClassFile.FieldType)) ∈ zG := zt_4 (List.mem_of_getElem? (i := 47) rfl) rfl
abbrev b_B_init : ByteArray := prog_2_method_1_code
abbrev y_B_init : MethodName := ⟨"YearBaskets$Books", "<init>", "()V"⟩
abbrev b_F_init : ByteArray := prog_3_method_1_code
abbrev y_F_init : MethodName := ⟨"YearBaskets$Fraction", "<init>", "()V"⟩
abbrev b_P_init : ByteArray := prog_6_method_1_code
abbrev y_P_init : MethodName := ⟨"YearBaskets$Plan", "<init>", "()V"⟩
abbrev b_R_init : ByteArray := prog_7_method_1_code
abbrev y_R_init : MethodName := ⟨"YearBaskets$Reader", "<init>", "()V"⟩
abbrev b_T_init : ByteArray := prog_8_method_1_code
abbrev y_T_init : MethodName := ⟨"YearBaskets$Teller", "<init>", "()V"⟩
abbrev b_L_init : ByteArray := prog_4_method_1_code
abbrev y_L_init : MethodName := ⟨"YearBaskets$Laws", "<init>", "(LYearBaskets$Books;LYearBaskets$Books;LYearBaskets$Teller;)V"⟩
abbrev b_K_init : ByteArray := prog_5_method_1_code
abbrev y_K_init : MethodName := ⟨"YearBaskets$Likes", "<init>", "(LYearBaskets$Books;)V"⟩
abbrev b_Y_init : ByteArray := prog_1_method_1_code
abbrev y_Y_init : MethodName := ⟨"YearBaskets", "<init>", "()V"⟩
abbrev b_M_init : ByteArray := prog_10_method_1_code
abbrev y_M_init : MethodName := ⟨"YearBasketsModel", "<init>", "()V"⟩
theorem w_B_init : Cond.code y_B_init b_B_init 1 (none) ∈ zG ∧ Cond.instanceMethod y_B_init ∈ zG ∧ Cond.initialized y_B_init.cls ∈ zG ∧ zY y_B_init 0 := ⟨q_887, q_886, q_41, by decide +kernel⟩
theorem w_F_init : Cond.code y_F_init b_F_init 1 (none) ∈ zG ∧ Cond.instanceMethod y_F_init ∈ zG ∧ Cond.initialized y_F_init.cls ∈ zG ∧ zY y_F_init 0 := ⟨q_890, q_889, q_96, by decide +kernel⟩
theorem w_P_init : Cond.code y_P_init b_P_init 1 (none) ∈ zG ∧ Cond.instanceMethod y_P_init ∈ zG ∧ Cond.initialized y_P_init.cls ∈ zG ∧ zY y_P_init 0 := ⟨q_893, q_892, q_136, by decide +kernel⟩
theorem w_R_init : Cond.code y_R_init b_R_init 1 (none) ∈ zG ∧ Cond.instanceMethod y_R_init ∈ zG ∧ Cond.initialized y_R_init.cls ∈ zG ∧ zY y_R_init 0 := ⟨q_896, q_895, q_354, by decide +kernel⟩
theorem w_T_init : Cond.code y_T_init b_T_init 2 (none) ∈ zG ∧ Cond.instanceMethod y_T_init ∈ zG ∧ Cond.initialized y_T_init.cls ∈ zG ∧ zY y_T_init 0 := ⟨q_902, q_901, q_172, by decide +kernel⟩
theorem w_L_init : Cond.code y_L_init b_L_init 4 (none) ∈ zG ∧ Cond.instanceMethod y_L_init ∈ zG ∧ Cond.initialized y_L_init.cls ∈ zG ∧ zY y_L_init 3 := ⟨q_908, q_907, q_233, by decide +kernel⟩
theorem w_K_init : Cond.code y_K_init b_K_init 2 (none) ∈ zG ∧ Cond.instanceMethod y_K_init ∈ zG ∧ Cond.initialized y_K_init.cls ∈ zG ∧ zY y_K_init 1 := ⟨q_912, q_911, q_309, by decide +kernel⟩
theorem w_Y_init : Cond.code y_Y_init b_Y_init 2 (none) ∈ zG ∧ Cond.instanceMethod y_Y_init ∈ zG ∧ Cond.initialized y_Y_init.cls ∈ zG ∧ zY y_Y_init 0 := ⟨q_935, q_934, q_151, by decide +kernel⟩
theorem w_M_init : Cond.code y_M_init b_M_init 1 (none) ∈ zG ∧ Cond.instanceMethod y_M_init ∈ zG ∧ Cond.initialized y_M_init.cls ∈ zG ∧ zY y_M_init 0 := ⟨q_938, q_937, q_547, by decide +kernel⟩
theorem d_B_init_0 : decode b_B_init 0 = .ok (.aload_n 0, 1) := by decide +kernel
theorem d_B_init_1 : decode b_B_init 1 = .ok (.invokespecial 3, 3) := by decide +kernel
theorem d_B_init_4 : decode b_B_init 4 = .ok (.aload_n 0, 1) := by decide +kernel
theorem d_B_init_5 : decode b_B_init 5 = .ok (.bipush 40, 2) := by decide +kernel
theorem d_B_init_7 : decode b_B_init 7 = .ok (.newarray .int, 2) := by decide +kernel
theorem d_B_init_9 : decode b_B_init 9 = .ok (.putfield 9, 3) := by decide +kernel
theorem d_B_init_12 : decode b_B_init 12 = .ok (.aload_n 0, 1) := by decide +kernel
theorem d_B_init_13 : decode b_B_init 13 = .ok (.sipush 160, 3) := by decide +kernel
theorem d_B_init_16 : decode b_B_init 16 = .ok (.newarray .int, 2) := by decide +kernel
theorem d_B_init_18 : decode b_B_init 18 = .ok (.putfield 15, 3) := by decide +kernel
theorem d_B_init_21 : decode b_B_init 21 = .ok (.return_, 1) := by decide +kernel
theorem d_F_init_0 : decode b_F_init 0 = .ok (.aload_n 0, 1) := by decide +kernel
theorem d_F_init_1 : decode b_F_init 1 = .ok (.invokespecial 3, 3) := by decide +kernel
theorem d_F_init_4 : decode b_F_init 4 = .ok (.aload_n 0, 1) := by decide +kernel
theorem d_F_init_5 : decode b_F_init 5 = .ok (.lconst 0, 1) := by decide +kernel
theorem d_F_init_6 : decode b_F_init 6 = .ok (.putfield 9, 3) := by decide +kernel
theorem d_F_init_9 : decode b_F_init 9 = .ok (.aload_n 0, 1) := by decide +kernel
theorem d_F_init_10 : decode b_F_init 10 = .ok (.lconst 1, 1) := by decide +kernel
theorem d_F_init_11 : decode b_F_init 11 = .ok (.putfield 15, 3) := by decide +kernel
theorem d_F_init_14 : decode b_F_init 14 = .ok (.aload_n 0, 1) := by decide +kernel
theorem d_F_init_15 : decode b_F_init 15 = .ok (.iconst 0, 1) := by decide +kernel
theorem d_F_init_16 : decode b_F_init 16 = .ok (.putfield 18, 3) := by decide +kernel
theorem d_F_init_19 : decode b_F_init 19 = .ok (.aload_n 0, 1) := by decide +kernel
theorem d_F_init_20 : decode b_F_init 20 = .ok (.iconst 0, 1) := by decide +kernel
theorem d_F_init_21 : decode b_F_init 21 = .ok (.putfield 22, 3) := by decide +kernel
theorem d_F_init_24 : decode b_F_init 24 = .ok (.return_, 1) := by decide +kernel
theorem d_P_init_0 : decode b_P_init 0 = .ok (.aload_n 0, 1) := by decide +kernel
theorem d_P_init_1 : decode b_P_init 1 = .ok (.invokespecial 3, 3) := by decide +kernel
theorem d_P_init_4 : decode b_P_init 4 = .ok (.aload_n 0, 1) := by decide +kernel
theorem d_P_init_5 : decode b_P_init 5 = .ok (.bipush 20, 2) := by decide +kernel
theorem d_P_init_7 : decode b_P_init 7 = .ok (.newarray .int, 2) := by decide +kernel
theorem d_P_init_9 : decode b_P_init 9 = .ok (.putfield 11, 3) := by decide +kernel
theorem d_P_init_12 : decode b_P_init 12 = .ok (.aload_n 0, 1) := by decide +kernel
theorem d_P_init_13 : decode b_P_init 13 = .ok (.bipush 20, 2) := by decide +kernel
theorem d_P_init_15 : decode b_P_init 15 = .ok (.newarray .int, 2) := by decide +kernel
theorem d_P_init_17 : decode b_P_init 17 = .ok (.putfield 15, 3) := by decide +kernel
theorem d_P_init_20 : decode b_P_init 20 = .ok (.aload_n 0, 1) := by decide +kernel
theorem d_P_init_21 : decode b_P_init 21 = .ok (.iconst 0, 1) := by decide +kernel
theorem d_P_init_22 : decode b_P_init 22 = .ok (.putfield 18, 3) := by decide +kernel
theorem d_P_init_25 : decode b_P_init 25 = .ok (.return_, 1) := by decide +kernel
theorem d_R_init_0 : decode b_R_init 0 = .ok (.aload_n 0, 1) := by decide +kernel
theorem d_R_init_1 : decode b_R_init 1 = .ok (.invokespecial 3, 3) := by decide +kernel
theorem d_R_init_4 : decode b_R_init 4 = .ok (.aload_n 0, 1) := by decide +kernel
theorem d_R_init_5 : decode b_R_init 5 = .ok (.bipush 60, 2) := by decide +kernel
theorem d_R_init_7 : decode b_R_init 7 = .ok (.newarray .int, 2) := by decide +kernel
theorem d_R_init_9 : decode b_R_init 9 = .ok (.putfield 9, 3) := by decide +kernel
theorem d_R_init_12 : decode b_R_init 12 = .ok (.aload_n 0, 1) := by decide +kernel
theorem d_R_init_13 : decode b_R_init 13 = .ok (.iconst 0, 1) := by decide +kernel
theorem d_R_init_14 : decode b_R_init 14 = .ok (.putfield 15, 3) := by decide +kernel
theorem d_R_init_17 : decode b_R_init 17 = .ok (.aload_n 0, 1) := by decide +kernel
theorem d_R_init_18 : decode b_R_init 18 = .ok (.iconst 0, 1) := by decide +kernel
theorem d_R_init_19 : decode b_R_init 19 = .ok (.putfield 19, 3) := by decide +kernel
theorem d_R_init_22 : decode b_R_init 22 = .ok (.aload_n 0, 1) := by decide +kernel
theorem d_R_init_23 : decode b_R_init 23 = .ok (.iconst 0, 1) := by decide +kernel
theorem d_R_init_24 : decode b_R_init 24 = .ok (.putfield 22, 3) := by decide +kernel
theorem d_R_init_27 : decode b_R_init 27 = .ok (.aload_n 0, 1) := by decide +kernel
theorem d_R_init_28 : decode b_R_init 28 = .ok (.iconst (-1), 1) := by decide +kernel
theorem d_R_init_29 : decode b_R_init 29 = .ok (.putfield 25, 3) := by decide +kernel
theorem d_R_init_32 : decode b_R_init 32 = .ok (.aload_n 0, 1) := by decide +kernel
theorem d_R_init_33 : decode b_R_init 33 = .ok (.aconst_null, 1) := by decide +kernel
theorem d_R_init_34 : decode b_R_init 34 = .ok (.putfield 28, 3) := by decide +kernel
theorem d_R_init_37 : decode b_R_init 37 = .ok (.return_, 1) := by decide +kernel
theorem d_T_init_0 : decode b_T_init 0 = .ok (.aload_n 0, 1) := by decide +kernel
theorem d_T_init_1 : decode b_T_init 1 = .ok (.invokespecial 3, 3) := by decide +kernel
theorem d_T_init_4 : decode b_T_init 4 = .ok (.aload_n 0, 1) := by decide +kernel
theorem d_T_init_5 : decode b_T_init 5 = .ok (.bipush 9, 2) := by decide +kernel
theorem d_T_init_7 : decode b_T_init 7 = .ok (.anewarray 9, 3) := by decide +kernel
theorem d_T_init_10 : decode b_T_init 10 = .ok (.putfield 11, 3) := by decide +kernel
theorem d_T_init_13 : decode b_T_init 13 = .ok (.aload_n 0, 1) := by decide +kernel
theorem d_T_init_14 : decode b_T_init 14 = .ok (.aconst_null, 1) := by decide +kernel
theorem d_T_init_15 : decode b_T_init 15 = .ok (.putfield 17, 3) := by decide +kernel
theorem d_T_init_18 : decode b_T_init 18 = .ok (.aload_n 0, 1) := by decide +kernel
theorem d_T_init_19 : decode b_T_init 19 = .ok (.aconst_null, 1) := by decide +kernel
theorem d_T_init_20 : decode b_T_init 20 = .ok (.putfield 21, 3) := by decide +kernel
theorem d_T_init_23 : decode b_T_init 23 = .ok (.aload_n 0, 1) := by decide +kernel
theorem d_T_init_24 : decode b_T_init 24 = .ok (.iconst 0, 1) := by decide +kernel
theorem d_T_init_25 : decode b_T_init 25 = .ok (.putfield 25, 3) := by decide +kernel
theorem d_T_init_28 : decode b_T_init 28 = .ok (.iconst 0, 1) := by decide +kernel
theorem d_T_init_29 : decode b_T_init 29 = .ok (.istore_n 1, 1) := by decide +kernel
theorem d_T_init_30 : decode b_T_init 30 = .ok (.iload_n 1, 1) := by decide +kernel
theorem d_T_init_31 : decode b_T_init 31 = .ok (.aload_n 0, 1) := by decide +kernel
theorem d_T_init_32 : decode b_T_init 32 = .ok (.getfield 11, 3) := by decide +kernel
theorem d_T_init_35 : decode b_T_init 35 = .ok (.arraylength, 1) := by decide +kernel
theorem d_T_init_36 : decode b_T_init 36 = .ok (.if_icmp .ge 22, 3) := by decide +kernel
theorem d_T_init_39 : decode b_T_init 39 = .ok (.aload_n 0, 1) := by decide +kernel
theorem d_T_init_40 : decode b_T_init 40 = .ok (.getfield 11, 3) := by decide +kernel
theorem d_T_init_43 : decode b_T_init 43 = .ok (.iload_n 1, 1) := by decide +kernel
theorem d_T_init_44 : decode b_T_init 44 = .ok (.new 9, 3) := by decide +kernel
theorem d_T_init_47 : decode b_T_init 47 = .ok (.dup, 1) := by decide +kernel
theorem d_T_init_48 : decode b_T_init 48 = .ok (.invokespecial 29, 3) := by decide +kernel
theorem d_T_init_51 : decode b_T_init 51 = .ok (.aastore, 1) := by decide +kernel
theorem d_T_init_52 : decode b_T_init 52 = .ok (.iinc 1 1, 3) := by decide +kernel
theorem d_T_init_55 : decode b_T_init 55 = .ok (.goto (-25), 3) := by decide +kernel
theorem d_T_init_58 : decode b_T_init 58 = .ok (.return_, 1) := by decide +kernel
theorem d_L_init_0 : decode b_L_init 0 = .ok (.aload_n 0, 1) := by decide +kernel
theorem d_L_init_1 : decode b_L_init 1 = .ok (.invokespecial 3, 3) := by decide +kernel
theorem d_L_init_4 : decode b_L_init 4 = .ok (.aload_n 0, 1) := by decide +kernel
theorem d_L_init_5 : decode b_L_init 5 = .ok (.bipush 64, 2) := by decide +kernel
theorem d_L_init_7 : decode b_L_init 7 = .ok (.newarray .long, 2) := by decide +kernel
theorem d_L_init_9 : decode b_L_init 9 = .ok (.putfield 9, 3) := by decide +kernel
theorem d_L_init_12 : decode b_L_init 12 = .ok (.aload_n 0, 1) := by decide +kernel
theorem d_L_init_13 : decode b_L_init 13 = .ok (.bipush 64, 2) := by decide +kernel
theorem d_L_init_15 : decode b_L_init 15 = .ok (.newarray .long, 2) := by decide +kernel
theorem d_L_init_17 : decode b_L_init 17 = .ok (.putfield 15, 3) := by decide +kernel
theorem d_L_init_20 : decode b_L_init 20 = .ok (.aload_n 0, 1) := by decide +kernel
theorem d_L_init_21 : decode b_L_init 21 = .ok (.bipush 64, 2) := by decide +kernel
theorem d_L_init_23 : decode b_L_init 23 = .ok (.newarray .int, 2) := by decide +kernel
theorem d_L_init_25 : decode b_L_init 25 = .ok (.putfield 18, 3) := by decide +kernel
theorem d_L_init_28 : decode b_L_init 28 = .ok (.aload_n 0, 1) := by decide +kernel
theorem d_L_init_29 : decode b_L_init 29 = .ok (.sipush 224, 3) := by decide +kernel
theorem d_L_init_32 : decode b_L_init 32 = .ok (.newarray .int, 2) := by decide +kernel
theorem d_L_init_34 : decode b_L_init 34 = .ok (.putfield 22, 3) := by decide +kernel
theorem d_L_init_37 : decode b_L_init 37 = .ok (.aload_n 0, 1) := by decide +kernel
theorem d_L_init_38 : decode b_L_init 38 = .ok (.bipush 8, 2) := by decide +kernel
theorem d_L_init_40 : decode b_L_init 40 = .ok (.newarray .int, 2) := by decide +kernel
theorem d_L_init_42 : decode b_L_init 42 = .ok (.putfield 25, 3) := by decide +kernel
theorem d_L_init_45 : decode b_L_init 45 = .ok (.aload_n 0, 1) := by decide +kernel
theorem d_L_init_46 : decode b_L_init 46 = .ok (.new 28, 3) := by decide +kernel
theorem d_L_init_49 : decode b_L_init 49 = .ok (.dup, 1) := by decide +kernel
theorem d_L_init_50 : decode b_L_init 50 = .ok (.invokespecial 30, 3) := by decide +kernel
theorem d_L_init_53 : decode b_L_init 53 = .ok (.putfield 31, 3) := by decide +kernel
theorem d_L_init_56 : decode b_L_init 56 = .ok (.aload_n 0, 1) := by decide +kernel
theorem d_L_init_57 : decode b_L_init 57 = .ok (.new 28, 3) := by decide +kernel
theorem d_L_init_60 : decode b_L_init 60 = .ok (.dup, 1) := by decide +kernel
theorem d_L_init_61 : decode b_L_init 61 = .ok (.invokespecial 30, 3) := by decide +kernel
theorem d_L_init_64 : decode b_L_init 64 = .ok (.putfield 35, 3) := by decide +kernel
theorem d_L_init_67 : decode b_L_init 67 = .ok (.aload_n 0, 1) := by decide +kernel
theorem d_L_init_68 : decode b_L_init 68 = .ok (.aconst_null, 1) := by decide +kernel
theorem d_L_init_69 : decode b_L_init 69 = .ok (.putfield 38, 3) := by decide +kernel
theorem d_L_init_72 : decode b_L_init 72 = .ok (.aload_n 0, 1) := by decide +kernel
theorem d_L_init_73 : decode b_L_init 73 = .ok (.iconst 0, 1) := by decide +kernel
theorem d_L_init_74 : decode b_L_init 74 = .ok (.putfield 42, 3) := by decide +kernel
theorem d_L_init_77 : decode b_L_init 77 = .ok (.aload_n 0, 1) := by decide +kernel
theorem d_L_init_78 : decode b_L_init 78 = .ok (.iconst (-1), 1) := by decide +kernel
theorem d_L_init_79 : decode b_L_init 79 = .ok (.putfield 46, 3) := by decide +kernel
theorem d_L_init_82 : decode b_L_init 82 = .ok (.aload_n 0, 1) := by decide +kernel
theorem d_L_init_83 : decode b_L_init 83 = .ok (.aload_n 1, 1) := by decide +kernel
theorem d_L_init_84 : decode b_L_init 84 = .ok (.putfield 49, 3) := by decide +kernel
theorem d_L_init_87 : decode b_L_init 87 = .ok (.aload_n 0, 1) := by decide +kernel
theorem d_L_init_88 : decode b_L_init 88 = .ok (.aload_n 2, 1) := by decide +kernel
theorem d_L_init_89 : decode b_L_init 89 = .ok (.putfield 53, 3) := by decide +kernel
theorem d_L_init_92 : decode b_L_init 92 = .ok (.aload_n 0, 1) := by decide +kernel
theorem d_L_init_93 : decode b_L_init 93 = .ok (.aload_n 3, 1) := by decide +kernel
theorem d_L_init_94 : decode b_L_init 94 = .ok (.putfield 56, 3) := by decide +kernel
theorem d_L_init_97 : decode b_L_init 97 = .ok (.return_, 1) := by decide +kernel
theorem d_K_init_0 : decode b_K_init 0 = .ok (.aload_n 0, 1) := by decide +kernel
theorem d_K_init_1 : decode b_K_init 1 = .ok (.invokespecial 3, 3) := by decide +kernel
theorem d_K_init_4 : decode b_K_init 4 = .ok (.aload_n 0, 1) := by decide +kernel
theorem d_K_init_5 : decode b_K_init 5 = .ok (.bipush 64, 2) := by decide +kernel
theorem d_K_init_7 : decode b_K_init 7 = .ok (.newarray .int, 2) := by decide +kernel
theorem d_K_init_9 : decode b_K_init 9 = .ok (.putfield 9, 3) := by decide +kernel
theorem d_K_init_12 : decode b_K_init 12 = .ok (.aload_n 0, 1) := by decide +kernel
theorem d_K_init_13 : decode b_K_init 13 = .ok (.bipush 8, 2) := by decide +kernel
theorem d_K_init_15 : decode b_K_init 15 = .ok (.newarray .int, 2) := by decide +kernel
theorem d_K_init_17 : decode b_K_init 17 = .ok (.putfield 15, 3) := by decide +kernel
theorem d_K_init_20 : decode b_K_init 20 = .ok (.aload_n 0, 1) := by decide +kernel
theorem d_K_init_21 : decode b_K_init 21 = .ok (.bipush 8, 2) := by decide +kernel
theorem d_K_init_23 : decode b_K_init 23 = .ok (.newarray .boolean, 2) := by decide +kernel
theorem d_K_init_25 : decode b_K_init 25 = .ok (.putfield 18, 3) := by decide +kernel
theorem d_K_init_28 : decode b_K_init 28 = .ok (.aload_n 0, 1) := by decide +kernel
theorem d_K_init_29 : decode b_K_init 29 = .ok (.aload_n 1, 1) := by decide +kernel
theorem d_K_init_30 : decode b_K_init 30 = .ok (.putfield 22, 3) := by decide +kernel
theorem d_K_init_33 : decode b_K_init 33 = .ok (.return_, 1) := by decide +kernel
theorem d_Y_init_0 : decode b_Y_init 0 = .ok (.aload_n 0, 1) := by decide +kernel
theorem d_Y_init_1 : decode b_Y_init 1 = .ok (.invokespecial 1, 3) := by decide +kernel
theorem d_Y_init_4 : decode b_Y_init 4 = .ok (.aload_n 0, 1) := by decide +kernel
theorem d_Y_init_5 : decode b_Y_init 5 = .ok (.new 7, 3) := by decide +kernel
theorem d_Y_init_8 : decode b_Y_init 8 = .ok (.dup, 1) := by decide +kernel
theorem d_Y_init_9 : decode b_Y_init 9 = .ok (.invokespecial 9, 3) := by decide +kernel
theorem d_Y_init_12 : decode b_Y_init 12 = .ok (.putfield 10, 3) := by decide +kernel
theorem d_Y_init_15 : decode b_Y_init 15 = .ok (.aload_n 0, 1) := by decide +kernel
theorem d_Y_init_16 : decode b_Y_init 16 = .ok (.new 7, 3) := by decide +kernel
theorem d_Y_init_19 : decode b_Y_init 19 = .ok (.dup, 1) := by decide +kernel
theorem d_Y_init_20 : decode b_Y_init 20 = .ok (.invokespecial 9, 3) := by decide +kernel
theorem d_Y_init_23 : decode b_Y_init 23 = .ok (.putfield 16, 3) := by decide +kernel
theorem d_Y_init_26 : decode b_Y_init 26 = .ok (.aload_n 0, 1) := by decide +kernel
theorem d_Y_init_27 : decode b_Y_init 27 = .ok (.bipush 8, 2) := by decide +kernel
theorem d_Y_init_29 : decode b_Y_init 29 = .ok (.anewarray 19, 3) := by decide +kernel
theorem d_Y_init_32 : decode b_Y_init 32 = .ok (.putfield 21, 3) := by decide +kernel
theorem d_Y_init_35 : decode b_Y_init 35 = .ok (.iconst 0, 1) := by decide +kernel
theorem d_Y_init_36 : decode b_Y_init 36 = .ok (.istore_n 1, 1) := by decide +kernel
theorem d_Y_init_37 : decode b_Y_init 37 = .ok (.iload_n 1, 1) := by decide +kernel
theorem d_Y_init_38 : decode b_Y_init 38 = .ok (.bipush 8, 2) := by decide +kernel
theorem d_Y_init_40 : decode b_Y_init 40 = .ok (.if_icmp .ge 22, 3) := by decide +kernel
theorem d_Y_init_43 : decode b_Y_init 43 = .ok (.aload_n 0, 1) := by decide +kernel
theorem d_Y_init_44 : decode b_Y_init 44 = .ok (.getfield 21, 3) := by decide +kernel
theorem d_Y_init_47 : decode b_Y_init 47 = .ok (.iload_n 1, 1) := by decide +kernel
theorem d_Y_init_48 : decode b_Y_init 48 = .ok (.new 19, 3) := by decide +kernel
theorem d_Y_init_51 : decode b_Y_init 51 = .ok (.dup, 1) := by decide +kernel
theorem d_Y_init_52 : decode b_Y_init 52 = .ok (.invokespecial 25, 3) := by decide +kernel
theorem d_Y_init_55 : decode b_Y_init 55 = .ok (.aastore, 1) := by decide +kernel
theorem d_Y_init_56 : decode b_Y_init 56 = .ok (.iinc 1 1, 3) := by decide +kernel
theorem d_Y_init_59 : decode b_Y_init 59 = .ok (.goto (-22), 3) := by decide +kernel
theorem d_Y_init_62 : decode b_Y_init 62 = .ok (.aload_n 0, 1) := by decide +kernel
theorem d_Y_init_63 : decode b_Y_init 63 = .ok (.new 26, 3) := by decide +kernel
theorem d_Y_init_66 : decode b_Y_init 66 = .ok (.dup, 1) := by decide +kernel
theorem d_Y_init_67 : decode b_Y_init 67 = .ok (.invokespecial 28, 3) := by decide +kernel
theorem d_Y_init_70 : decode b_Y_init 70 = .ok (.putfield 29, 3) := by decide +kernel
theorem d_Y_init_73 : decode b_Y_init 73 = .ok (.aload_n 0, 1) := by decide +kernel
theorem d_Y_init_74 : decode b_Y_init 74 = .ok (.new 33, 3) := by decide +kernel
theorem d_Y_init_77 : decode b_Y_init 77 = .ok (.dup, 1) := by decide +kernel
theorem d_Y_init_78 : decode b_Y_init 78 = .ok (.invokespecial 35, 3) := by decide +kernel
theorem d_Y_init_81 : decode b_Y_init 81 = .ok (.putfield 36, 3) := by decide +kernel
theorem d_Y_init_84 : decode b_Y_init 84 = .ok (.aload_n 0, 1) := by decide +kernel
theorem d_Y_init_85 : decode b_Y_init 85 = .ok (.new 40, 3) := by decide +kernel
theorem d_Y_init_88 : decode b_Y_init 88 = .ok (.dup, 1) := by decide +kernel
theorem d_Y_init_89 : decode b_Y_init 89 = .ok (.aload_n 0, 1) := by decide +kernel
theorem d_Y_init_90 : decode b_Y_init 90 = .ok (.getfield 10, 3) := by decide +kernel
theorem d_Y_init_93 : decode b_Y_init 93 = .ok (.aload_n 0, 1) := by decide +kernel
theorem d_Y_init_94 : decode b_Y_init 94 = .ok (.getfield 16, 3) := by decide +kernel
theorem d_Y_init_97 : decode b_Y_init 97 = .ok (.aload_n 0, 1) := by decide +kernel
theorem d_Y_init_98 : decode b_Y_init 98 = .ok (.getfield 36, 3) := by decide +kernel
theorem d_Y_init_101 : decode b_Y_init 101 = .ok (.invokespecial 42, 3) := by decide +kernel
theorem d_Y_init_104 : decode b_Y_init 104 = .ok (.putfield 45, 3) := by decide +kernel
theorem d_Y_init_107 : decode b_Y_init 107 = .ok (.aload_n 0, 1) := by decide +kernel
theorem d_Y_init_108 : decode b_Y_init 108 = .ok (.new 49, 3) := by decide +kernel
theorem d_Y_init_111 : decode b_Y_init 111 = .ok (.dup, 1) := by decide +kernel
theorem d_Y_init_112 : decode b_Y_init 112 = .ok (.aload_n 0, 1) := by decide +kernel
theorem d_Y_init_113 : decode b_Y_init 113 = .ok (.getfield 10, 3) := by decide +kernel
theorem d_Y_init_116 : decode b_Y_init 116 = .ok (.invokespecial 51, 3) := by decide +kernel
theorem d_Y_init_119 : decode b_Y_init 119 = .ok (.putfield 54, 3) := by decide +kernel
theorem d_Y_init_122 : decode b_Y_init 122 = .ok (.aload_n 0, 1) := by decide +kernel
theorem d_Y_init_123 : decode b_Y_init 123 = .ok (.new 58, 3) := by decide +kernel
theorem d_Y_init_126 : decode b_Y_init 126 = .ok (.dup, 1) := by decide +kernel
theorem d_Y_init_127 : decode b_Y_init 127 = .ok (.invokespecial 60, 3) := by decide +kernel
theorem d_Y_init_130 : decode b_Y_init 130 = .ok (.putfield 61, 3) := by decide +kernel
theorem d_Y_init_133 : decode b_Y_init 133 = .ok (.aload_n 0, 1) := by decide +kernel
theorem d_Y_init_134 : decode b_Y_init 134 = .ok (.new 58, 3) := by decide +kernel
theorem d_Y_init_137 : decode b_Y_init 137 = .ok (.dup, 1) := by decide +kernel
theorem d_Y_init_138 : decode b_Y_init 138 = .ok (.invokespecial 60, 3) := by decide +kernel
theorem d_Y_init_141 : decode b_Y_init 141 = .ok (.putfield 65, 3) := by decide +kernel
theorem d_Y_init_144 : decode b_Y_init 144 = .ok (.aload_n 0, 1) := by decide +kernel
theorem d_Y_init_145 : decode b_Y_init 145 = .ok (.iconst 0, 1) := by decide +kernel
theorem d_Y_init_146 : decode b_Y_init 146 = .ok (.putfield 68, 3) := by decide +kernel
theorem d_Y_init_149 : decode b_Y_init 149 = .ok (.aload_n 0, 1) := by decide +kernel
theorem d_Y_init_150 : decode b_Y_init 150 = .ok (.iconst (-1), 1) := by decide +kernel
theorem d_Y_init_151 : decode b_Y_init 151 = .ok (.putfield 72, 3) := by decide +kernel
theorem d_Y_init_154 : decode b_Y_init 154 = .ok (.return_, 1) := by decide +kernel
theorem d_M_init_0 : decode b_M_init 0 = .ok (.aload_n 0, 1) := by decide +kernel
theorem d_M_init_1 : decode b_M_init 1 = .ok (.invokespecial 1, 3) := by decide +kernel
theorem d_M_init_4 : decode b_M_init 4 = .ok (.aload_n 0, 1) := by decide +kernel
theorem d_M_init_5 : decode b_M_init 5 = .ok (.bipush 50, 2) := by decide +kernel
theorem d_M_init_7 : decode b_M_init 7 = .ok (.newarray .int, 2) := by decide +kernel
theorem d_M_init_9 : decode b_M_init 9 = .ok (.putfield 7, 3) := by decide +kernel
theorem d_M_init_12 : decode b_M_init 12 = .ok (.aload_n 0, 1) := by decide +kernel
theorem d_M_init_13 : decode b_M_init 13 = .ok (.sipush 150, 3) := by decide +kernel
theorem d_M_init_16 : decode b_M_init 16 = .ok (.newarray .int, 2) := by decide +kernel
theorem d_M_init_18 : decode b_M_init 18 = .ok (.putfield 13, 3) := by decide +kernel
theorem d_M_init_21 : decode b_M_init 21 = .ok (.aload_n 0, 1) := by decide +kernel
theorem d_M_init_22 : decode b_M_init 22 = .ok (.sipush 320, 3) := by decide +kernel
theorem d_M_init_25 : decode b_M_init 25 = .ok (.newarray .int, 2) := by decide +kernel
theorem d_M_init_27 : decode b_M_init 27 = .ok (.putfield 16, 3) := by decide +kernel
theorem d_M_init_30 : decode b_M_init 30 = .ok (.aload_n 0, 1) := by decide +kernel
theorem d_M_init_31 : decode b_M_init 31 = .ok (.sipush 320, 3) := by decide +kernel
theorem d_M_init_34 : decode b_M_init 34 = .ok (.newarray .int, 2) := by decide +kernel
theorem d_M_init_36 : decode b_M_init 36 = .ok (.putfield 19, 3) := by decide +kernel
theorem d_M_init_39 : decode b_M_init 39 = .ok (.aload_n 0, 1) := by decide +kernel
theorem d_M_init_40 : decode b_M_init 40 = .ok (.bipush 80, 2) := by decide +kernel
theorem d_M_init_42 : decode b_M_init 42 = .ok (.newarray .int, 2) := by decide +kernel
theorem d_M_init_44 : decode b_M_init 44 = .ok (.putfield 22, 3) := by decide +kernel
theorem d_M_init_47 : decode b_M_init 47 = .ok (.aload_n 0, 1) := by decide +kernel
theorem d_M_init_48 : decode b_M_init 48 = .ok (.iconst (-1), 1) := by decide +kernel
theorem d_M_init_49 : decode b_M_init 49 = .ok (.putfield 25, 3) := by decide +kernel
theorem d_M_init_52 : decode b_M_init 52 = .ok (.aload_n 0, 1) := by decide +kernel
theorem d_M_init_53 : decode b_M_init 53 = .ok (.bipush 8, 2) := by decide +kernel
theorem d_M_init_55 : decode b_M_init 55 = .ok (.newarray .int, 2) := by decide +kernel
theorem d_M_init_57 : decode b_M_init 57 = .ok (.putfield 29, 3) := by decide +kernel
theorem d_M_init_60 : decode b_M_init 60 = .ok (.aload_n 0, 1) := by decide +kernel
theorem d_M_init_61 : decode b_M_init 61 = .ok (.bipush 8, 2) := by decide +kernel
theorem d_M_init_63 : decode b_M_init 63 = .ok (.newarray .boolean, 2) := by decide +kernel
theorem d_M_init_65 : decode b_M_init 65 = .ok (.putfield 32, 3) := by decide +kernel
theorem d_M_init_68 : decode b_M_init 68 = .ok (.aload_n 0, 1) := by decide +kernel
theorem d_M_init_69 : decode b_M_init 69 = .ok (.bipush 8, 2) := by decide +kernel
theorem d_M_init_71 : decode b_M_init 71 = .ok (.newarray .int, 2) := by decide +kernel
theorem d_M_init_73 : decode b_M_init 73 = .ok (.putfield 36, 3) := by decide +kernel
theorem d_M_init_76 : decode b_M_init 76 = .ok (.aload_n 0, 1) := by decide +kernel
theorem d_M_init_77 : decode b_M_init 77 = .ok (.bipush 8, 2) := by decide +kernel
theorem d_M_init_79 : decode b_M_init 79 = .ok (.newarray .int, 2) := by decide +kernel
theorem d_M_init_81 : decode b_M_init 81 = .ok (.putfield 39, 3) := by decide +kernel
theorem d_M_init_84 : decode b_M_init 84 = .ok (.aload_n 0, 1) := by decide +kernel
theorem d_M_init_85 : decode b_M_init 85 = .ok (.bipush 8, 2) := by decide +kernel
theorem d_M_init_87 : decode b_M_init 87 = .ok (.newarray .int, 2) := by decide +kernel
theorem d_M_init_89 : decode b_M_init 89 = .ok (.putfield 42, 3) := by decide +kernel
theorem d_M_init_92 : decode b_M_init 92 = .ok (.aload_n 0, 1) := by decide +kernel
theorem d_M_init_93 : decode b_M_init 93 = .ok (.bipush 8, 2) := by decide +kernel
theorem d_M_init_95 : decode b_M_init 95 = .ok (.newarray .int, 2) := by decide +kernel
theorem d_M_init_97 : decode b_M_init 97 = .ok (.putfield 45, 3) := by decide +kernel
theorem d_M_init_100 : decode b_M_init 100 = .ok (.aload_n 0, 1) := by decide +kernel
theorem d_M_init_101 : decode b_M_init 101 = .ok (.bipush 8, 2) := by decide +kernel
theorem d_M_init_103 : decode b_M_init 103 = .ok (.newarray .int, 2) := by decide +kernel
theorem d_M_init_105 : decode b_M_init 105 = .ok (.putfield 48, 3) := by decide +kernel
theorem d_M_init_108 : decode b_M_init 108 = .ok (.aload_n 0, 1) := by decide +kernel
theorem d_M_init_109 : decode b_M_init 109 = .ok (.bipush 8, 2) := by decide +kernel
theorem d_M_init_111 : decode b_M_init 111 = .ok (.newarray .long, 2) := by decide +kernel
theorem d_M_init_113 : decode b_M_init 113 = .ok (.putfield 51, 3) := by decide +kernel
theorem d_M_init_116 : decode b_M_init 116 = .ok (.aload_n 0, 1) := by decide +kernel
theorem d_M_init_117 : decode b_M_init 117 = .ok (.bipush 8, 2) := by decide +kernel
theorem d_M_init_119 : decode b_M_init 119 = .ok (.newarray .long, 2) := by decide +kernel
theorem d_M_init_121 : decode b_M_init 121 = .ok (.putfield 55, 3) := by decide +kernel
theorem d_M_init_124 : decode b_M_init 124 = .ok (.aload_n 0, 1) := by decide +kernel
theorem d_M_init_125 : decode b_M_init 125 = .ok (.bipush 8, 2) := by decide +kernel
theorem d_M_init_127 : decode b_M_init 127 = .ok (.newarray .boolean, 2) := by decide +kernel
theorem d_M_init_129 : decode b_M_init 129 = .ok (.putfield 58, 3) := by decide +kernel
theorem d_M_init_132 : decode b_M_init 132 = .ok (.aload_n 0, 1) := by decide +kernel
theorem d_M_init_133 : decode b_M_init 133 = .ok (.iconst 3, 1) := by decide +kernel
theorem d_M_init_134 : decode b_M_init 134 = .ok (.newarray .long, 2) := by decide +kernel
theorem d_M_init_136 : decode b_M_init 136 = .ok (.putfield 61, 3) := by decide +kernel
theorem d_M_init_139 : decode b_M_init 139 = .ok (.aload_n 0, 1) := by decide +kernel
theorem d_M_init_140 : decode b_M_init 140 = .ok (.iconst 3, 1) := by decide +kernel
theorem d_M_init_141 : decode b_M_init 141 = .ok (.newarray .long, 2) := by decide +kernel
theorem d_M_init_143 : decode b_M_init 143 = .ok (.putfield 64, 3) := by decide +kernel
theorem d_M_init_146 : decode b_M_init 146 = .ok (.aload_n 0, 1) := by decide +kernel
theorem d_M_init_147 : decode b_M_init 147 = .ok (.iconst 3, 1) := by decide +kernel
theorem d_M_init_148 : decode b_M_init 148 = .ok (.newarray .boolean, 2) := by decide +kernel
theorem d_M_init_150 : decode b_M_init 150 = .ok (.putfield 67, 3) := by decide +kernel
theorem d_M_init_153 : decode b_M_init 153 = .ok (.aload_n 0, 1) := by decide +kernel
theorem d_M_init_154 : decode b_M_init 154 = .ok (.bipush 50, 2) := by decide +kernel
theorem d_M_init_156 : decode b_M_init 156 = .ok (.newarray .int, 2) := by decide +kernel
theorem d_M_init_158 : decode b_M_init 158 = .ok (.putfield 70, 3) := by decide +kernel
theorem d_M_init_161 : decode b_M_init 161 = .ok (.aload_n 0, 1) := by decide +kernel
theorem d_M_init_162 : decode b_M_init 162 = .ok (.sipush 150, 3) := by decide +kernel
theorem d_M_init_165 : decode b_M_init 165 = .ok (.newarray .int, 2) := by decide +kernel
theorem d_M_init_167 : decode b_M_init 167 = .ok (.putfield 73, 3) := by decide +kernel
theorem d_M_init_170 : decode b_M_init 170 = .ok (.aload_n 0, 1) := by decide +kernel
theorem d_M_init_171 : decode b_M_init 171 = .ok (.bipush 8, 2) := by decide +kernel
theorem d_M_init_173 : decode b_M_init 173 = .ok (.newarray .int, 2) := by decide +kernel
theorem d_M_init_175 : decode b_M_init 175 = .ok (.putfield 76, 3) := by decide +kernel
theorem d_M_init_178 : decode b_M_init 178 = .ok (.aload_n 0, 1) := by decide +kernel
theorem d_M_init_179 : decode b_M_init 179 = .ok (.sipush 1100, 3) := by decide +kernel
theorem d_M_init_182 : decode b_M_init 182 = .ok (.newarray .boolean, 2) := by decide +kernel
theorem d_M_init_184 : decode b_M_init 184 = .ok (.putfield 79, 3) := by decide +kernel
theorem d_M_init_187 : decode b_M_init 187 = .ok (.aload_n 0, 1) := by decide +kernel
theorem d_M_init_188 : decode b_M_init 188 = .ok (.sipush 1100, 3) := by decide +kernel
theorem d_M_init_191 : decode b_M_init 191 = .ok (.newarray .boolean, 2) := by decide +kernel
theorem d_M_init_193 : decode b_M_init 193 = .ok (.putfield 82, 3) := by decide +kernel
theorem d_M_init_196 : decode b_M_init 196 = .ok (.aload_n 0, 1) := by decide +kernel
theorem d_M_init_197 : decode b_M_init 197 = .ok (.bipush 100, 2) := by decide +kernel
theorem d_M_init_199 : decode b_M_init 199 = .ok (.newarray .int, 2) := by decide +kernel
theorem d_M_init_201 : decode b_M_init 201 = .ok (.putfield 85, 3) := by decide +kernel
theorem d_M_init_204 : decode b_M_init 204 = .ok (.return_, 1) := by decide +kernel
def f_B_init (this : Nat)  (h : Hp) (n : Nat) : Option Hp :=
  (some (hup h n (.inl (0, 40, .inl (fun _ => 0))))).bind fun h1 =>
  (pV h1 this 0 0 (.ref n)).bind fun h3 =>
  (some (hup h3 (n + 1) (.inl (0, 160, .inl (fun _ => 0))))).bind fun h5 =>
  (pV h5 this 0 1 (.ref (n + 1))).bind fun h7 =>
  some h7
set_option maxRecDepth 100000 in
set_option maxHeartbeats 8000000 in
theorem c_B_init {l : Launch} {N0 : Nat} {D : va_G} {cs : Nat → ClassId} {this : Nat} {h : Hp} {n : Nat} {h0 : Hp} (hf : f_B_init this  h n = some h0) : FnI l N0 D cs y_B_init b_B_init 1 2 2 200 [.ref this] h n h0 (n + 2) := by
  refine z_startI (by decide) (Nat.le_of_ble_eq_true rfl) ?_
  intro p e s m args below meth c M hAO H hz hH hS ls hl
  unfold f_B_init at hf
  have hl : lv_has ls 1 [(0, .ref this)] := hl
  obtain ⟨locs, hLe⟩ : ∃ locs : List Loc, locs = [] := ⟨_, rfl⟩
  rw [← hLe] at hS
  suffices hg : W p l e (zrm 2 2 200) s m args below meth c H locs 0 0 (MQ below (zQI N0 D cs h0 (n + 2)) args s 2 200 (zA N0)) (F0 m 0 ls []) by rw [hLe] at hg; exact hg
  clear hLe
  refine lv_aload_n M.x M.b d_B_init_0 rfl (lv_at hl 0 rfl) ?_
  refine zi_obj M q_882 q_883 q_884 hl.1 (Nat.le_of_ble_eq_true rfl) (Nat.le_of_ble_eq_true rfl) d_B_init_1 ?_
  refine lv_aload_n M.x M.b d_B_init_4 rfl (lv_at hl 0 rfl) ?_
  refine lv_bipush (v := (40 : Int32)) M.x M.b d_B_init_5 rfl ?_
  replace hf := z_bind hf; obtain ⟨h1, e2, hf⟩ := hf
  refine zi_newa (atype := .int) (t := 0) (N := 40) (a0 := (40, .inl (fun _ => 0))) M hH hS hz q_885 rfl (fun _ _ q => q) (fun _ => rfl) (by decide) (by decide) (Nat.le_of_ble_eq_true rfl) (Nat.le_of_ble_eq_true rfl) (Nat.le_of_ble_eq_true rfl) d_B_init_7 (fun H hz hH hS => ?_)
  rw [Option.some.inj e2] at hH
  replace hf := z_bind hf; obtain ⟨h3, e4, hf⟩ := hf
  refine zi_put (ci := 0) (k := 0) M hH hS hz rfl (by decide) zinB zYB zYB_ok zNB_ok rfl rfl q_47 rfl rfl rfl e4 d_B_init_9 (fun H locs hz hH hS => ?_)
  refine lv_aload_n M.x M.b d_B_init_12 rfl (lv_at hl 0 rfl) ?_
  refine lv_sipush (v := (160 : Int32)) M.x M.b d_B_init_13 rfl ?_
  replace hf := z_bind hf; obtain ⟨h5, e6, hf⟩ := hf
  refine zi_newa (atype := .int) (t := 0) (N := 160) (a0 := (160, .inl (fun _ => 0))) M hH hS hz q_885 rfl (fun _ _ q => q) (fun _ => rfl) (by decide) (by decide) (Nat.le_of_ble_eq_true rfl) (Nat.le_of_ble_eq_true rfl) (Nat.le_of_ble_eq_true rfl) d_B_init_16 (fun H hz hH hS => ?_)
  rw [Option.some.inj e6] at hH
  replace hf := z_bind hf; obtain ⟨h7, e8, hf⟩ := hf
  refine zi_put (ci := 0) (k := 1) M hH hS hz rfl (by decide) zinB zYB zYB_ok zNB_ok rfl rfl q_46 rfl rfl rfl e8 d_B_init_18 (fun H locs hz hH hS => ?_)
  obtain rfl := z_r1 hf
  exact zi_vret M hH hS hz (Nat.le_of_ble_eq_true rfl) (Nat.le_of_ble_eq_true rfl) d_B_init_21
def f_F_init (this : Nat)  (h : Hp) (n : Nat) : Option Hp :=
  (pV h this 1 0 (.long (0 : Int64))).bind fun h1 =>
  (pV h1 this 1 1 (.long (1 : Int64))).bind fun h3 =>
  (pV h3 this 1 2 (.int (0 : Int32))).bind fun h5 =>
  (pV h5 this 1 3 (.int (0 : Int32))).bind fun h7 =>
  some h7
set_option maxRecDepth 100000 in
set_option maxHeartbeats 8000000 in
theorem c_F_init {l : Launch} {N0 : Nat} {D : va_G} {cs : Nat → ClassId} {this : Nat} {h : Hp} {n : Nat} {h0 : Hp} (hf : f_F_init this  h n = some h0) : FnI l N0 D cs y_F_init b_F_init 1 2 0 0 [.ref this] h n h0 (n + 0) := by
  refine z_startI (by decide) (Nat.le_of_ble_eq_true rfl) ?_
  intro p e s m args below meth c M hAO H hz hH hS ls hl
  unfold f_F_init at hf
  have hl : lv_has ls 1 [(0, .ref this)] := hl
  obtain ⟨locs, hLe⟩ : ∃ locs : List Loc, locs = [] := ⟨_, rfl⟩
  rw [← hLe] at hS
  suffices hg : W p l e (zrm 2 0 0) s m args below meth c H locs 0 0 (MQ below (zQI N0 D cs h0 (n + 0)) args s 0 0 (zA N0)) (F0 m 0 ls []) by rw [hLe] at hg; exact hg
  clear hLe
  refine lv_aload_n M.x M.b d_F_init_0 rfl (lv_at hl 0 rfl) ?_
  refine zi_obj M q_888 q_883 q_884 hl.1 (Nat.le_of_ble_eq_true rfl) (Nat.le_of_ble_eq_true rfl) d_F_init_1 ?_
  refine lv_aload_n M.x M.b d_F_init_4 rfl (lv_at hl 0 rfl) ?_
  refine lv_lconst (v := (0 : Int64)) M.x M.b d_F_init_5 rfl ?_
  replace hf := z_bind hf; obtain ⟨h1, e2, hf⟩ := hf
  refine zi_put (ci := 1) (k := 0) M hH hS hz rfl (by decide) zinF zYF zYF_ok zNF_ok rfl rfl q_100 rfl rfl rfl e2 d_F_init_6 (fun H locs hz hH hS => ?_)
  refine lv_aload_n M.x M.b d_F_init_9 rfl (lv_at hl 0 rfl) ?_
  refine lv_lconst (v := (1 : Int64)) M.x M.b d_F_init_10 rfl ?_
  replace hf := z_bind hf; obtain ⟨h3, e4, hf⟩ := hf
  refine zi_put (ci := 1) (k := 1) M hH hS hz rfl (by decide) zinF zYF zYF_ok zNF_ok rfl rfl q_99 rfl rfl rfl e4 d_F_init_11 (fun H locs hz hH hS => ?_)
  refine lv_aload_n M.x M.b d_F_init_14 rfl (lv_at hl 0 rfl) ?_
  refine lv_iconst (v := (0 : Int32)) M.x M.b d_F_init_15 rfl ?_
  replace hf := z_bind hf; obtain ⟨h5, e6, hf⟩ := hf
  refine zi_put (ci := 1) (k := 2) M hH hS hz rfl (by decide) zinF zYF zYF_ok zNF_ok rfl rfl q_98 rfl (z_nb (by decide)) (z_fb (by decide)) e6 d_F_init_16 (fun H locs hz hH hS => ?_)
  refine lv_aload_n M.x M.b d_F_init_19 rfl (lv_at hl 0 rfl) ?_
  refine lv_iconst (v := (0 : Int32)) M.x M.b d_F_init_20 rfl ?_
  replace hf := z_bind hf; obtain ⟨h7, e8, hf⟩ := hf
  refine zi_put (ci := 1) (k := 3) M hH hS hz rfl (by decide) zinF zYF zYF_ok zNF_ok rfl rfl q_97 rfl rfl rfl e8 d_F_init_21 (fun H locs hz hH hS => ?_)
  obtain rfl := z_r1 hf
  exact zi_vret M hH hS hz (Nat.le_of_ble_eq_true rfl) (Nat.le_of_ble_eq_true rfl) d_F_init_24
def f_P_init (this : Nat)  (h : Hp) (n : Nat) : Option Hp :=
  (some (hup h n (.inl (0, 20, .inl (fun _ => 0))))).bind fun h1 =>
  (pV h1 this 4 0 (.ref n)).bind fun h3 =>
  (some (hup h3 (n + 1) (.inl (0, 20, .inl (fun _ => 0))))).bind fun h5 =>
  (pV h5 this 4 1 (.ref (n + 1))).bind fun h7 =>
  (pV h7 this 4 2 (.int (0 : Int32))).bind fun h9 =>
  some h9
set_option maxRecDepth 100000 in
set_option maxHeartbeats 8000000 in
theorem c_P_init {l : Launch} {N0 : Nat} {D : va_G} {cs : Nat → ClassId} {this : Nat} {h : Hp} {n : Nat} {h0 : Hp} (hf : f_P_init this  h n = some h0) : FnI l N0 D cs y_P_init b_P_init 1 2 2 40 [.ref this] h n h0 (n + 2) := by
  refine z_startI (by decide) (Nat.le_of_ble_eq_true rfl) ?_
  intro p e s m args below meth c M hAO H hz hH hS ls hl
  unfold f_P_init at hf
  have hl : lv_has ls 1 [(0, .ref this)] := hl
  obtain ⟨locs, hLe⟩ : ∃ locs : List Loc, locs = [] := ⟨_, rfl⟩
  rw [← hLe] at hS
  suffices hg : W p l e (zrm 2 2 40) s m args below meth c H locs 0 0 (MQ below (zQI N0 D cs h0 (n + 2)) args s 2 40 (zA N0)) (F0 m 0 ls []) by rw [hLe] at hg; exact hg
  clear hLe
  refine lv_aload_n M.x M.b d_P_init_0 rfl (lv_at hl 0 rfl) ?_
  refine zi_obj M q_891 q_883 q_884 hl.1 (Nat.le_of_ble_eq_true rfl) (Nat.le_of_ble_eq_true rfl) d_P_init_1 ?_
  refine lv_aload_n M.x M.b d_P_init_4 rfl (lv_at hl 0 rfl) ?_
  refine lv_bipush (v := (20 : Int32)) M.x M.b d_P_init_5 rfl ?_
  replace hf := z_bind hf; obtain ⟨h1, e2, hf⟩ := hf
  refine zi_newa (atype := .int) (t := 0) (N := 20) (a0 := (20, .inl (fun _ => 0))) M hH hS hz q_885 rfl (fun _ _ q => q) (fun _ => rfl) (by decide) (by decide) (Nat.le_of_ble_eq_true rfl) (Nat.le_of_ble_eq_true rfl) (Nat.le_of_ble_eq_true rfl) d_P_init_7 (fun H hz hH hS => ?_)
  rw [Option.some.inj e2] at hH
  replace hf := z_bind hf; obtain ⟨h3, e4, hf⟩ := hf
  refine zi_put (ci := 4) (k := 0) M hH hS hz rfl (by decide) zinP zYP zYP_ok zNP_ok rfl rfl q_139 rfl rfl rfl e4 d_P_init_9 (fun H locs hz hH hS => ?_)
  refine lv_aload_n M.x M.b d_P_init_12 rfl (lv_at hl 0 rfl) ?_
  refine lv_bipush (v := (20 : Int32)) M.x M.b d_P_init_13 rfl ?_
  replace hf := z_bind hf; obtain ⟨h5, e6, hf⟩ := hf
  refine zi_newa (atype := .int) (t := 0) (N := 20) (a0 := (20, .inl (fun _ => 0))) M hH hS hz q_885 rfl (fun _ _ q => q) (fun _ => rfl) (by decide) (by decide) (Nat.le_of_ble_eq_true rfl) (Nat.le_of_ble_eq_true rfl) (Nat.le_of_ble_eq_true rfl) d_P_init_15 (fun H hz hH hS => ?_)
  rw [Option.some.inj e6] at hH
  replace hf := z_bind hf; obtain ⟨h7, e8, hf⟩ := hf
  refine zi_put (ci := 4) (k := 1) M hH hS hz rfl (by decide) zinP zYP zYP_ok zNP_ok rfl rfl q_138 rfl rfl rfl e8 d_P_init_17 (fun H locs hz hH hS => ?_)
  refine lv_aload_n M.x M.b d_P_init_20 rfl (lv_at hl 0 rfl) ?_
  refine lv_iconst (v := (0 : Int32)) M.x M.b d_P_init_21 rfl ?_
  replace hf := z_bind hf; obtain ⟨h9, e10, hf⟩ := hf
  refine zi_put (ci := 4) (k := 2) M hH hS hz rfl (by decide) zinP zYP zYP_ok zNP_ok rfl rfl q_137 rfl rfl rfl e10 d_P_init_22 (fun H locs hz hH hS => ?_)
  obtain rfl := z_r1 hf
  exact zi_vret M hH hS hz (Nat.le_of_ble_eq_true rfl) (Nat.le_of_ble_eq_true rfl) d_P_init_25
def f_R_init (this : Nat)  (h : Hp) (n : Nat) : Option Hp :=
  (some (hup h n (.inl (0, 60, .inl (fun _ => 0))))).bind fun h1 =>
  (pV h1 this 5 0 (.ref n)).bind fun h3 =>
  (pV h3 this 5 1 (.int (0 : Int32))).bind fun h5 =>
  (pV h5 this 5 2 (.int (0 : Int32))).bind fun h7 =>
  (pV h7 this 5 3 (.int (0 : Int32))).bind fun h9 =>
  (pV h9 this 5 4 (.int (-1 : Int32))).bind fun h11 =>
  (pV h11 this 5 5 (.null)).bind fun h13 =>
  some h13
set_option maxRecDepth 100000 in
set_option maxHeartbeats 8000000 in
theorem c_R_init {l : Launch} {N0 : Nat} {D : va_G} {cs : Nat → ClassId} {this : Nat} {h : Hp} {n : Nat} {h0 : Hp} (hf : f_R_init this  h n = some h0) : FnI l N0 D cs y_R_init b_R_init 1 2 1 60 [.ref this] h n h0 (n + 1) := by
  refine z_startI (by decide) (Nat.le_of_ble_eq_true rfl) ?_
  intro p e s m args below meth c M hAO H hz hH hS ls hl
  unfold f_R_init at hf
  have hl : lv_has ls 1 [(0, .ref this)] := hl
  obtain ⟨locs, hLe⟩ : ∃ locs : List Loc, locs = [] := ⟨_, rfl⟩
  rw [← hLe] at hS
  suffices hg : W p l e (zrm 2 1 60) s m args below meth c H locs 0 0 (MQ below (zQI N0 D cs h0 (n + 1)) args s 1 60 (zA N0)) (F0 m 0 ls []) by rw [hLe] at hg; exact hg
  clear hLe
  refine lv_aload_n M.x M.b d_R_init_0 rfl (lv_at hl 0 rfl) ?_
  refine zi_obj M q_894 q_883 q_884 hl.1 (Nat.le_of_ble_eq_true rfl) (Nat.le_of_ble_eq_true rfl) d_R_init_1 ?_
  refine lv_aload_n M.x M.b d_R_init_4 rfl (lv_at hl 0 rfl) ?_
  refine lv_bipush (v := (60 : Int32)) M.x M.b d_R_init_5 rfl ?_
  replace hf := z_bind hf; obtain ⟨h1, e2, hf⟩ := hf
  refine zi_newa (atype := .int) (t := 0) (N := 60) (a0 := (60, .inl (fun _ => 0))) M hH hS hz q_885 rfl (fun _ _ q => q) (fun _ => rfl) (by decide) (by decide) (Nat.le_of_ble_eq_true rfl) (Nat.le_of_ble_eq_true rfl) (Nat.le_of_ble_eq_true rfl) d_R_init_7 (fun H hz hH hS => ?_)
  rw [Option.some.inj e2] at hH
  replace hf := z_bind hf; obtain ⟨h3, e4, hf⟩ := hf
  refine zi_put (ci := 5) (k := 0) M hH hS hz rfl (by decide) zinR zYR zYR_ok zNR_ok rfl rfl q_356 rfl rfl rfl e4 d_R_init_9 (fun H locs hz hH hS => ?_)
  refine lv_aload_n M.x M.b d_R_init_12 rfl (lv_at hl 0 rfl) ?_
  refine lv_iconst (v := (0 : Int32)) M.x M.b d_R_init_13 rfl ?_
  replace hf := z_bind hf; obtain ⟨h5, e6, hf⟩ := hf
  refine zi_put (ci := 5) (k := 1) M hH hS hz rfl (by decide) zinR zYR zYR_ok zNR_ok rfl rfl q_355 rfl rfl rfl e6 d_R_init_14 (fun H locs hz hH hS => ?_)
  refine lv_aload_n M.x M.b d_R_init_17 rfl (lv_at hl 0 rfl) ?_
  refine lv_iconst (v := (0 : Int32)) M.x M.b d_R_init_18 rfl ?_
  replace hf := z_bind hf; obtain ⟨h7, e8, hf⟩ := hf
  refine zi_put (ci := 5) (k := 2) M hH hS hz rfl (by decide) zinR zYR zYR_ok zNR_ok rfl rfl q_363 rfl rfl rfl e8 d_R_init_19 (fun H locs hz hH hS => ?_)
  refine lv_aload_n M.x M.b d_R_init_22 rfl (lv_at hl 0 rfl) ?_
  refine lv_iconst (v := (0 : Int32)) M.x M.b d_R_init_23 rfl ?_
  replace hf := z_bind hf; obtain ⟨h9, e10, hf⟩ := hf
  refine zi_put (ci := 5) (k := 3) M hH hS hz rfl (by decide) zinR zYR zYR_ok zNR_ok rfl rfl q_384 rfl rfl rfl e10 d_R_init_24 (fun H locs hz hH hS => ?_)
  refine lv_aload_n M.x M.b d_R_init_27 rfl (lv_at hl 0 rfl) ?_
  refine lv_iconst (v := (-1 : Int32)) M.x M.b d_R_init_28 rfl ?_
  replace hf := z_bind hf; obtain ⟨h11, e12, hf⟩ := hf
  refine zi_put (ci := 5) (k := 4) M hH hS hz rfl (by decide) zinR zYR zYR_ok zNR_ok rfl rfl q_383 rfl rfl rfl e12 d_R_init_29 (fun H locs hz hH hS => ?_)
  refine lv_aload_n M.x M.b d_R_init_32 rfl (lv_at hl 0 rfl) ?_
  refine lv_null M.x M.b d_R_init_33 ?_
  replace hf := z_bind hf; obtain ⟨h13, e14, hf⟩ := hf
  refine zi_put (ci := 5) (k := 5) M hH hS hz rfl (by decide) zinR zYR zYR_ok zNR_ok rfl rfl q_390 rfl rfl rfl e14 d_R_init_34 (fun H locs hz hH hS => ?_)
  obtain rfl := z_r1 hf
  exact zi_vret M hH hS hz (Nat.le_of_ble_eq_true rfl) (Nat.le_of_ble_eq_true rfl) d_R_init_37
def f_T_init (this : Nat)  (h : Hp) (n : Nat) : Option Hp :=
  (some (hup h n (.inl (3, 9, .inr (.inr (.inr (.inr (fun _ => none)))))))).bind fun h1 =>
  (pV h1 this 6 0 (.ref n)).bind fun h3 =>
  (pV h3 this 6 1 (.null)).bind fun h5 =>
  (pV h5 this 6 2 (.null)).bind fun h7 =>
  (pV h7 this 6 3 (.int (0 : Int32))).bind fun h9 =>
  (gA h9 this 6 0).bind fun r11 =>
  (r11).bind fun a15 =>
  (aN h9 a15).bind fun i17 =>
  if i17 ≤ (0 : Int32) then
    none
  else
  (gA h9 this 6 0).bind fun r19 =>
  (some (hup h9 (n + 1) (.inr (1, [.long 0, .long 0, .int 0, .int 0])))).bind fun h21 =>
  (r19).bind fun a22 =>
  (f_F_init (n + 1) h21 (n + 2)).bind fun h23 =>
  (sA h23 3 a22 1 (0 : Int32) (n + 1)).bind fun h25 =>
  (gA h25 this 6 0).bind fun r27 =>
  (r27).bind fun a31 =>
  (aN h25 a31).bind fun i33 =>
  if i33 ≤ (1 : Int32) then
    none
  else
  (gA h25 this 6 0).bind fun r35 =>
  (some (hup h25 (n + 2) (.inr (1, [.long 0, .long 0, .int 0, .int 0])))).bind fun h37 =>
  (r35).bind fun a38 =>
  (f_F_init (n + 2) h37 (n + 3)).bind fun h39 =>
  (sA h39 3 a38 1 (1 : Int32) (n + 2)).bind fun h41 =>
  (gA h41 this 6 0).bind fun r43 =>
  (r43).bind fun a47 =>
  (aN h41 a47).bind fun i49 =>
  if i49 ≤ (2 : Int32) then
    none
  else
  (gA h41 this 6 0).bind fun r51 =>
  (some (hup h41 (n + 3) (.inr (1, [.long 0, .long 0, .int 0, .int 0])))).bind fun h53 =>
  (r51).bind fun a54 =>
  (f_F_init (n + 3) h53 (n + 4)).bind fun h55 =>
  (sA h55 3 a54 1 (2 : Int32) (n + 3)).bind fun h57 =>
  (gA h57 this 6 0).bind fun r59 =>
  (r59).bind fun a63 =>
  (aN h57 a63).bind fun i65 =>
  if i65 ≤ (3 : Int32) then
    none
  else
  (gA h57 this 6 0).bind fun r67 =>
  (some (hup h57 (n + 4) (.inr (1, [.long 0, .long 0, .int 0, .int 0])))).bind fun h69 =>
  (r67).bind fun a70 =>
  (f_F_init (n + 4) h69 (n + 5)).bind fun h71 =>
  (sA h71 3 a70 1 (3 : Int32) (n + 4)).bind fun h73 =>
  (gA h73 this 6 0).bind fun r75 =>
  (r75).bind fun a79 =>
  (aN h73 a79).bind fun i81 =>
  if i81 ≤ (4 : Int32) then
    none
  else
  (gA h73 this 6 0).bind fun r83 =>
  (some (hup h73 (n + 5) (.inr (1, [.long 0, .long 0, .int 0, .int 0])))).bind fun h85 =>
  (r83).bind fun a86 =>
  (f_F_init (n + 5) h85 (n + 6)).bind fun h87 =>
  (sA h87 3 a86 1 (4 : Int32) (n + 5)).bind fun h89 =>
  (gA h89 this 6 0).bind fun r91 =>
  (r91).bind fun a95 =>
  (aN h89 a95).bind fun i97 =>
  if i97 ≤ (5 : Int32) then
    none
  else
  (gA h89 this 6 0).bind fun r99 =>
  (some (hup h89 (n + 6) (.inr (1, [.long 0, .long 0, .int 0, .int 0])))).bind fun h101 =>
  (r99).bind fun a102 =>
  (f_F_init (n + 6) h101 (n + 7)).bind fun h103 =>
  (sA h103 3 a102 1 (5 : Int32) (n + 6)).bind fun h105 =>
  (gA h105 this 6 0).bind fun r107 =>
  (r107).bind fun a111 =>
  (aN h105 a111).bind fun i113 =>
  if i113 ≤ (6 : Int32) then
    none
  else
  (gA h105 this 6 0).bind fun r115 =>
  (some (hup h105 (n + 7) (.inr (1, [.long 0, .long 0, .int 0, .int 0])))).bind fun h117 =>
  (r115).bind fun a118 =>
  (f_F_init (n + 7) h117 (n + 8)).bind fun h119 =>
  (sA h119 3 a118 1 (6 : Int32) (n + 7)).bind fun h121 =>
  (gA h121 this 6 0).bind fun r123 =>
  (r123).bind fun a127 =>
  (aN h121 a127).bind fun i129 =>
  if i129 ≤ (7 : Int32) then
    none
  else
  (gA h121 this 6 0).bind fun r131 =>
  (some (hup h121 (n + 8) (.inr (1, [.long 0, .long 0, .int 0, .int 0])))).bind fun h133 =>
  (r131).bind fun a134 =>
  (f_F_init (n + 8) h133 (n + 9)).bind fun h135 =>
  (sA h135 3 a134 1 (7 : Int32) (n + 8)).bind fun h137 =>
  (gA h137 this 6 0).bind fun r139 =>
  (r139).bind fun a143 =>
  (aN h137 a143).bind fun i145 =>
  if i145 ≤ (8 : Int32) then
    none
  else
  (gA h137 this 6 0).bind fun r147 =>
  (some (hup h137 (n + 9) (.inr (1, [.long 0, .long 0, .int 0, .int 0])))).bind fun h149 =>
  (r147).bind fun a150 =>
  (f_F_init (n + 9) h149 (n + 10)).bind fun h151 =>
  (sA h151 3 a150 1 (8 : Int32) (n + 9)).bind fun h153 =>
  (gA h153 this 6 0).bind fun r155 =>
  (r155).bind fun a159 =>
  (aN h153 a159).bind fun i161 =>
  if i161 ≤ (9 : Int32) then
    some h153
  else
  none
set_option maxRecDepth 100000 in
set_option maxHeartbeats 8000000 in
theorem c_T_init {l : Launch} {N0 : Nat} {D : va_G} {cs : Nat → ClassId} {this : Nat} {h : Hp} {n : Nat} {h0 : Hp} (hf : f_T_init this  h n = some h0) : FnI l N0 D cs y_T_init b_T_init 2 4 10 45 [.ref this] h n h0 (n + 10) := by
  refine z_startI (by decide) (Nat.le_of_ble_eq_true rfl) ?_
  intro p e s m args below meth c M hAO H hz hH hS ls hl
  unfold f_T_init at hf
  have hl : lv_has ls 2 [(0, .ref this)] := hl
  obtain ⟨locs, hLe⟩ : ∃ locs : List Loc, locs = [] := ⟨_, rfl⟩
  rw [← hLe] at hS
  suffices hg : W p l e (zrm 4 10 45) s m args below meth c H locs 0 0 (MQ below (zQI N0 D cs h0 (n + 10)) args s 10 45 (zA N0)) (F0 m 0 ls []) by rw [hLe] at hg; exact hg
  clear hLe
  refine lv_aload_n M.x M.b d_T_init_0 rfl (lv_at hl 0 rfl) ?_
  refine zi_obj M q_897 q_883 q_884 hl.1 (Nat.le_of_ble_eq_true rfl) (Nat.le_of_ble_eq_true rfl) d_T_init_1 ?_
  refine lv_aload_n M.x M.b d_T_init_4 rfl (lv_at hl 0 rfl) ?_
  refine lv_bipush (v := (9 : Int32)) M.x M.b d_T_init_5 rfl ?_
  replace hf := z_bind hf; obtain ⟨h1, e2, hf⟩ := hf
  refine zi_newq (t := 3) (N := 9) M hH hS hz hAO.2 rfl q_899 (by decide) (by decide) (Nat.le_of_ble_eq_true rfl) (Nat.le_of_ble_eq_true rfl) (Nat.le_of_ble_eq_true rfl) d_T_init_7 (fun H hz hH hS => ?_)
  rw [Option.some.inj e2] at hH
  replace hf := z_bind hf; obtain ⟨h3, e4, hf⟩ := hf
  refine zi_put (ci := 6) (k := 0) M hH hS hz rfl (by decide) zinT zYT zYT_ok zNT_ok rfl rfl q_189 rfl rfl rfl e4 d_T_init_10 (fun H locs hz hH hS => ?_)
  refine lv_aload_n M.x M.b d_T_init_13 rfl (lv_at hl 0 rfl) ?_
  refine lv_null M.x M.b d_T_init_14 ?_
  replace hf := z_bind hf; obtain ⟨h5, e6, hf⟩ := hf
  refine zi_put (ci := 6) (k := 1) M hH hS hz rfl (by decide) zinT zYT zYT_ok zNT_ok rfl rfl q_175 rfl rfl rfl e6 d_T_init_15 (fun H locs hz hH hS => ?_)
  refine lv_aload_n M.x M.b d_T_init_18 rfl (lv_at hl 0 rfl) ?_
  refine lv_null M.x M.b d_T_init_19 ?_
  replace hf := z_bind hf; obtain ⟨h7, e8, hf⟩ := hf
  refine zi_put (ci := 6) (k := 2) M hH hS hz rfl (by decide) zinT zYT zYT_ok zNT_ok rfl rfl q_176 rfl rfl rfl e8 d_T_init_20 (fun H locs hz hH hS => ?_)
  refine lv_aload_n M.x M.b d_T_init_23 rfl (lv_at hl 0 rfl) ?_
  refine lv_iconst (v := (0 : Int32)) M.x M.b d_T_init_24 rfl ?_
  replace hf := z_bind hf; obtain ⟨h9, e10, hf⟩ := hf
  refine zi_put (ci := 6) (k := 3) M hH hS hz rfl (by decide) zinT zYT zYT_ok zNT_ok rfl rfl q_174 rfl rfl rfl e10 d_T_init_25 (fun H locs hz hH hS => ?_)
  refine lv_iconst (v := (0 : Int32)) M.x M.b d_T_init_28 rfl ?_
  refine lv_istore_n (lv' := [(1, .int (0 : Int32)), (0, .ref this)]) M.x M.b d_T_init_29 rfl hl (by decide) rfl (fun ls hl => ?_)
  refine lv_iload_n M.x M.b d_T_init_30 rfl (lv_at hl 0 rfl) ?_
  refine lv_aload_n M.x M.b d_T_init_31 rfl (lv_at hl 1 rfl) ?_
  replace hf := z_bind hf; obtain ⟨r11, e12, hf⟩ := hf
  refine z_get (ci := 6) (k := 0) M hH rfl (by decide) zinT q_189 (gA_spec e12) d_T_init_32 ?_
  rcases r11 with _ | a15
  · exact absurd hf z_nb0
  replace hf := z_sb hf
  replace hf := z_bind hf; obtain ⟨i17, e16, hf⟩ := hf
  refine z_alen M hH e16 d_T_init_35 ?_
  refine lv_icmp_ge (tgt := 58) M.x M.b d_T_init_36 (by decide) (fun c18 => ?_) (fun c18 => ?_)
  · replace hf := z_t c18 hf
    cases hf
  · replace hf := z_f c18 hf
    refine lv_aload_n M.x M.b d_T_init_39 rfl (lv_at hl 1 rfl) ?_
    replace hf := z_bind hf; obtain ⟨r19, e20, hf⟩ := hf
    refine z_get (ci := 6) (k := 0) M hH rfl (by decide) zinT q_189 (gA_spec e20) d_T_init_40 ?_
    refine lv_iload_n M.x M.b d_T_init_43 rfl (lv_at hl 0 rfl) ?_
    replace hf := z_bind hf; obtain ⟨h21, e171, hf⟩ := hf
    refine zi_new (ci := 1) (fs := [.long 0, .long 0, .int 0, .int 0]) M hH hS hz rfl zinF zYF zYF_ok q_899 q_900 q_96 (fun j hj => by rcases (show j = 0 ∨ j = 1 ∨ j = 2 ∨ j = 3 by omega) with rfl | rfl | rfl | rfl <;> rfl) (Nat.le_of_ble_eq_true rfl) (Nat.le_of_ble_eq_true rfl) d_T_init_44 (fun H hz hH hS => ?_)
    rw [Option.some.inj e171] at hH
    refine lv_dup M.x M.b d_T_init_47 rfl ?_
    rcases r19 with _ | a22
    · exact absurd hf z_nb0
    replace hf := z_sb hf
    replace hf := z_bind hf; obtain ⟨h23, e24, hf⟩ := hf
    refine zi_callN M hAO hH hS hz (c_F_init e24) w_F_init q_898 [.ref (n + 1), .int (0 : Int32), .ref a22] rfl rfl ⟨Nat.le_of_ble_eq_true rfl, Nat.le_of_ble_eq_true rfl⟩ hl.1 rfl (Nat.le_of_ble_eq_true rfl) ⟨Nat.le_of_ble_eq_true rfl, Nat.le_of_ble_eq_true rfl⟩ d_T_init_48 (fun H locs hz hH hS => ?_)
    replace hf := z_bind hf; obtain ⟨h25, e26, hf⟩ := hf
    refine zi_aast (t := 3) (ci := 1) M hH hS hz rfl rfl e26 d_T_init_51 (fun H locs hz hH hS => ?_)
    refine lv_iinc (v := (1 : Int32)) (lv' := [(1, .int (1 : Int32)), (0, .ref this)]) M.x M.b d_T_init_52 hl (k := 0) rfl (by decide) (by decide) rfl (fun ls hl => ?_)
    refine lv_goto (tgt := 30) M.x M.b d_T_init_55 (by decide) ?_
    refine lv_iload_n M.x M.b d_T_init_30 rfl (lv_at hl 0 rfl) ?_
    refine lv_aload_n M.x M.b d_T_init_31 rfl (lv_at hl 1 rfl) ?_
    replace hf := z_bind hf; obtain ⟨r27, e28, hf⟩ := hf
    refine z_get (ci := 6) (k := 0) M hH rfl (by decide) zinT q_189 (gA_spec e28) d_T_init_32 ?_
    rcases r27 with _ | a31
    · exact absurd hf z_nb0
    replace hf := z_sb hf
    replace hf := z_bind hf; obtain ⟨i33, e32, hf⟩ := hf
    refine z_alen M hH e32 d_T_init_35 ?_
    refine lv_icmp_ge (tgt := 58) M.x M.b d_T_init_36 (by decide) (fun c34 => ?_) (fun c34 => ?_)
    · replace hf := z_t c34 hf
      cases hf
    · replace hf := z_f c34 hf
      refine lv_aload_n M.x M.b d_T_init_39 rfl (lv_at hl 1 rfl) ?_
      replace hf := z_bind hf; obtain ⟨r35, e36, hf⟩ := hf
      refine z_get (ci := 6) (k := 0) M hH rfl (by decide) zinT q_189 (gA_spec e36) d_T_init_40 ?_
      refine lv_iload_n M.x M.b d_T_init_43 rfl (lv_at hl 0 rfl) ?_
      replace hf := z_bind hf; obtain ⟨h37, e170, hf⟩ := hf
      refine zi_new (ci := 1) (fs := [.long 0, .long 0, .int 0, .int 0]) M hH hS hz rfl zinF zYF zYF_ok q_899 q_900 q_96 (fun j hj => by rcases (show j = 0 ∨ j = 1 ∨ j = 2 ∨ j = 3 by omega) with rfl | rfl | rfl | rfl <;> rfl) (Nat.le_of_ble_eq_true rfl) (Nat.le_of_ble_eq_true rfl) d_T_init_44 (fun H hz hH hS => ?_)
      rw [Option.some.inj e170] at hH
      refine lv_dup M.x M.b d_T_init_47 rfl ?_
      rcases r35 with _ | a38
      · exact absurd hf z_nb0
      replace hf := z_sb hf
      replace hf := z_bind hf; obtain ⟨h39, e40, hf⟩ := hf
      refine zi_callN M hAO hH hS hz (c_F_init e40) w_F_init q_898 [.ref (n + 2), .int (1 : Int32), .ref a38] rfl rfl ⟨Nat.le_of_ble_eq_true rfl, Nat.le_of_ble_eq_true rfl⟩ hl.1 rfl (Nat.le_of_ble_eq_true rfl) ⟨Nat.le_of_ble_eq_true rfl, Nat.le_of_ble_eq_true rfl⟩ d_T_init_48 (fun H locs hz hH hS => ?_)
      replace hf := z_bind hf; obtain ⟨h41, e42, hf⟩ := hf
      refine zi_aast (t := 3) (ci := 1) M hH hS hz rfl rfl e42 d_T_init_51 (fun H locs hz hH hS => ?_)
      refine lv_iinc (v := (2 : Int32)) (lv' := [(1, .int (2 : Int32)), (0, .ref this)]) M.x M.b d_T_init_52 hl (k := 0) rfl (by decide) (by decide) rfl (fun ls hl => ?_)
      refine lv_goto (tgt := 30) M.x M.b d_T_init_55 (by decide) ?_
      refine lv_iload_n M.x M.b d_T_init_30 rfl (lv_at hl 0 rfl) ?_
      refine lv_aload_n M.x M.b d_T_init_31 rfl (lv_at hl 1 rfl) ?_
      replace hf := z_bind hf; obtain ⟨r43, e44, hf⟩ := hf
      refine z_get (ci := 6) (k := 0) M hH rfl (by decide) zinT q_189 (gA_spec e44) d_T_init_32 ?_
      rcases r43 with _ | a47
      · exact absurd hf z_nb0
      replace hf := z_sb hf
      replace hf := z_bind hf; obtain ⟨i49, e48, hf⟩ := hf
      refine z_alen M hH e48 d_T_init_35 ?_
      refine lv_icmp_ge (tgt := 58) M.x M.b d_T_init_36 (by decide) (fun c50 => ?_) (fun c50 => ?_)
      · replace hf := z_t c50 hf
        cases hf
      · replace hf := z_f c50 hf
        refine lv_aload_n M.x M.b d_T_init_39 rfl (lv_at hl 1 rfl) ?_
        replace hf := z_bind hf; obtain ⟨r51, e52, hf⟩ := hf
        refine z_get (ci := 6) (k := 0) M hH rfl (by decide) zinT q_189 (gA_spec e52) d_T_init_40 ?_
        refine lv_iload_n M.x M.b d_T_init_43 rfl (lv_at hl 0 rfl) ?_
        replace hf := z_bind hf; obtain ⟨h53, e169, hf⟩ := hf
        refine zi_new (ci := 1) (fs := [.long 0, .long 0, .int 0, .int 0]) M hH hS hz rfl zinF zYF zYF_ok q_899 q_900 q_96 (fun j hj => by rcases (show j = 0 ∨ j = 1 ∨ j = 2 ∨ j = 3 by omega) with rfl | rfl | rfl | rfl <;> rfl) (Nat.le_of_ble_eq_true rfl) (Nat.le_of_ble_eq_true rfl) d_T_init_44 (fun H hz hH hS => ?_)
        rw [Option.some.inj e169] at hH
        refine lv_dup M.x M.b d_T_init_47 rfl ?_
        rcases r51 with _ | a54
        · exact absurd hf z_nb0
        replace hf := z_sb hf
        replace hf := z_bind hf; obtain ⟨h55, e56, hf⟩ := hf
        refine zi_callN M hAO hH hS hz (c_F_init e56) w_F_init q_898 [.ref (n + 3), .int (2 : Int32), .ref a54] rfl rfl ⟨Nat.le_of_ble_eq_true rfl, Nat.le_of_ble_eq_true rfl⟩ hl.1 rfl (Nat.le_of_ble_eq_true rfl) ⟨Nat.le_of_ble_eq_true rfl, Nat.le_of_ble_eq_true rfl⟩ d_T_init_48 (fun H locs hz hH hS => ?_)
        replace hf := z_bind hf; obtain ⟨h57, e58, hf⟩ := hf
        refine zi_aast (t := 3) (ci := 1) M hH hS hz rfl rfl e58 d_T_init_51 (fun H locs hz hH hS => ?_)
        refine lv_iinc (v := (3 : Int32)) (lv' := [(1, .int (3 : Int32)), (0, .ref this)]) M.x M.b d_T_init_52 hl (k := 0) rfl (by decide) (by decide) rfl (fun ls hl => ?_)
        refine lv_goto (tgt := 30) M.x M.b d_T_init_55 (by decide) ?_
        refine lv_iload_n M.x M.b d_T_init_30 rfl (lv_at hl 0 rfl) ?_
        refine lv_aload_n M.x M.b d_T_init_31 rfl (lv_at hl 1 rfl) ?_
        replace hf := z_bind hf; obtain ⟨r59, e60, hf⟩ := hf
        refine z_get (ci := 6) (k := 0) M hH rfl (by decide) zinT q_189 (gA_spec e60) d_T_init_32 ?_
        rcases r59 with _ | a63
        · exact absurd hf z_nb0
        replace hf := z_sb hf
        replace hf := z_bind hf; obtain ⟨i65, e64, hf⟩ := hf
        refine z_alen M hH e64 d_T_init_35 ?_
        refine lv_icmp_ge (tgt := 58) M.x M.b d_T_init_36 (by decide) (fun c66 => ?_) (fun c66 => ?_)
        · replace hf := z_t c66 hf
          cases hf
        · replace hf := z_f c66 hf
          refine lv_aload_n M.x M.b d_T_init_39 rfl (lv_at hl 1 rfl) ?_
          replace hf := z_bind hf; obtain ⟨r67, e68, hf⟩ := hf
          refine z_get (ci := 6) (k := 0) M hH rfl (by decide) zinT q_189 (gA_spec e68) d_T_init_40 ?_
          refine lv_iload_n M.x M.b d_T_init_43 rfl (lv_at hl 0 rfl) ?_
          replace hf := z_bind hf; obtain ⟨h69, e168, hf⟩ := hf
          refine zi_new (ci := 1) (fs := [.long 0, .long 0, .int 0, .int 0]) M hH hS hz rfl zinF zYF zYF_ok q_899 q_900 q_96 (fun j hj => by rcases (show j = 0 ∨ j = 1 ∨ j = 2 ∨ j = 3 by omega) with rfl | rfl | rfl | rfl <;> rfl) (Nat.le_of_ble_eq_true rfl) (Nat.le_of_ble_eq_true rfl) d_T_init_44 (fun H hz hH hS => ?_)
          rw [Option.some.inj e168] at hH
          refine lv_dup M.x M.b d_T_init_47 rfl ?_
          rcases r67 with _ | a70
          · exact absurd hf z_nb0
          replace hf := z_sb hf
          replace hf := z_bind hf; obtain ⟨h71, e72, hf⟩ := hf
          refine zi_callN M hAO hH hS hz (c_F_init e72) w_F_init q_898 [.ref (n + 4), .int (3 : Int32), .ref a70] rfl rfl ⟨Nat.le_of_ble_eq_true rfl, Nat.le_of_ble_eq_true rfl⟩ hl.1 rfl (Nat.le_of_ble_eq_true rfl) ⟨Nat.le_of_ble_eq_true rfl, Nat.le_of_ble_eq_true rfl⟩ d_T_init_48 (fun H locs hz hH hS => ?_)
          replace hf := z_bind hf; obtain ⟨h73, e74, hf⟩ := hf
          refine zi_aast (t := 3) (ci := 1) M hH hS hz rfl rfl e74 d_T_init_51 (fun H locs hz hH hS => ?_)
          refine lv_iinc (v := (4 : Int32)) (lv' := [(1, .int (4 : Int32)), (0, .ref this)]) M.x M.b d_T_init_52 hl (k := 0) rfl (by decide) (by decide) rfl (fun ls hl => ?_)
          refine lv_goto (tgt := 30) M.x M.b d_T_init_55 (by decide) ?_
          refine lv_iload_n M.x M.b d_T_init_30 rfl (lv_at hl 0 rfl) ?_
          refine lv_aload_n M.x M.b d_T_init_31 rfl (lv_at hl 1 rfl) ?_
          replace hf := z_bind hf; obtain ⟨r75, e76, hf⟩ := hf
          refine z_get (ci := 6) (k := 0) M hH rfl (by decide) zinT q_189 (gA_spec e76) d_T_init_32 ?_
          rcases r75 with _ | a79
          · exact absurd hf z_nb0
          replace hf := z_sb hf
          replace hf := z_bind hf; obtain ⟨i81, e80, hf⟩ := hf
          refine z_alen M hH e80 d_T_init_35 ?_
          refine lv_icmp_ge (tgt := 58) M.x M.b d_T_init_36 (by decide) (fun c82 => ?_) (fun c82 => ?_)
          · replace hf := z_t c82 hf
            cases hf
          · replace hf := z_f c82 hf
            refine lv_aload_n M.x M.b d_T_init_39 rfl (lv_at hl 1 rfl) ?_
            replace hf := z_bind hf; obtain ⟨r83, e84, hf⟩ := hf
            refine z_get (ci := 6) (k := 0) M hH rfl (by decide) zinT q_189 (gA_spec e84) d_T_init_40 ?_
            refine lv_iload_n M.x M.b d_T_init_43 rfl (lv_at hl 0 rfl) ?_
            replace hf := z_bind hf; obtain ⟨h85, e167, hf⟩ := hf
            refine zi_new (ci := 1) (fs := [.long 0, .long 0, .int 0, .int 0]) M hH hS hz rfl zinF zYF zYF_ok q_899 q_900 q_96 (fun j hj => by rcases (show j = 0 ∨ j = 1 ∨ j = 2 ∨ j = 3 by omega) with rfl | rfl | rfl | rfl <;> rfl) (Nat.le_of_ble_eq_true rfl) (Nat.le_of_ble_eq_true rfl) d_T_init_44 (fun H hz hH hS => ?_)
            rw [Option.some.inj e167] at hH
            refine lv_dup M.x M.b d_T_init_47 rfl ?_
            rcases r83 with _ | a86
            · exact absurd hf z_nb0
            replace hf := z_sb hf
            replace hf := z_bind hf; obtain ⟨h87, e88, hf⟩ := hf
            refine zi_callN M hAO hH hS hz (c_F_init e88) w_F_init q_898 [.ref (n + 5), .int (4 : Int32), .ref a86] rfl rfl ⟨Nat.le_of_ble_eq_true rfl, Nat.le_of_ble_eq_true rfl⟩ hl.1 rfl (Nat.le_of_ble_eq_true rfl) ⟨Nat.le_of_ble_eq_true rfl, Nat.le_of_ble_eq_true rfl⟩ d_T_init_48 (fun H locs hz hH hS => ?_)
            replace hf := z_bind hf; obtain ⟨h89, e90, hf⟩ := hf
            refine zi_aast (t := 3) (ci := 1) M hH hS hz rfl rfl e90 d_T_init_51 (fun H locs hz hH hS => ?_)
            refine lv_iinc (v := (5 : Int32)) (lv' := [(1, .int (5 : Int32)), (0, .ref this)]) M.x M.b d_T_init_52 hl (k := 0) rfl (by decide) (by decide) rfl (fun ls hl => ?_)
            refine lv_goto (tgt := 30) M.x M.b d_T_init_55 (by decide) ?_
            refine lv_iload_n M.x M.b d_T_init_30 rfl (lv_at hl 0 rfl) ?_
            refine lv_aload_n M.x M.b d_T_init_31 rfl (lv_at hl 1 rfl) ?_
            replace hf := z_bind hf; obtain ⟨r91, e92, hf⟩ := hf
            refine z_get (ci := 6) (k := 0) M hH rfl (by decide) zinT q_189 (gA_spec e92) d_T_init_32 ?_
            rcases r91 with _ | a95
            · exact absurd hf z_nb0
            replace hf := z_sb hf
            replace hf := z_bind hf; obtain ⟨i97, e96, hf⟩ := hf
            refine z_alen M hH e96 d_T_init_35 ?_
            refine lv_icmp_ge (tgt := 58) M.x M.b d_T_init_36 (by decide) (fun c98 => ?_) (fun c98 => ?_)
            · replace hf := z_t c98 hf
              cases hf
            · replace hf := z_f c98 hf
              refine lv_aload_n M.x M.b d_T_init_39 rfl (lv_at hl 1 rfl) ?_
              replace hf := z_bind hf; obtain ⟨r99, e100, hf⟩ := hf
              refine z_get (ci := 6) (k := 0) M hH rfl (by decide) zinT q_189 (gA_spec e100) d_T_init_40 ?_
              refine lv_iload_n M.x M.b d_T_init_43 rfl (lv_at hl 0 rfl) ?_
              replace hf := z_bind hf; obtain ⟨h101, e166, hf⟩ := hf
              refine zi_new (ci := 1) (fs := [.long 0, .long 0, .int 0, .int 0]) M hH hS hz rfl zinF zYF zYF_ok q_899 q_900 q_96 (fun j hj => by rcases (show j = 0 ∨ j = 1 ∨ j = 2 ∨ j = 3 by omega) with rfl | rfl | rfl | rfl <;> rfl) (Nat.le_of_ble_eq_true rfl) (Nat.le_of_ble_eq_true rfl) d_T_init_44 (fun H hz hH hS => ?_)
              rw [Option.some.inj e166] at hH
              refine lv_dup M.x M.b d_T_init_47 rfl ?_
              rcases r99 with _ | a102
              · exact absurd hf z_nb0
              replace hf := z_sb hf
              replace hf := z_bind hf; obtain ⟨h103, e104, hf⟩ := hf
              refine zi_callN M hAO hH hS hz (c_F_init e104) w_F_init q_898 [.ref (n + 6), .int (5 : Int32), .ref a102] rfl rfl ⟨Nat.le_of_ble_eq_true rfl, Nat.le_of_ble_eq_true rfl⟩ hl.1 rfl (Nat.le_of_ble_eq_true rfl) ⟨Nat.le_of_ble_eq_true rfl, Nat.le_of_ble_eq_true rfl⟩ d_T_init_48 (fun H locs hz hH hS => ?_)
              replace hf := z_bind hf; obtain ⟨h105, e106, hf⟩ := hf
              refine zi_aast (t := 3) (ci := 1) M hH hS hz rfl rfl e106 d_T_init_51 (fun H locs hz hH hS => ?_)
              refine lv_iinc (v := (6 : Int32)) (lv' := [(1, .int (6 : Int32)), (0, .ref this)]) M.x M.b d_T_init_52 hl (k := 0) rfl (by decide) (by decide) rfl (fun ls hl => ?_)
              refine lv_goto (tgt := 30) M.x M.b d_T_init_55 (by decide) ?_
              refine lv_iload_n M.x M.b d_T_init_30 rfl (lv_at hl 0 rfl) ?_
              refine lv_aload_n M.x M.b d_T_init_31 rfl (lv_at hl 1 rfl) ?_
              replace hf := z_bind hf; obtain ⟨r107, e108, hf⟩ := hf
              refine z_get (ci := 6) (k := 0) M hH rfl (by decide) zinT q_189 (gA_spec e108) d_T_init_32 ?_
              rcases r107 with _ | a111
              · exact absurd hf z_nb0
              replace hf := z_sb hf
              replace hf := z_bind hf; obtain ⟨i113, e112, hf⟩ := hf
              refine z_alen M hH e112 d_T_init_35 ?_
              refine lv_icmp_ge (tgt := 58) M.x M.b d_T_init_36 (by decide) (fun c114 => ?_) (fun c114 => ?_)
              · replace hf := z_t c114 hf
                cases hf
              · replace hf := z_f c114 hf
                refine lv_aload_n M.x M.b d_T_init_39 rfl (lv_at hl 1 rfl) ?_
                replace hf := z_bind hf; obtain ⟨r115, e116, hf⟩ := hf
                refine z_get (ci := 6) (k := 0) M hH rfl (by decide) zinT q_189 (gA_spec e116) d_T_init_40 ?_
                refine lv_iload_n M.x M.b d_T_init_43 rfl (lv_at hl 0 rfl) ?_
                replace hf := z_bind hf; obtain ⟨h117, e165, hf⟩ := hf
                refine zi_new (ci := 1) (fs := [.long 0, .long 0, .int 0, .int 0]) M hH hS hz rfl zinF zYF zYF_ok q_899 q_900 q_96 (fun j hj => by rcases (show j = 0 ∨ j = 1 ∨ j = 2 ∨ j = 3 by omega) with rfl | rfl | rfl | rfl <;> rfl) (Nat.le_of_ble_eq_true rfl) (Nat.le_of_ble_eq_true rfl) d_T_init_44 (fun H hz hH hS => ?_)
                rw [Option.some.inj e165] at hH
                refine lv_dup M.x M.b d_T_init_47 rfl ?_
                rcases r115 with _ | a118
                · exact absurd hf z_nb0
                replace hf := z_sb hf
                replace hf := z_bind hf; obtain ⟨h119, e120, hf⟩ := hf
                refine zi_callN M hAO hH hS hz (c_F_init e120) w_F_init q_898 [.ref (n + 7), .int (6 : Int32), .ref a118] rfl rfl ⟨Nat.le_of_ble_eq_true rfl, Nat.le_of_ble_eq_true rfl⟩ hl.1 rfl (Nat.le_of_ble_eq_true rfl) ⟨Nat.le_of_ble_eq_true rfl, Nat.le_of_ble_eq_true rfl⟩ d_T_init_48 (fun H locs hz hH hS => ?_)
                replace hf := z_bind hf; obtain ⟨h121, e122, hf⟩ := hf
                refine zi_aast (t := 3) (ci := 1) M hH hS hz rfl rfl e122 d_T_init_51 (fun H locs hz hH hS => ?_)
                refine lv_iinc (v := (7 : Int32)) (lv' := [(1, .int (7 : Int32)), (0, .ref this)]) M.x M.b d_T_init_52 hl (k := 0) rfl (by decide) (by decide) rfl (fun ls hl => ?_)
                refine lv_goto (tgt := 30) M.x M.b d_T_init_55 (by decide) ?_
                refine lv_iload_n M.x M.b d_T_init_30 rfl (lv_at hl 0 rfl) ?_
                refine lv_aload_n M.x M.b d_T_init_31 rfl (lv_at hl 1 rfl) ?_
                replace hf := z_bind hf; obtain ⟨r123, e124, hf⟩ := hf
                refine z_get (ci := 6) (k := 0) M hH rfl (by decide) zinT q_189 (gA_spec e124) d_T_init_32 ?_
                rcases r123 with _ | a127
                · exact absurd hf z_nb0
                replace hf := z_sb hf
                replace hf := z_bind hf; obtain ⟨i129, e128, hf⟩ := hf
                refine z_alen M hH e128 d_T_init_35 ?_
                refine lv_icmp_ge (tgt := 58) M.x M.b d_T_init_36 (by decide) (fun c130 => ?_) (fun c130 => ?_)
                · replace hf := z_t c130 hf
                  cases hf
                · replace hf := z_f c130 hf
                  refine lv_aload_n M.x M.b d_T_init_39 rfl (lv_at hl 1 rfl) ?_
                  replace hf := z_bind hf; obtain ⟨r131, e132, hf⟩ := hf
                  refine z_get (ci := 6) (k := 0) M hH rfl (by decide) zinT q_189 (gA_spec e132) d_T_init_40 ?_
                  refine lv_iload_n M.x M.b d_T_init_43 rfl (lv_at hl 0 rfl) ?_
                  replace hf := z_bind hf; obtain ⟨h133, e164, hf⟩ := hf
                  refine zi_new (ci := 1) (fs := [.long 0, .long 0, .int 0, .int 0]) M hH hS hz rfl zinF zYF zYF_ok q_899 q_900 q_96 (fun j hj => by rcases (show j = 0 ∨ j = 1 ∨ j = 2 ∨ j = 3 by omega) with rfl | rfl | rfl | rfl <;> rfl) (Nat.le_of_ble_eq_true rfl) (Nat.le_of_ble_eq_true rfl) d_T_init_44 (fun H hz hH hS => ?_)
                  rw [Option.some.inj e164] at hH
                  refine lv_dup M.x M.b d_T_init_47 rfl ?_
                  rcases r131 with _ | a134
                  · exact absurd hf z_nb0
                  replace hf := z_sb hf
                  replace hf := z_bind hf; obtain ⟨h135, e136, hf⟩ := hf
                  refine zi_callN M hAO hH hS hz (c_F_init e136) w_F_init q_898 [.ref (n + 8), .int (7 : Int32), .ref a134] rfl rfl ⟨Nat.le_of_ble_eq_true rfl, Nat.le_of_ble_eq_true rfl⟩ hl.1 rfl (Nat.le_of_ble_eq_true rfl) ⟨Nat.le_of_ble_eq_true rfl, Nat.le_of_ble_eq_true rfl⟩ d_T_init_48 (fun H locs hz hH hS => ?_)
                  replace hf := z_bind hf; obtain ⟨h137, e138, hf⟩ := hf
                  refine zi_aast (t := 3) (ci := 1) M hH hS hz rfl rfl e138 d_T_init_51 (fun H locs hz hH hS => ?_)
                  refine lv_iinc (v := (8 : Int32)) (lv' := [(1, .int (8 : Int32)), (0, .ref this)]) M.x M.b d_T_init_52 hl (k := 0) rfl (by decide) (by decide) rfl (fun ls hl => ?_)
                  refine lv_goto (tgt := 30) M.x M.b d_T_init_55 (by decide) ?_
                  refine lv_iload_n M.x M.b d_T_init_30 rfl (lv_at hl 0 rfl) ?_
                  refine lv_aload_n M.x M.b d_T_init_31 rfl (lv_at hl 1 rfl) ?_
                  replace hf := z_bind hf; obtain ⟨r139, e140, hf⟩ := hf
                  refine z_get (ci := 6) (k := 0) M hH rfl (by decide) zinT q_189 (gA_spec e140) d_T_init_32 ?_
                  rcases r139 with _ | a143
                  · exact absurd hf z_nb0
                  replace hf := z_sb hf
                  replace hf := z_bind hf; obtain ⟨i145, e144, hf⟩ := hf
                  refine z_alen M hH e144 d_T_init_35 ?_
                  refine lv_icmp_ge (tgt := 58) M.x M.b d_T_init_36 (by decide) (fun c146 => ?_) (fun c146 => ?_)
                  · replace hf := z_t c146 hf
                    cases hf
                  · replace hf := z_f c146 hf
                    refine lv_aload_n M.x M.b d_T_init_39 rfl (lv_at hl 1 rfl) ?_
                    replace hf := z_bind hf; obtain ⟨r147, e148, hf⟩ := hf
                    refine z_get (ci := 6) (k := 0) M hH rfl (by decide) zinT q_189 (gA_spec e148) d_T_init_40 ?_
                    refine lv_iload_n M.x M.b d_T_init_43 rfl (lv_at hl 0 rfl) ?_
                    replace hf := z_bind hf; obtain ⟨h149, e163, hf⟩ := hf
                    refine zi_new (ci := 1) (fs := [.long 0, .long 0, .int 0, .int 0]) M hH hS hz rfl zinF zYF zYF_ok q_899 q_900 q_96 (fun j hj => by rcases (show j = 0 ∨ j = 1 ∨ j = 2 ∨ j = 3 by omega) with rfl | rfl | rfl | rfl <;> rfl) (Nat.le_of_ble_eq_true rfl) (Nat.le_of_ble_eq_true rfl) d_T_init_44 (fun H hz hH hS => ?_)
                    rw [Option.some.inj e163] at hH
                    refine lv_dup M.x M.b d_T_init_47 rfl ?_
                    rcases r147 with _ | a150
                    · exact absurd hf z_nb0
                    replace hf := z_sb hf
                    replace hf := z_bind hf; obtain ⟨h151, e152, hf⟩ := hf
                    refine zi_callN M hAO hH hS hz (c_F_init e152) w_F_init q_898 [.ref (n + 9), .int (8 : Int32), .ref a150] rfl rfl ⟨Nat.le_of_ble_eq_true rfl, Nat.le_of_ble_eq_true rfl⟩ hl.1 rfl (Nat.le_of_ble_eq_true rfl) ⟨Nat.le_of_ble_eq_true rfl, Nat.le_of_ble_eq_true rfl⟩ d_T_init_48 (fun H locs hz hH hS => ?_)
                    replace hf := z_bind hf; obtain ⟨h153, e154, hf⟩ := hf
                    refine zi_aast (t := 3) (ci := 1) M hH hS hz rfl rfl e154 d_T_init_51 (fun H locs hz hH hS => ?_)
                    refine lv_iinc (v := (9 : Int32)) (lv' := [(1, .int (9 : Int32)), (0, .ref this)]) M.x M.b d_T_init_52 hl (k := 0) rfl (by decide) (by decide) rfl (fun ls hl => ?_)
                    refine lv_goto (tgt := 30) M.x M.b d_T_init_55 (by decide) ?_
                    refine lv_iload_n M.x M.b d_T_init_30 rfl (lv_at hl 0 rfl) ?_
                    refine lv_aload_n M.x M.b d_T_init_31 rfl (lv_at hl 1 rfl) ?_
                    replace hf := z_bind hf; obtain ⟨r155, e156, hf⟩ := hf
                    refine z_get (ci := 6) (k := 0) M hH rfl (by decide) zinT q_189 (gA_spec e156) d_T_init_32 ?_
                    rcases r155 with _ | a159
                    · exact absurd hf z_nb0
                    replace hf := z_sb hf
                    replace hf := z_bind hf; obtain ⟨i161, e160, hf⟩ := hf
                    refine z_alen M hH e160 d_T_init_35 ?_
                    refine lv_icmp_ge (tgt := 58) M.x M.b d_T_init_36 (by decide) (fun c162 => ?_) (fun c162 => ?_)
                    · replace hf := z_t c162 hf
                      obtain rfl := z_r1 hf
                      exact zi_vret M hH hS hz (Nat.le_of_ble_eq_true rfl) (Nat.le_of_ble_eq_true rfl) d_T_init_58
                    · replace hf := z_f c162 hf
                      cases hf
def f_L_init (this : Nat) (x1 : Nat) (x2 : Nat) (x3 : Nat) (h : Hp) (n : Nat) : Option Hp :=
  (some (hup h n (.inl (1, 64, .inr (.inl (fun _ => 0)))))).bind fun h1 =>
  (pV h1 this 2 3 (.ref n)).bind fun h3 =>
  (some (hup h3 (n + 1) (.inl (1, 64, .inr (.inl (fun _ => 0)))))).bind fun h5 =>
  (pV h5 this 2 4 (.ref (n + 1))).bind fun h7 =>
  (some (hup h7 (n + 2) (.inl (0, 64, .inl (fun _ => 0))))).bind fun h9 =>
  (pV h9 this 2 5 (.ref (n + 2))).bind fun h11 =>
  (some (hup h11 (n + 3) (.inl (0, 224, .inl (fun _ => 0))))).bind fun h13 =>
  (pV h13 this 2 6 (.ref (n + 3))).bind fun h15 =>
  (some (hup h15 (n + 4) (.inl (0, 8, .inl (fun _ => 0))))).bind fun h17 =>
  (pV h17 this 2 7 (.ref (n + 4))).bind fun h19 =>
  (some (hup h19 (n + 5) (.inr (1, [.long 0, .long 0, .int 0, .int 0])))).bind fun h21 =>
  (f_F_init (n + 5) h21 (n + 6)).bind fun h22 =>
  (pV h22 this 2 8 (.ref (n + 5))).bind fun h24 =>
  (some (hup h24 (n + 6) (.inr (1, [.long 0, .long 0, .int 0, .int 0])))).bind fun h26 =>
  (f_F_init (n + 6) h26 (n + 7)).bind fun h27 =>
  (pV h27 this 2 9 (.ref (n + 6))).bind fun h29 =>
  (pV h29 this 2 10 (.null)).bind fun h31 =>
  (pV h31 this 2 11 (.int (0 : Int32))).bind fun h33 =>
  (pV h33 this 2 12 (.int (-1 : Int32))).bind fun h35 =>
  (pV h35 this 2 0 (.ref x1)).bind fun h37 =>
  (pV h37 this 2 1 (.ref x2)).bind fun h39 =>
  (pV h39 this 2 2 (.ref x3)).bind fun h41 =>
  some h41
set_option maxRecDepth 100000 in
set_option maxHeartbeats 8000000 in
theorem c_L_init {l : Launch} {N0 : Nat} {D : va_G} {cs : Nat → ClassId} {this : Nat} {x1 : Nat} {x2 : Nat} {x3 : Nat} {h : Hp} {n : Nat} {h0 : Hp} (hf : f_L_init this x1 x2 x3 h n = some h0) : FnI l N0 D cs y_L_init b_L_init 4 4 7 432 [.ref this, .ref x1, .ref x2, .ref x3] h n h0 (n + 7) := by
  refine z_startI (by decide) (Nat.le_of_ble_eq_true rfl) ?_
  intro p e s m args below meth c M hAO H hz hH hS ls hl
  unfold f_L_init at hf
  have hl : lv_has ls 4 [(0, .ref this), (1, .ref x1), (2, .ref x2), (3, .ref x3)] := hl
  obtain ⟨locs, hLe⟩ : ∃ locs : List Loc, locs = [] := ⟨_, rfl⟩
  rw [← hLe] at hS
  suffices hg : W p l e (zrm 4 7 432) s m args below meth c H locs 0 0 (MQ below (zQI N0 D cs h0 (n + 7)) args s 7 432 (zA N0)) (F0 m 0 ls []) by rw [hLe] at hg; exact hg
  clear hLe
  refine lv_aload_n M.x M.b d_L_init_0 rfl (lv_at hl 0 rfl) ?_
  refine zi_obj M q_903 q_883 q_884 hl.1 (Nat.le_of_ble_eq_true rfl) (Nat.le_of_ble_eq_true rfl) d_L_init_1 ?_
  refine lv_aload_n M.x M.b d_L_init_4 rfl (lv_at hl 0 rfl) ?_
  refine lv_bipush (v := (64 : Int32)) M.x M.b d_L_init_5 rfl ?_
  replace hf := z_bind hf; obtain ⟨h1, e2, hf⟩ := hf
  refine zi_newa (atype := .long) (t := 1) (N := 64) (a0 := (64, .inr (.inl (fun _ => 0)))) M hH hS hz q_906 rfl (fun _ _ q => q) (fun _ => rfl) (by decide) (by decide) (Nat.le_of_ble_eq_true rfl) (Nat.le_of_ble_eq_true rfl) (Nat.le_of_ble_eq_true rfl) d_L_init_7 (fun H hz hH hS => ?_)
  rw [Option.some.inj e2] at hH
  replace hf := z_bind hf; obtain ⟨h3, e4, hf⟩ := hf
  refine zi_put (ci := 2) (k := 3) M hH hS hz rfl (by decide) zinL zYL zYL_ok zNL_ok rfl rfl q_248 rfl rfl rfl e4 d_L_init_9 (fun H locs hz hH hS => ?_)
  refine lv_aload_n M.x M.b d_L_init_12 rfl (lv_at hl 0 rfl) ?_
  refine lv_bipush (v := (64 : Int32)) M.x M.b d_L_init_13 rfl ?_
  replace hf := z_bind hf; obtain ⟨h5, e6, hf⟩ := hf
  refine zi_newa (atype := .long) (t := 1) (N := 64) (a0 := (64, .inr (.inl (fun _ => 0)))) M hH hS hz q_906 rfl (fun _ _ q => q) (fun _ => rfl) (by decide) (by decide) (Nat.le_of_ble_eq_true rfl) (Nat.le_of_ble_eq_true rfl) (Nat.le_of_ble_eq_true rfl) d_L_init_15 (fun H hz hH hS => ?_)
  rw [Option.some.inj e6] at hH
  replace hf := z_bind hf; obtain ⟨h7, e8, hf⟩ := hf
  refine zi_put (ci := 2) (k := 4) M hH hS hz rfl (by decide) zinL zYL zYL_ok zNL_ok rfl rfl q_246 rfl rfl rfl e8 d_L_init_17 (fun H locs hz hH hS => ?_)
  refine lv_aload_n M.x M.b d_L_init_20 rfl (lv_at hl 0 rfl) ?_
  refine lv_bipush (v := (64 : Int32)) M.x M.b d_L_init_21 rfl ?_
  replace hf := z_bind hf; obtain ⟨h9, e10, hf⟩ := hf
  refine zi_newa (atype := .int) (t := 0) (N := 64) (a0 := (64, .inl (fun _ => 0))) M hH hS hz q_885 rfl (fun _ _ q => q) (fun _ => rfl) (by decide) (by decide) (Nat.le_of_ble_eq_true rfl) (Nat.le_of_ble_eq_true rfl) (Nat.le_of_ble_eq_true rfl) d_L_init_23 (fun H hz hH hS => ?_)
  rw [Option.some.inj e10] at hH
  replace hf := z_bind hf; obtain ⟨h11, e12, hf⟩ := hf
  refine zi_put (ci := 2) (k := 5) M hH hS hz rfl (by decide) zinL zYL zYL_ok zNL_ok rfl rfl q_244 rfl rfl rfl e12 d_L_init_25 (fun H locs hz hH hS => ?_)
  refine lv_aload_n M.x M.b d_L_init_28 rfl (lv_at hl 0 rfl) ?_
  refine lv_sipush (v := (224 : Int32)) M.x M.b d_L_init_29 rfl ?_
  replace hf := z_bind hf; obtain ⟨h13, e14, hf⟩ := hf
  refine zi_newa (atype := .int) (t := 0) (N := 224) (a0 := (224, .inl (fun _ => 0))) M hH hS hz q_885 rfl (fun _ _ q => q) (fun _ => rfl) (by decide) (by decide) (Nat.le_of_ble_eq_true rfl) (Nat.le_of_ble_eq_true rfl) (Nat.le_of_ble_eq_true rfl) d_L_init_32 (fun H hz hH hS => ?_)
  rw [Option.some.inj e14] at hH
  replace hf := z_bind hf; obtain ⟨h15, e16, hf⟩ := hf
  refine zi_put (ci := 2) (k := 6) M hH hS hz rfl (by decide) zinL zYL zYL_ok zNL_ok rfl rfl q_235 rfl rfl rfl e16 d_L_init_34 (fun H locs hz hH hS => ?_)
  refine lv_aload_n M.x M.b d_L_init_37 rfl (lv_at hl 0 rfl) ?_
  refine lv_bipush (v := (8 : Int32)) M.x M.b d_L_init_38 rfl ?_
  replace hf := z_bind hf; obtain ⟨h17, e18, hf⟩ := hf
  refine zi_newa (atype := .int) (t := 0) (N := 8) (a0 := (8, .inl (fun _ => 0))) M hH hS hz q_885 rfl (fun _ _ q => q) (fun _ => rfl) (by decide) (by decide) (Nat.le_of_ble_eq_true rfl) (Nat.le_of_ble_eq_true rfl) (Nat.le_of_ble_eq_true rfl) d_L_init_40 (fun H hz hH hS => ?_)
  rw [Option.some.inj e18] at hH
  replace hf := z_bind hf; obtain ⟨h19, e20, hf⟩ := hf
  refine zi_put (ci := 2) (k := 7) M hH hS hz rfl (by decide) zinL zYL zYL_ok zNL_ok rfl rfl q_297 rfl rfl rfl e20 d_L_init_42 (fun H locs hz hH hS => ?_)
  refine lv_aload_n M.x M.b d_L_init_45 rfl (lv_at hl 0 rfl) ?_
  replace hf := z_bind hf; obtain ⟨h21, e44, hf⟩ := hf
  refine zi_new (ci := 1) (fs := [.long 0, .long 0, .int 0, .int 0]) M hH hS hz rfl zinF zYF zYF_ok q_905 q_900 q_96 (fun j hj => by rcases (show j = 0 ∨ j = 1 ∨ j = 2 ∨ j = 3 by omega) with rfl | rfl | rfl | rfl <;> rfl) (Nat.le_of_ble_eq_true rfl) (Nat.le_of_ble_eq_true rfl) d_L_init_46 (fun H hz hH hS => ?_)
  rw [Option.some.inj e44] at hH
  refine lv_dup M.x M.b d_L_init_49 rfl ?_
  replace hf := z_bind hf; obtain ⟨h22, e23, hf⟩ := hf
  refine zi_callN M hAO hH hS hz (c_F_init e23) w_F_init q_904 [.ref (n + 5), .ref this] rfl rfl ⟨Nat.le_of_ble_eq_true rfl, Nat.le_of_ble_eq_true rfl⟩ hl.1 rfl (Nat.le_of_ble_eq_true rfl) ⟨Nat.le_of_ble_eq_true rfl, Nat.le_of_ble_eq_true rfl⟩ d_L_init_50 (fun H locs hz hH hS => ?_)
  replace hf := z_bind hf; obtain ⟨h24, e25, hf⟩ := hf
  refine zi_put (ci := 2) (k := 8) M hH hS hz rfl (by decide) zinL zYL zYL_ok zNL_ok rfl rfl q_242 rfl rfl rfl e25 d_L_init_53 (fun H locs hz hH hS => ?_)
  refine lv_aload_n M.x M.b d_L_init_56 rfl (lv_at hl 0 rfl) ?_
  replace hf := z_bind hf; obtain ⟨h26, e43, hf⟩ := hf
  refine zi_new (ci := 1) (fs := [.long 0, .long 0, .int 0, .int 0]) M hH hS hz rfl zinF zYF zYF_ok q_905 q_900 q_96 (fun j hj => by rcases (show j = 0 ∨ j = 1 ∨ j = 2 ∨ j = 3 by omega) with rfl | rfl | rfl | rfl <;> rfl) (Nat.le_of_ble_eq_true rfl) (Nat.le_of_ble_eq_true rfl) d_L_init_57 (fun H hz hH hS => ?_)
  rw [Option.some.inj e43] at hH
  refine lv_dup M.x M.b d_L_init_60 rfl ?_
  replace hf := z_bind hf; obtain ⟨h27, e28, hf⟩ := hf
  refine zi_callN M hAO hH hS hz (c_F_init e28) w_F_init q_904 [.ref (n + 6), .ref this] rfl rfl ⟨Nat.le_of_ble_eq_true rfl, Nat.le_of_ble_eq_true rfl⟩ hl.1 rfl (Nat.le_of_ble_eq_true rfl) ⟨Nat.le_of_ble_eq_true rfl, Nat.le_of_ble_eq_true rfl⟩ d_L_init_61 (fun H locs hz hH hS => ?_)
  replace hf := z_bind hf; obtain ⟨h29, e30, hf⟩ := hf
  refine zi_put (ci := 2) (k := 9) M hH hS hz rfl (by decide) zinL zYL zYL_ok zNL_ok rfl rfl q_270 rfl rfl rfl e30 d_L_init_64 (fun H locs hz hH hS => ?_)
  refine lv_aload_n M.x M.b d_L_init_67 rfl (lv_at hl 0 rfl) ?_
  refine lv_null M.x M.b d_L_init_68 ?_
  replace hf := z_bind hf; obtain ⟨h31, e32, hf⟩ := hf
  refine zi_put (ci := 2) (k := 10) M hH hS hz rfl (by decide) zinL zYL zYL_ok zNL_ok rfl rfl q_252 rfl rfl rfl e32 d_L_init_69 (fun H locs hz hH hS => ?_)
  refine lv_aload_n M.x M.b d_L_init_72 rfl (lv_at hl 0 rfl) ?_
  refine lv_iconst (v := (0 : Int32)) M.x M.b d_L_init_73 rfl ?_
  replace hf := z_bind hf; obtain ⟨h33, e34, hf⟩ := hf
  refine zi_put (ci := 2) (k := 11) M hH hS hz rfl (by decide) zinL zYL zYL_ok zNL_ok rfl rfl q_250 rfl rfl rfl e34 d_L_init_74 (fun H locs hz hH hS => ?_)
  refine lv_aload_n M.x M.b d_L_init_77 rfl (lv_at hl 0 rfl) ?_
  refine lv_iconst (v := (-1 : Int32)) M.x M.b d_L_init_78 rfl ?_
  replace hf := z_bind hf; obtain ⟨h35, e36, hf⟩ := hf
  refine zi_put (ci := 2) (k := 12) M hH hS hz rfl (by decide) zinL zYL zYL_ok zNL_ok rfl rfl q_234 rfl rfl rfl e36 d_L_init_79 (fun H locs hz hH hS => ?_)
  refine lv_aload_n M.x M.b d_L_init_82 rfl (lv_at hl 0 rfl) ?_
  refine lv_aload_n M.x M.b d_L_init_83 rfl (lv_at hl 1 rfl) ?_
  replace hf := z_bind hf; obtain ⟨h37, e38, hf⟩ := hf
  refine zi_put (ci := 2) (k := 0) M hH hS hz rfl (by decide) zinL zYL zYL_ok zNL_ok rfl rfl q_251 rfl rfl rfl e38 d_L_init_84 (fun H locs hz hH hS => ?_)
  refine lv_aload_n M.x M.b d_L_init_87 rfl (lv_at hl 0 rfl) ?_
  refine lv_aload_n M.x M.b d_L_init_88 rfl (lv_at hl 2 rfl) ?_
  replace hf := z_bind hf; obtain ⟨h39, e40, hf⟩ := hf
  refine zi_put (ci := 2) (k := 1) M hH hS hz rfl (by decide) zinL zYL zYL_ok zNL_ok rfl rfl q_276 rfl rfl rfl e40 d_L_init_89 (fun H locs hz hH hS => ?_)
  refine lv_aload_n M.x M.b d_L_init_92 rfl (lv_at hl 0 rfl) ?_
  refine lv_aload_n M.x M.b d_L_init_93 rfl (lv_at hl 3 rfl) ?_
  replace hf := z_bind hf; obtain ⟨h41, e42, hf⟩ := hf
  refine zi_put (ci := 2) (k := 2) M hH hS hz rfl (by decide) zinL zYL zYL_ok zNL_ok rfl rfl q_253 rfl rfl rfl e42 d_L_init_94 (fun H locs hz hH hS => ?_)
  obtain rfl := z_r1 hf
  exact zi_vret M hH hS hz (Nat.le_of_ble_eq_true rfl) (Nat.le_of_ble_eq_true rfl) d_L_init_97
def f_K_init (this : Nat) (x1 : Nat) (h : Hp) (n : Nat) : Option Hp :=
  (some (hup h n (.inl (0, 64, .inl (fun _ => 0))))).bind fun h1 =>
  (pV h1 this 3 1 (.ref n)).bind fun h3 =>
  (some (hup h3 (n + 1) (.inl (0, 8, .inl (fun _ => 0))))).bind fun h5 =>
  (pV h5 this 3 2 (.ref (n + 1))).bind fun h7 =>
  (some (hup h7 (n + 2) (.inl (2, 8, .inl (fun _ => 0))))).bind fun h9 =>
  (pV h9 this 3 3 (.ref (n + 2))).bind fun h11 =>
  (pV h11 this 3 0 (.ref x1)).bind fun h13 =>
  some h13
set_option maxRecDepth 100000 in
set_option maxHeartbeats 8000000 in
theorem c_K_init {l : Launch} {N0 : Nat} {D : va_G} {cs : Nat → ClassId} {this : Nat} {x1 : Nat} {h : Hp} {n : Nat} {h0 : Hp} (hf : f_K_init this x1 h n = some h0) : FnI l N0 D cs y_K_init b_K_init 2 2 3 80 [.ref this, .ref x1] h n h0 (n + 3) := by
  refine z_startI (by decide) (Nat.le_of_ble_eq_true rfl) ?_
  intro p e s m args below meth c M hAO H hz hH hS ls hl
  unfold f_K_init at hf
  have hl : lv_has ls 2 [(0, .ref this), (1, .ref x1)] := hl
  obtain ⟨locs, hLe⟩ : ∃ locs : List Loc, locs = [] := ⟨_, rfl⟩
  rw [← hLe] at hS
  suffices hg : W p l e (zrm 2 3 80) s m args below meth c H locs 0 0 (MQ below (zQI N0 D cs h0 (n + 3)) args s 3 80 (zA N0)) (F0 m 0 ls []) by rw [hLe] at hg; exact hg
  clear hLe
  refine lv_aload_n M.x M.b d_K_init_0 rfl (lv_at hl 0 rfl) ?_
  refine zi_obj M q_909 q_883 q_884 hl.1 (Nat.le_of_ble_eq_true rfl) (Nat.le_of_ble_eq_true rfl) d_K_init_1 ?_
  refine lv_aload_n M.x M.b d_K_init_4 rfl (lv_at hl 0 rfl) ?_
  refine lv_bipush (v := (64 : Int32)) M.x M.b d_K_init_5 rfl ?_
  replace hf := z_bind hf; obtain ⟨h1, e2, hf⟩ := hf
  refine zi_newa (atype := .int) (t := 0) (N := 64) (a0 := (64, .inl (fun _ => 0))) M hH hS hz q_885 rfl (fun _ _ q => q) (fun _ => rfl) (by decide) (by decide) (Nat.le_of_ble_eq_true rfl) (Nat.le_of_ble_eq_true rfl) (Nat.le_of_ble_eq_true rfl) d_K_init_7 (fun H hz hH hS => ?_)
  rw [Option.some.inj e2] at hH
  replace hf := z_bind hf; obtain ⟨h3, e4, hf⟩ := hf
  refine zi_put (ci := 3) (k := 1) M hH hS hz rfl (by decide) zinK zYK zYK_ok zNK_ok rfl rfl q_316 rfl rfl rfl e4 d_K_init_9 (fun H locs hz hH hS => ?_)
  refine lv_aload_n M.x M.b d_K_init_12 rfl (lv_at hl 0 rfl) ?_
  refine lv_bipush (v := (8 : Int32)) M.x M.b d_K_init_13 rfl ?_
  replace hf := z_bind hf; obtain ⟨h5, e6, hf⟩ := hf
  refine zi_newa (atype := .int) (t := 0) (N := 8) (a0 := (8, .inl (fun _ => 0))) M hH hS hz q_885 rfl (fun _ _ q => q) (fun _ => rfl) (by decide) (by decide) (Nat.le_of_ble_eq_true rfl) (Nat.le_of_ble_eq_true rfl) (Nat.le_of_ble_eq_true rfl) d_K_init_15 (fun H hz hH hS => ?_)
  rw [Option.some.inj e6] at hH
  replace hf := z_bind hf; obtain ⟨h7, e8, hf⟩ := hf
  refine zi_put (ci := 3) (k := 2) M hH hS hz rfl (by decide) zinK zYK zYK_ok zNK_ok rfl rfl q_324 rfl rfl rfl e8 d_K_init_17 (fun H locs hz hH hS => ?_)
  refine lv_aload_n M.x M.b d_K_init_20 rfl (lv_at hl 0 rfl) ?_
  refine lv_bipush (v := (8 : Int32)) M.x M.b d_K_init_21 rfl ?_
  replace hf := z_bind hf; obtain ⟨h9, e10, hf⟩ := hf
  refine zi_newa (atype := .boolean) (t := 2) (N := 8) (a0 := (8, .inl (fun _ => 0))) M hH hS hz q_910 rfl (fun _ _ q => q) (fun _ => rfl) (by decide) (by decide) (Nat.le_of_ble_eq_true rfl) (Nat.le_of_ble_eq_true rfl) (Nat.le_of_ble_eq_true rfl) d_K_init_23 (fun H hz hH hS => ?_)
  rw [Option.some.inj e10] at hH
  replace hf := z_bind hf; obtain ⟨h11, e12, hf⟩ := hf
  refine zi_put (ci := 3) (k := 3) M hH hS hz rfl (by decide) zinK zYK zYK_ok zNK_ok rfl rfl q_332 rfl rfl rfl e12 d_K_init_25 (fun H locs hz hH hS => ?_)
  refine lv_aload_n M.x M.b d_K_init_28 rfl (lv_at hl 0 rfl) ?_
  refine lv_aload_n M.x M.b d_K_init_29 rfl (lv_at hl 1 rfl) ?_
  replace hf := z_bind hf; obtain ⟨h13, e14, hf⟩ := hf
  refine zi_put (ci := 3) (k := 0) M hH hS hz rfl (by decide) zinK zYK zYK_ok zNK_ok rfl rfl q_311 rfl rfl rfl e14 d_K_init_30 (fun H locs hz hH hS => ?_)
  obtain rfl := z_r1 hf
  exact zi_vret M hH hS hz (Nat.le_of_ble_eq_true rfl) (Nat.le_of_ble_eq_true rfl) d_K_init_33
def f_Y_init (this : Nat)  (h : Hp) (n : Nat) : Option Hp :=
  (some (hup h n (.inr (0, [.null, .null])))).bind fun h1 =>
  (f_B_init n h1 (n + 1)).bind fun h2 =>
  (pV h2 this 7 0 (.ref n)).bind fun h4 =>
  (some (hup h4 (n + 3) (.inr (0, [.null, .null])))).bind fun h6 =>
  (f_B_init (n + 3) h6 (n + 4)).bind fun h7 =>
  (pV h7 this 7 1 (.ref (n + 3))).bind fun h9 =>
  (some (hup h9 (n + 6) (.inl (4, 8, .inr (.inr (.inr (.inr (fun _ => none)))))))).bind fun h11 =>
  (pV h11 this 7 2 (.ref (n + 6))).bind fun h13 =>
  (gA h13 this 7 2).bind fun r15 =>
  (some (hup h13 (n + 7) (.inr (4, [.null, .null, .int 0])))).bind fun h17 =>
  (r15).bind fun a18 =>
  (f_P_init (n + 7) h17 (n + 8)).bind fun h19 =>
  (sA h19 4 a18 4 (0 : Int32) (n + 7)).bind fun h21 =>
  (gA h21 this 7 2).bind fun r23 =>
  (some (hup h21 (n + 10) (.inr (4, [.null, .null, .int 0])))).bind fun h25 =>
  (r23).bind fun a26 =>
  (f_P_init (n + 10) h25 (n + 11)).bind fun h27 =>
  (sA h27 4 a26 4 (1 : Int32) (n + 10)).bind fun h29 =>
  (gA h29 this 7 2).bind fun r31 =>
  (some (hup h29 (n + 13) (.inr (4, [.null, .null, .int 0])))).bind fun h33 =>
  (r31).bind fun a34 =>
  (f_P_init (n + 13) h33 (n + 14)).bind fun h35 =>
  (sA h35 4 a34 4 (2 : Int32) (n + 13)).bind fun h37 =>
  (gA h37 this 7 2).bind fun r39 =>
  (some (hup h37 (n + 16) (.inr (4, [.null, .null, .int 0])))).bind fun h41 =>
  (r39).bind fun a42 =>
  (f_P_init (n + 16) h41 (n + 17)).bind fun h43 =>
  (sA h43 4 a42 4 (3 : Int32) (n + 16)).bind fun h45 =>
  (gA h45 this 7 2).bind fun r47 =>
  (some (hup h45 (n + 19) (.inr (4, [.null, .null, .int 0])))).bind fun h49 =>
  (r47).bind fun a50 =>
  (f_P_init (n + 19) h49 (n + 20)).bind fun h51 =>
  (sA h51 4 a50 4 (4 : Int32) (n + 19)).bind fun h53 =>
  (gA h53 this 7 2).bind fun r55 =>
  (some (hup h53 (n + 22) (.inr (4, [.null, .null, .int 0])))).bind fun h57 =>
  (r55).bind fun a58 =>
  (f_P_init (n + 22) h57 (n + 23)).bind fun h59 =>
  (sA h59 4 a58 4 (5 : Int32) (n + 22)).bind fun h61 =>
  (gA h61 this 7 2).bind fun r63 =>
  (some (hup h61 (n + 25) (.inr (4, [.null, .null, .int 0])))).bind fun h65 =>
  (r63).bind fun a66 =>
  (f_P_init (n + 25) h65 (n + 26)).bind fun h67 =>
  (sA h67 4 a66 4 (6 : Int32) (n + 25)).bind fun h69 =>
  (gA h69 this 7 2).bind fun r71 =>
  (some (hup h69 (n + 28) (.inr (4, [.null, .null, .int 0])))).bind fun h73 =>
  (r71).bind fun a74 =>
  (f_P_init (n + 28) h73 (n + 29)).bind fun h75 =>
  (sA h75 4 a74 4 (7 : Int32) (n + 28)).bind fun h77 =>
  (some (hup h77 (n + 31) (.inr (5, [.null, .int 0, .int 0, .int 0, .int 0, .null])))).bind fun h79 =>
  (f_R_init (n + 31) h79 (n + 32)).bind fun h80 =>
  (pV h80 this 7 3 (.ref (n + 31))).bind fun h82 =>
  (some (hup h82 (n + 33) (.inr (6, [.null, .null, .null, .int 0])))).bind fun h84 =>
  (f_T_init (n + 33) h84 (n + 34)).bind fun h85 =>
  (pV h85 this 7 4 (.ref (n + 33))).bind fun h87 =>
  (some (hup h87 (n + 44) (.inr (2, [.null, .null, .null, .null, .null, .null, .null, .null, .null, .null, .null, .int 0, .int 0])))).bind fun h89 =>
  (gA h89 this 7 0).bind fun r90 =>
  (gA h89 this 7 1).bind fun r92 =>
  (gA h89 this 7 4).bind fun r94 =>
  (r90).bind fun a96 =>
  (r92).bind fun a97 =>
  (r94).bind fun a98 =>
  (f_L_init (n + 44) a96 a97 a98 h89 (n + 45)).bind fun h99 =>
  (pV h99 this 7 5 (.ref (n + 44))).bind fun h101 =>
  (some (hup h101 (n + 52) (.inr (3, [.null, .null, .null, .null])))).bind fun h103 =>
  (gA h103 this 7 0).bind fun r104 =>
  (r104).bind fun a106 =>
  (f_K_init (n + 52) a106 h103 (n + 53)).bind fun h107 =>
  (pV h107 this 7 6 (.ref (n + 52))).bind fun h109 =>
  (some (hup h109 (n + 56) (.inr (1, [.long 0, .long 0, .int 0, .int 0])))).bind fun h111 =>
  (f_F_init (n + 56) h111 (n + 57)).bind fun h112 =>
  (pV h112 this 7 7 (.ref (n + 56))).bind fun h114 =>
  (some (hup h114 (n + 57) (.inr (1, [.long 0, .long 0, .int 0, .int 0])))).bind fun h116 =>
  (f_F_init (n + 57) h116 (n + 58)).bind fun h117 =>
  (pV h117 this 7 8 (.ref (n + 57))).bind fun h119 =>
  (pV h119 this 7 9 (.int (0 : Int32))).bind fun h121 =>
  (pV h121 this 7 10 (.int (-1 : Int32))).bind fun h123 =>
  some h123
set_option maxRecDepth 100000 in
set_option maxHeartbeats 8000000 in
theorem c_Y_init {l : Launch} {N0 : Nat} {D : va_G} {cs : Nat → ClassId} {this : Nat} {h : Hp} {n : Nat} {h0 : Hp} (hf : f_Y_init this  h n = some h0) : FnI l N0 D cs y_Y_init b_Y_init 2 6 58 1408 [.ref this] h n h0 (n + 58) := by
  refine z_startI (by decide) (Nat.le_of_ble_eq_true rfl) ?_
  intro p e s m args below meth c M hAO H hz hH hS ls hl
  unfold f_Y_init at hf
  have hl : lv_has ls 2 [(0, .ref this)] := hl
  obtain ⟨locs, hLe⟩ : ∃ locs : List Loc, locs = [] := ⟨_, rfl⟩
  rw [← hLe] at hS
  suffices hg : W p l e (zrm 6 58 1408) s m args below meth c H locs 0 0 (MQ below (zQI N0 D cs h0 (n + 58)) args s 58 1408 (zA N0)) (F0 m 0 ls []) by rw [hLe] at hg; exact hg
  clear hLe
  refine lv_aload_n M.x M.b d_Y_init_0 rfl (lv_at hl 0 rfl) ?_
  refine zi_obj M q_913 q_883 q_884 hl.1 (Nat.le_of_ble_eq_true rfl) (Nat.le_of_ble_eq_true rfl) d_Y_init_1 ?_
  refine lv_aload_n M.x M.b d_Y_init_4 rfl (lv_at hl 0 rfl) ?_
  replace hf := z_bind hf; obtain ⟨h1, e140, hf⟩ := hf
  refine zi_new (ci := 0) (fs := [.null, .null]) M hH hS hz rfl zinB zYB zYB_ok q_932 q_933 q_41 (fun j hj => by rcases (show j = 0 ∨ j = 1 by omega) with rfl | rfl <;> rfl) (Nat.le_of_ble_eq_true rfl) (Nat.le_of_ble_eq_true rfl) d_Y_init_5 (fun H hz hH hS => ?_)
  rw [Option.some.inj e140] at hH
  refine lv_dup M.x M.b d_Y_init_8 rfl ?_
  replace hf := z_bind hf; obtain ⟨h2, e3, hf⟩ := hf
  refine zi_callN M hAO hH hS hz (c_B_init e3) w_B_init q_931 [.ref n, .ref this] rfl rfl ⟨Nat.le_of_ble_eq_true rfl, Nat.le_of_ble_eq_true rfl⟩ hl.1 rfl (Nat.le_of_ble_eq_true rfl) ⟨Nat.le_of_ble_eq_true rfl, Nat.le_of_ble_eq_true rfl⟩ d_Y_init_9 (fun H locs hz hH hS => ?_)
  replace hf := z_bind hf; obtain ⟨h4, e5, hf⟩ := hf
  refine zi_put (ci := 7) (k := 0) M hH hS hz rfl (by decide) zinY zYY zYY_ok zNY_ok rfl rfl q_419 rfl rfl rfl e5 d_Y_init_12 (fun H locs hz hH hS => ?_)
  refine lv_aload_n M.x M.b d_Y_init_15 rfl (lv_at hl 0 rfl) ?_
  replace hf := z_bind hf; obtain ⟨h6, e139, hf⟩ := hf
  refine zi_new (ci := 0) (fs := [.null, .null]) M hH hS hz rfl zinB zYB zYB_ok q_932 q_933 q_41 (fun j hj => by rcases (show j = 0 ∨ j = 1 by omega) with rfl | rfl <;> rfl) (Nat.le_of_ble_eq_true rfl) (Nat.le_of_ble_eq_true rfl) d_Y_init_16 (fun H hz hH hS => ?_)
  rw [Option.some.inj e139] at hH
  refine lv_dup M.x M.b d_Y_init_19 rfl ?_
  replace hf := z_bind hf; obtain ⟨h7, e8, hf⟩ := hf
  refine zi_callN M hAO hH hS hz (c_B_init e8) w_B_init q_931 [.ref (n + 3), .ref this] rfl rfl ⟨Nat.le_of_ble_eq_true rfl, Nat.le_of_ble_eq_true rfl⟩ hl.1 rfl (Nat.le_of_ble_eq_true rfl) ⟨Nat.le_of_ble_eq_true rfl, Nat.le_of_ble_eq_true rfl⟩ d_Y_init_20 (fun H locs hz hH hS => ?_)
  replace hf := z_bind hf; obtain ⟨h9, e10, hf⟩ := hf
  refine zi_put (ci := 7) (k := 1) M hH hS hz rfl (by decide) zinY zYY zYY_ok zNY_ok rfl rfl q_542 rfl rfl rfl e10 d_Y_init_23 (fun H locs hz hH hS => ?_)
  refine lv_aload_n M.x M.b d_Y_init_26 rfl (lv_at hl 0 rfl) ?_
  refine lv_bipush (v := (8 : Int32)) M.x M.b d_Y_init_27 rfl ?_
  replace hf := z_bind hf; obtain ⟨h11, e12, hf⟩ := hf
  refine zi_newq (t := 4) (N := 8) M hH hS hz hAO.1 rfl q_929 (by decide) (by decide) (Nat.le_of_ble_eq_true rfl) (Nat.le_of_ble_eq_true rfl) (Nat.le_of_ble_eq_true rfl) d_Y_init_29 (fun H hz hH hS => ?_)
  rw [Option.some.inj e12] at hH
  replace hf := z_bind hf; obtain ⟨h13, e14, hf⟩ := hf
  refine zi_put (ci := 7) (k := 2) M hH hS hz rfl (by decide) zinY zYY zYY_ok zNY_ok rfl rfl q_459 rfl rfl rfl e14 d_Y_init_32 (fun H locs hz hH hS => ?_)
  refine lv_iconst (v := (0 : Int32)) M.x M.b d_Y_init_35 rfl ?_
  refine lv_istore_n (lv' := [(1, .int (0 : Int32)), (0, .ref this)]) M.x M.b d_Y_init_36 rfl hl (by decide) rfl (fun ls hl => ?_)
  refine lv_iload_n M.x M.b d_Y_init_37 rfl (lv_at hl 0 rfl) ?_
  refine lv_bipush (v := (8 : Int32)) M.x M.b d_Y_init_38 rfl ?_
  refine lv_icmp_ge (tgt := 62) M.x M.b d_Y_init_40 (by decide) (fun c => absurd c (by decide)) (fun _ => ?_)
  refine lv_aload_n M.x M.b d_Y_init_43 rfl (lv_at hl 1 rfl) ?_
  replace hf := z_bind hf; obtain ⟨r15, e16, hf⟩ := hf
  refine z_get (ci := 7) (k := 2) M hH rfl (by decide) zinY q_459 (gA_spec e16) d_Y_init_44 ?_
  refine lv_iload_n M.x M.b d_Y_init_47 rfl (lv_at hl 0 rfl) ?_
  replace hf := z_bind hf; obtain ⟨h17, e138, hf⟩ := hf
  refine zi_new (ci := 4) (fs := [.null, .null, .int 0]) M hH hS hz rfl zinP zYP zYP_ok q_929 q_930 q_136 (fun j hj => by rcases (show j = 0 ∨ j = 1 ∨ j = 2 by omega) with rfl | rfl | rfl <;> rfl) (Nat.le_of_ble_eq_true rfl) (Nat.le_of_ble_eq_true rfl) d_Y_init_48 (fun H hz hH hS => ?_)
  rw [Option.some.inj e138] at hH
  refine lv_dup M.x M.b d_Y_init_51 rfl ?_
  rcases r15 with _ | a18
  · exact absurd hf z_nb0
  replace hf := z_sb hf
  replace hf := z_bind hf; obtain ⟨h19, e20, hf⟩ := hf
  refine zi_callN M hAO hH hS hz (c_P_init e20) w_P_init q_928 [.ref (n + 7), .int (0 : Int32), .ref a18] rfl rfl ⟨Nat.le_of_ble_eq_true rfl, Nat.le_of_ble_eq_true rfl⟩ hl.1 rfl (Nat.le_of_ble_eq_true rfl) ⟨Nat.le_of_ble_eq_true rfl, Nat.le_of_ble_eq_true rfl⟩ d_Y_init_52 (fun H locs hz hH hS => ?_)
  replace hf := z_bind hf; obtain ⟨h21, e22, hf⟩ := hf
  refine zi_aast (t := 4) (ci := 4) M hH hS hz rfl rfl e22 d_Y_init_55 (fun H locs hz hH hS => ?_)
  refine lv_iinc (v := (1 : Int32)) (lv' := [(1, .int (1 : Int32)), (0, .ref this)]) M.x M.b d_Y_init_56 hl (k := 0) rfl (by decide) (by decide) rfl (fun ls hl => ?_)
  refine lv_goto (tgt := 37) M.x M.b d_Y_init_59 (by decide) ?_
  refine lv_iload_n M.x M.b d_Y_init_37 rfl (lv_at hl 0 rfl) ?_
  refine lv_bipush (v := (8 : Int32)) M.x M.b d_Y_init_38 rfl ?_
  refine lv_icmp_ge (tgt := 62) M.x M.b d_Y_init_40 (by decide) (fun c => absurd c (by decide)) (fun _ => ?_)
  refine lv_aload_n M.x M.b d_Y_init_43 rfl (lv_at hl 1 rfl) ?_
  replace hf := z_bind hf; obtain ⟨r23, e24, hf⟩ := hf
  refine z_get (ci := 7) (k := 2) M hH rfl (by decide) zinY q_459 (gA_spec e24) d_Y_init_44 ?_
  refine lv_iload_n M.x M.b d_Y_init_47 rfl (lv_at hl 0 rfl) ?_
  replace hf := z_bind hf; obtain ⟨h25, e137, hf⟩ := hf
  refine zi_new (ci := 4) (fs := [.null, .null, .int 0]) M hH hS hz rfl zinP zYP zYP_ok q_929 q_930 q_136 (fun j hj => by rcases (show j = 0 ∨ j = 1 ∨ j = 2 by omega) with rfl | rfl | rfl <;> rfl) (Nat.le_of_ble_eq_true rfl) (Nat.le_of_ble_eq_true rfl) d_Y_init_48 (fun H hz hH hS => ?_)
  rw [Option.some.inj e137] at hH
  refine lv_dup M.x M.b d_Y_init_51 rfl ?_
  rcases r23 with _ | a26
  · exact absurd hf z_nb0
  replace hf := z_sb hf
  replace hf := z_bind hf; obtain ⟨h27, e28, hf⟩ := hf
  refine zi_callN M hAO hH hS hz (c_P_init e28) w_P_init q_928 [.ref (n + 10), .int (1 : Int32), .ref a26] rfl rfl ⟨Nat.le_of_ble_eq_true rfl, Nat.le_of_ble_eq_true rfl⟩ hl.1 rfl (Nat.le_of_ble_eq_true rfl) ⟨Nat.le_of_ble_eq_true rfl, Nat.le_of_ble_eq_true rfl⟩ d_Y_init_52 (fun H locs hz hH hS => ?_)
  replace hf := z_bind hf; obtain ⟨h29, e30, hf⟩ := hf
  refine zi_aast (t := 4) (ci := 4) M hH hS hz rfl rfl e30 d_Y_init_55 (fun H locs hz hH hS => ?_)
  refine lv_iinc (v := (2 : Int32)) (lv' := [(1, .int (2 : Int32)), (0, .ref this)]) M.x M.b d_Y_init_56 hl (k := 0) rfl (by decide) (by decide) rfl (fun ls hl => ?_)
  refine lv_goto (tgt := 37) M.x M.b d_Y_init_59 (by decide) ?_
  refine lv_iload_n M.x M.b d_Y_init_37 rfl (lv_at hl 0 rfl) ?_
  refine lv_bipush (v := (8 : Int32)) M.x M.b d_Y_init_38 rfl ?_
  refine lv_icmp_ge (tgt := 62) M.x M.b d_Y_init_40 (by decide) (fun c => absurd c (by decide)) (fun _ => ?_)
  refine lv_aload_n M.x M.b d_Y_init_43 rfl (lv_at hl 1 rfl) ?_
  replace hf := z_bind hf; obtain ⟨r31, e32, hf⟩ := hf
  refine z_get (ci := 7) (k := 2) M hH rfl (by decide) zinY q_459 (gA_spec e32) d_Y_init_44 ?_
  refine lv_iload_n M.x M.b d_Y_init_47 rfl (lv_at hl 0 rfl) ?_
  replace hf := z_bind hf; obtain ⟨h33, e136, hf⟩ := hf
  refine zi_new (ci := 4) (fs := [.null, .null, .int 0]) M hH hS hz rfl zinP zYP zYP_ok q_929 q_930 q_136 (fun j hj => by rcases (show j = 0 ∨ j = 1 ∨ j = 2 by omega) with rfl | rfl | rfl <;> rfl) (Nat.le_of_ble_eq_true rfl) (Nat.le_of_ble_eq_true rfl) d_Y_init_48 (fun H hz hH hS => ?_)
  rw [Option.some.inj e136] at hH
  refine lv_dup M.x M.b d_Y_init_51 rfl ?_
  rcases r31 with _ | a34
  · exact absurd hf z_nb0
  replace hf := z_sb hf
  replace hf := z_bind hf; obtain ⟨h35, e36, hf⟩ := hf
  refine zi_callN M hAO hH hS hz (c_P_init e36) w_P_init q_928 [.ref (n + 13), .int (2 : Int32), .ref a34] rfl rfl ⟨Nat.le_of_ble_eq_true rfl, Nat.le_of_ble_eq_true rfl⟩ hl.1 rfl (Nat.le_of_ble_eq_true rfl) ⟨Nat.le_of_ble_eq_true rfl, Nat.le_of_ble_eq_true rfl⟩ d_Y_init_52 (fun H locs hz hH hS => ?_)
  replace hf := z_bind hf; obtain ⟨h37, e38, hf⟩ := hf
  refine zi_aast (t := 4) (ci := 4) M hH hS hz rfl rfl e38 d_Y_init_55 (fun H locs hz hH hS => ?_)
  refine lv_iinc (v := (3 : Int32)) (lv' := [(1, .int (3 : Int32)), (0, .ref this)]) M.x M.b d_Y_init_56 hl (k := 0) rfl (by decide) (by decide) rfl (fun ls hl => ?_)
  refine lv_goto (tgt := 37) M.x M.b d_Y_init_59 (by decide) ?_
  refine lv_iload_n M.x M.b d_Y_init_37 rfl (lv_at hl 0 rfl) ?_
  refine lv_bipush (v := (8 : Int32)) M.x M.b d_Y_init_38 rfl ?_
  refine lv_icmp_ge (tgt := 62) M.x M.b d_Y_init_40 (by decide) (fun c => absurd c (by decide)) (fun _ => ?_)
  refine lv_aload_n M.x M.b d_Y_init_43 rfl (lv_at hl 1 rfl) ?_
  replace hf := z_bind hf; obtain ⟨r39, e40, hf⟩ := hf
  refine z_get (ci := 7) (k := 2) M hH rfl (by decide) zinY q_459 (gA_spec e40) d_Y_init_44 ?_
  refine lv_iload_n M.x M.b d_Y_init_47 rfl (lv_at hl 0 rfl) ?_
  replace hf := z_bind hf; obtain ⟨h41, e135, hf⟩ := hf
  refine zi_new (ci := 4) (fs := [.null, .null, .int 0]) M hH hS hz rfl zinP zYP zYP_ok q_929 q_930 q_136 (fun j hj => by rcases (show j = 0 ∨ j = 1 ∨ j = 2 by omega) with rfl | rfl | rfl <;> rfl) (Nat.le_of_ble_eq_true rfl) (Nat.le_of_ble_eq_true rfl) d_Y_init_48 (fun H hz hH hS => ?_)
  rw [Option.some.inj e135] at hH
  refine lv_dup M.x M.b d_Y_init_51 rfl ?_
  rcases r39 with _ | a42
  · exact absurd hf z_nb0
  replace hf := z_sb hf
  replace hf := z_bind hf; obtain ⟨h43, e44, hf⟩ := hf
  refine zi_callN M hAO hH hS hz (c_P_init e44) w_P_init q_928 [.ref (n + 16), .int (3 : Int32), .ref a42] rfl rfl ⟨Nat.le_of_ble_eq_true rfl, Nat.le_of_ble_eq_true rfl⟩ hl.1 rfl (Nat.le_of_ble_eq_true rfl) ⟨Nat.le_of_ble_eq_true rfl, Nat.le_of_ble_eq_true rfl⟩ d_Y_init_52 (fun H locs hz hH hS => ?_)
  replace hf := z_bind hf; obtain ⟨h45, e46, hf⟩ := hf
  refine zi_aast (t := 4) (ci := 4) M hH hS hz rfl rfl e46 d_Y_init_55 (fun H locs hz hH hS => ?_)
  refine lv_iinc (v := (4 : Int32)) (lv' := [(1, .int (4 : Int32)), (0, .ref this)]) M.x M.b d_Y_init_56 hl (k := 0) rfl (by decide) (by decide) rfl (fun ls hl => ?_)
  refine lv_goto (tgt := 37) M.x M.b d_Y_init_59 (by decide) ?_
  refine lv_iload_n M.x M.b d_Y_init_37 rfl (lv_at hl 0 rfl) ?_
  refine lv_bipush (v := (8 : Int32)) M.x M.b d_Y_init_38 rfl ?_
  refine lv_icmp_ge (tgt := 62) M.x M.b d_Y_init_40 (by decide) (fun c => absurd c (by decide)) (fun _ => ?_)
  refine lv_aload_n M.x M.b d_Y_init_43 rfl (lv_at hl 1 rfl) ?_
  replace hf := z_bind hf; obtain ⟨r47, e48, hf⟩ := hf
  refine z_get (ci := 7) (k := 2) M hH rfl (by decide) zinY q_459 (gA_spec e48) d_Y_init_44 ?_
  refine lv_iload_n M.x M.b d_Y_init_47 rfl (lv_at hl 0 rfl) ?_
  replace hf := z_bind hf; obtain ⟨h49, e134, hf⟩ := hf
  refine zi_new (ci := 4) (fs := [.null, .null, .int 0]) M hH hS hz rfl zinP zYP zYP_ok q_929 q_930 q_136 (fun j hj => by rcases (show j = 0 ∨ j = 1 ∨ j = 2 by omega) with rfl | rfl | rfl <;> rfl) (Nat.le_of_ble_eq_true rfl) (Nat.le_of_ble_eq_true rfl) d_Y_init_48 (fun H hz hH hS => ?_)
  rw [Option.some.inj e134] at hH
  refine lv_dup M.x M.b d_Y_init_51 rfl ?_
  rcases r47 with _ | a50
  · exact absurd hf z_nb0
  replace hf := z_sb hf
  replace hf := z_bind hf; obtain ⟨h51, e52, hf⟩ := hf
  refine zi_callN M hAO hH hS hz (c_P_init e52) w_P_init q_928 [.ref (n + 19), .int (4 : Int32), .ref a50] rfl rfl ⟨Nat.le_of_ble_eq_true rfl, Nat.le_of_ble_eq_true rfl⟩ hl.1 rfl (Nat.le_of_ble_eq_true rfl) ⟨Nat.le_of_ble_eq_true rfl, Nat.le_of_ble_eq_true rfl⟩ d_Y_init_52 (fun H locs hz hH hS => ?_)
  replace hf := z_bind hf; obtain ⟨h53, e54, hf⟩ := hf
  refine zi_aast (t := 4) (ci := 4) M hH hS hz rfl rfl e54 d_Y_init_55 (fun H locs hz hH hS => ?_)
  refine lv_iinc (v := (5 : Int32)) (lv' := [(1, .int (5 : Int32)), (0, .ref this)]) M.x M.b d_Y_init_56 hl (k := 0) rfl (by decide) (by decide) rfl (fun ls hl => ?_)
  refine lv_goto (tgt := 37) M.x M.b d_Y_init_59 (by decide) ?_
  refine lv_iload_n M.x M.b d_Y_init_37 rfl (lv_at hl 0 rfl) ?_
  refine lv_bipush (v := (8 : Int32)) M.x M.b d_Y_init_38 rfl ?_
  refine lv_icmp_ge (tgt := 62) M.x M.b d_Y_init_40 (by decide) (fun c => absurd c (by decide)) (fun _ => ?_)
  refine lv_aload_n M.x M.b d_Y_init_43 rfl (lv_at hl 1 rfl) ?_
  replace hf := z_bind hf; obtain ⟨r55, e56, hf⟩ := hf
  refine z_get (ci := 7) (k := 2) M hH rfl (by decide) zinY q_459 (gA_spec e56) d_Y_init_44 ?_
  refine lv_iload_n M.x M.b d_Y_init_47 rfl (lv_at hl 0 rfl) ?_
  replace hf := z_bind hf; obtain ⟨h57, e133, hf⟩ := hf
  refine zi_new (ci := 4) (fs := [.null, .null, .int 0]) M hH hS hz rfl zinP zYP zYP_ok q_929 q_930 q_136 (fun j hj => by rcases (show j = 0 ∨ j = 1 ∨ j = 2 by omega) with rfl | rfl | rfl <;> rfl) (Nat.le_of_ble_eq_true rfl) (Nat.le_of_ble_eq_true rfl) d_Y_init_48 (fun H hz hH hS => ?_)
  rw [Option.some.inj e133] at hH
  refine lv_dup M.x M.b d_Y_init_51 rfl ?_
  rcases r55 with _ | a58
  · exact absurd hf z_nb0
  replace hf := z_sb hf
  replace hf := z_bind hf; obtain ⟨h59, e60, hf⟩ := hf
  refine zi_callN M hAO hH hS hz (c_P_init e60) w_P_init q_928 [.ref (n + 22), .int (5 : Int32), .ref a58] rfl rfl ⟨Nat.le_of_ble_eq_true rfl, Nat.le_of_ble_eq_true rfl⟩ hl.1 rfl (Nat.le_of_ble_eq_true rfl) ⟨Nat.le_of_ble_eq_true rfl, Nat.le_of_ble_eq_true rfl⟩ d_Y_init_52 (fun H locs hz hH hS => ?_)
  replace hf := z_bind hf; obtain ⟨h61, e62, hf⟩ := hf
  refine zi_aast (t := 4) (ci := 4) M hH hS hz rfl rfl e62 d_Y_init_55 (fun H locs hz hH hS => ?_)
  refine lv_iinc (v := (6 : Int32)) (lv' := [(1, .int (6 : Int32)), (0, .ref this)]) M.x M.b d_Y_init_56 hl (k := 0) rfl (by decide) (by decide) rfl (fun ls hl => ?_)
  refine lv_goto (tgt := 37) M.x M.b d_Y_init_59 (by decide) ?_
  refine lv_iload_n M.x M.b d_Y_init_37 rfl (lv_at hl 0 rfl) ?_
  refine lv_bipush (v := (8 : Int32)) M.x M.b d_Y_init_38 rfl ?_
  refine lv_icmp_ge (tgt := 62) M.x M.b d_Y_init_40 (by decide) (fun c => absurd c (by decide)) (fun _ => ?_)
  refine lv_aload_n M.x M.b d_Y_init_43 rfl (lv_at hl 1 rfl) ?_
  replace hf := z_bind hf; obtain ⟨r63, e64, hf⟩ := hf
  refine z_get (ci := 7) (k := 2) M hH rfl (by decide) zinY q_459 (gA_spec e64) d_Y_init_44 ?_
  refine lv_iload_n M.x M.b d_Y_init_47 rfl (lv_at hl 0 rfl) ?_
  replace hf := z_bind hf; obtain ⟨h65, e132, hf⟩ := hf
  refine zi_new (ci := 4) (fs := [.null, .null, .int 0]) M hH hS hz rfl zinP zYP zYP_ok q_929 q_930 q_136 (fun j hj => by rcases (show j = 0 ∨ j = 1 ∨ j = 2 by omega) with rfl | rfl | rfl <;> rfl) (Nat.le_of_ble_eq_true rfl) (Nat.le_of_ble_eq_true rfl) d_Y_init_48 (fun H hz hH hS => ?_)
  rw [Option.some.inj e132] at hH
  refine lv_dup M.x M.b d_Y_init_51 rfl ?_
  rcases r63 with _ | a66
  · exact absurd hf z_nb0
  replace hf := z_sb hf
  replace hf := z_bind hf; obtain ⟨h67, e68, hf⟩ := hf
  refine zi_callN M hAO hH hS hz (c_P_init e68) w_P_init q_928 [.ref (n + 25), .int (6 : Int32), .ref a66] rfl rfl ⟨Nat.le_of_ble_eq_true rfl, Nat.le_of_ble_eq_true rfl⟩ hl.1 rfl (Nat.le_of_ble_eq_true rfl) ⟨Nat.le_of_ble_eq_true rfl, Nat.le_of_ble_eq_true rfl⟩ d_Y_init_52 (fun H locs hz hH hS => ?_)
  replace hf := z_bind hf; obtain ⟨h69, e70, hf⟩ := hf
  refine zi_aast (t := 4) (ci := 4) M hH hS hz rfl rfl e70 d_Y_init_55 (fun H locs hz hH hS => ?_)
  refine lv_iinc (v := (7 : Int32)) (lv' := [(1, .int (7 : Int32)), (0, .ref this)]) M.x M.b d_Y_init_56 hl (k := 0) rfl (by decide) (by decide) rfl (fun ls hl => ?_)
  refine lv_goto (tgt := 37) M.x M.b d_Y_init_59 (by decide) ?_
  refine lv_iload_n M.x M.b d_Y_init_37 rfl (lv_at hl 0 rfl) ?_
  refine lv_bipush (v := (8 : Int32)) M.x M.b d_Y_init_38 rfl ?_
  refine lv_icmp_ge (tgt := 62) M.x M.b d_Y_init_40 (by decide) (fun c => absurd c (by decide)) (fun _ => ?_)
  refine lv_aload_n M.x M.b d_Y_init_43 rfl (lv_at hl 1 rfl) ?_
  replace hf := z_bind hf; obtain ⟨r71, e72, hf⟩ := hf
  refine z_get (ci := 7) (k := 2) M hH rfl (by decide) zinY q_459 (gA_spec e72) d_Y_init_44 ?_
  refine lv_iload_n M.x M.b d_Y_init_47 rfl (lv_at hl 0 rfl) ?_
  replace hf := z_bind hf; obtain ⟨h73, e131, hf⟩ := hf
  refine zi_new (ci := 4) (fs := [.null, .null, .int 0]) M hH hS hz rfl zinP zYP zYP_ok q_929 q_930 q_136 (fun j hj => by rcases (show j = 0 ∨ j = 1 ∨ j = 2 by omega) with rfl | rfl | rfl <;> rfl) (Nat.le_of_ble_eq_true rfl) (Nat.le_of_ble_eq_true rfl) d_Y_init_48 (fun H hz hH hS => ?_)
  rw [Option.some.inj e131] at hH
  refine lv_dup M.x M.b d_Y_init_51 rfl ?_
  rcases r71 with _ | a74
  · exact absurd hf z_nb0
  replace hf := z_sb hf
  replace hf := z_bind hf; obtain ⟨h75, e76, hf⟩ := hf
  refine zi_callN M hAO hH hS hz (c_P_init e76) w_P_init q_928 [.ref (n + 28), .int (7 : Int32), .ref a74] rfl rfl ⟨Nat.le_of_ble_eq_true rfl, Nat.le_of_ble_eq_true rfl⟩ hl.1 rfl (Nat.le_of_ble_eq_true rfl) ⟨Nat.le_of_ble_eq_true rfl, Nat.le_of_ble_eq_true rfl⟩ d_Y_init_52 (fun H locs hz hH hS => ?_)
  replace hf := z_bind hf; obtain ⟨h77, e78, hf⟩ := hf
  refine zi_aast (t := 4) (ci := 4) M hH hS hz rfl rfl e78 d_Y_init_55 (fun H locs hz hH hS => ?_)
  refine lv_iinc (v := (8 : Int32)) (lv' := [(1, .int (8 : Int32)), (0, .ref this)]) M.x M.b d_Y_init_56 hl (k := 0) rfl (by decide) (by decide) rfl (fun ls hl => ?_)
  refine lv_goto (tgt := 37) M.x M.b d_Y_init_59 (by decide) ?_
  refine lv_iload_n M.x M.b d_Y_init_37 rfl (lv_at hl 0 rfl) ?_
  refine lv_bipush (v := (8 : Int32)) M.x M.b d_Y_init_38 rfl ?_
  refine lv_icmp_ge (tgt := 62) M.x M.b d_Y_init_40 (by decide) (fun _ => ?_) (fun c => absurd (by decide) c)
  refine lv_aload_n M.x M.b d_Y_init_62 rfl (lv_at hl 1 rfl) ?_
  replace hf := z_bind hf; obtain ⟨h79, e130, hf⟩ := hf
  refine zi_new (ci := 5) (fs := [.null, .int 0, .int 0, .int 0, .int 0, .null]) M hH hS hz rfl zinR zYR zYR_ok q_926 q_927 q_354 (fun j hj => by rcases (show j = 0 ∨ j = 1 ∨ j = 2 ∨ j = 3 ∨ j = 4 ∨ j = 5 by omega) with rfl | rfl | rfl | rfl | rfl | rfl <;> rfl) (Nat.le_of_ble_eq_true rfl) (Nat.le_of_ble_eq_true rfl) d_Y_init_63 (fun H hz hH hS => ?_)
  rw [Option.some.inj e130] at hH
  refine lv_dup M.x M.b d_Y_init_66 rfl ?_
  replace hf := z_bind hf; obtain ⟨h80, e81, hf⟩ := hf
  refine zi_callN M hAO hH hS hz (c_R_init e81) w_R_init q_925 [.ref (n + 31), .ref this] rfl rfl ⟨Nat.le_of_ble_eq_true rfl, Nat.le_of_ble_eq_true rfl⟩ hl.1 rfl (Nat.le_of_ble_eq_true rfl) ⟨Nat.le_of_ble_eq_true rfl, Nat.le_of_ble_eq_true rfl⟩ d_Y_init_67 (fun H locs hz hH hS => ?_)
  replace hf := z_bind hf; obtain ⟨h82, e83, hf⟩ := hf
  refine zi_put (ci := 7) (k := 3) M hH hS hz rfl (by decide) zinY zYY zYY_ok zNY_ok rfl rfl q_444 rfl rfl rfl e83 d_Y_init_70 (fun H locs hz hH hS => ?_)
  refine lv_aload_n M.x M.b d_Y_init_73 rfl (lv_at hl 1 rfl) ?_
  replace hf := z_bind hf; obtain ⟨h84, e129, hf⟩ := hf
  refine zi_new (ci := 6) (fs := [.null, .null, .null, .int 0]) M hH hS hz rfl zinT zYT zYT_ok q_923 q_924 q_172 (fun j hj => by rcases (show j = 0 ∨ j = 1 ∨ j = 2 ∨ j = 3 by omega) with rfl | rfl | rfl | rfl <;> rfl) (Nat.le_of_ble_eq_true rfl) (Nat.le_of_ble_eq_true rfl) d_Y_init_74 (fun H hz hH hS => ?_)
  rw [Option.some.inj e129] at hH
  refine lv_dup M.x M.b d_Y_init_77 rfl ?_
  replace hf := z_bind hf; obtain ⟨h85, e86, hf⟩ := hf
  refine zi_call M hAO hH hS hz (c_T_init e86) w_T_init q_922 [.ref (n + 33), .ref this] rfl rfl ⟨Nat.le_of_ble_eq_true rfl, Nat.le_of_ble_eq_true rfl⟩ hl.1 rfl (Nat.le_of_ble_eq_true rfl) ⟨Nat.le_of_ble_eq_true rfl, Nat.le_of_ble_eq_true rfl⟩ d_Y_init_78 (fun H locs hz hH hS => ?_)
  replace hf := z_bind hf; obtain ⟨h87, e88, hf⟩ := hf
  refine zi_put (ci := 7) (k := 4) M hH hS hz rfl (by decide) zinY zYY zYY_ok zNY_ok rfl rfl q_481 rfl rfl rfl e88 d_Y_init_81 (fun H locs hz hH hS => ?_)
  refine lv_aload_n M.x M.b d_Y_init_84 rfl (lv_at hl 1 rfl) ?_
  replace hf := z_bind hf; obtain ⟨h89, e128, hf⟩ := hf
  refine zi_new (ci := 2) (fs := [.null, .null, .null, .null, .null, .null, .null, .null, .null, .null, .null, .int 0, .int 0]) M hH hS hz rfl zinL zYL zYL_ok q_920 q_921 q_233 (fun j hj => by rcases (show j = 0 ∨ j = 1 ∨ j = 2 ∨ j = 3 ∨ j = 4 ∨ j = 5 ∨ j = 6 ∨ j = 7 ∨ j = 8 ∨ j = 9 ∨ j = 10 ∨ j = 11 ∨ j = 12 by omega) with rfl | rfl | rfl | rfl | rfl | rfl | rfl | rfl | rfl | rfl | rfl | rfl | rfl <;> rfl) (Nat.le_of_ble_eq_true rfl) (Nat.le_of_ble_eq_true rfl) d_Y_init_85 (fun H hz hH hS => ?_)
  rw [Option.some.inj e128] at hH
  refine lv_dup M.x M.b d_Y_init_88 rfl ?_
  refine lv_aload_n M.x M.b d_Y_init_89 rfl (lv_at hl 1 rfl) ?_
  replace hf := z_bind hf; obtain ⟨r90, e91, hf⟩ := hf
  refine z_get (ci := 7) (k := 0) M hH rfl (by decide) zinY q_419 (gA_spec e91) d_Y_init_90 ?_
  refine lv_aload_n M.x M.b d_Y_init_93 rfl (lv_at hl 1 rfl) ?_
  replace hf := z_bind hf; obtain ⟨r92, e93, hf⟩ := hf
  refine z_get (ci := 7) (k := 1) M hH rfl (by decide) zinY q_542 (gA_spec e93) d_Y_init_94 ?_
  refine lv_aload_n M.x M.b d_Y_init_97 rfl (lv_at hl 1 rfl) ?_
  replace hf := z_bind hf; obtain ⟨r94, e95, hf⟩ := hf
  refine z_get (ci := 7) (k := 4) M hH rfl (by decide) zinY q_481 (gA_spec e95) d_Y_init_98 ?_
  rcases r90 with _ | a96
  · exact absurd hf z_nb0
  replace hf := z_sb hf
  rcases r92 with _ | a97
  · exact absurd hf z_nb0
  replace hf := z_sb hf
  rcases r94 with _ | a98
  · exact absurd hf z_nb0
  replace hf := z_sb hf
  replace hf := z_bind hf; obtain ⟨h99, e100, hf⟩ := hf
  refine zi_call M hAO hH hS hz (c_L_init e100) w_L_init q_919 [.ref (n + 44), .ref this] rfl rfl ⟨Nat.le_of_ble_eq_true rfl, Nat.le_of_ble_eq_true rfl⟩ hl.1 rfl (Nat.le_of_ble_eq_true rfl) ⟨Nat.le_of_ble_eq_true rfl, Nat.le_of_ble_eq_true rfl⟩ d_Y_init_101 (fun H locs hz hH hS => ?_)
  replace hf := z_bind hf; obtain ⟨h101, e102, hf⟩ := hf
  refine zi_put (ci := 7) (k := 5) M hH hS hz rfl (by decide) zinY zYY zYY_ok zNY_ok rfl rfl q_417 rfl rfl rfl e102 d_Y_init_104 (fun H locs hz hH hS => ?_)
  refine lv_aload_n M.x M.b d_Y_init_107 rfl (lv_at hl 1 rfl) ?_
  replace hf := z_bind hf; obtain ⟨h103, e127, hf⟩ := hf
  refine zi_new (ci := 3) (fs := [.null, .null, .null, .null]) M hH hS hz rfl zinK zYK zYK_ok q_917 q_918 q_309 (fun j hj => by rcases (show j = 0 ∨ j = 1 ∨ j = 2 ∨ j = 3 by omega) with rfl | rfl | rfl | rfl <;> rfl) (Nat.le_of_ble_eq_true rfl) (Nat.le_of_ble_eq_true rfl) d_Y_init_108 (fun H hz hH hS => ?_)
  rw [Option.some.inj e127] at hH
  refine lv_dup M.x M.b d_Y_init_111 rfl ?_
  refine lv_aload_n M.x M.b d_Y_init_112 rfl (lv_at hl 1 rfl) ?_
  replace hf := z_bind hf; obtain ⟨r104, e105, hf⟩ := hf
  refine z_get (ci := 7) (k := 0) M hH rfl (by decide) zinY q_419 (gA_spec e105) d_Y_init_113 ?_
  rcases r104 with _ | a106
  · exact absurd hf z_nb0
  replace hf := z_sb hf
  replace hf := z_bind hf; obtain ⟨h107, e108, hf⟩ := hf
  refine zi_call M hAO hH hS hz (c_K_init e108) w_K_init q_916 [.ref (n + 52), .ref this] rfl rfl ⟨Nat.le_of_ble_eq_true rfl, Nat.le_of_ble_eq_true rfl⟩ hl.1 rfl (Nat.le_of_ble_eq_true rfl) ⟨Nat.le_of_ble_eq_true rfl, Nat.le_of_ble_eq_true rfl⟩ d_Y_init_116 (fun H locs hz hH hS => ?_)
  replace hf := z_bind hf; obtain ⟨h109, e110, hf⟩ := hf
  refine zi_put (ci := 7) (k := 6) M hH hS hz rfl (by decide) zinY zYY zYY_ok zNY_ok rfl rfl q_513 rfl rfl rfl e110 d_Y_init_119 (fun H locs hz hH hS => ?_)
  refine lv_aload_n M.x M.b d_Y_init_122 rfl (lv_at hl 1 rfl) ?_
  replace hf := z_bind hf; obtain ⟨h111, e126, hf⟩ := hf
  refine zi_new (ci := 1) (fs := [.long 0, .long 0, .int 0, .int 0]) M hH hS hz rfl zinF zYF zYF_ok q_915 q_900 q_96 (fun j hj => by rcases (show j = 0 ∨ j = 1 ∨ j = 2 ∨ j = 3 by omega) with rfl | rfl | rfl | rfl <;> rfl) (Nat.le_of_ble_eq_true rfl) (Nat.le_of_ble_eq_true rfl) d_Y_init_123 (fun H hz hH hS => ?_)
  rw [Option.some.inj e126] at hH
  refine lv_dup M.x M.b d_Y_init_126 rfl ?_
  replace hf := z_bind hf; obtain ⟨h112, e113, hf⟩ := hf
  refine zi_callN M hAO hH hS hz (c_F_init e113) w_F_init q_914 [.ref (n + 56), .ref this] rfl rfl ⟨Nat.le_of_ble_eq_true rfl, Nat.le_of_ble_eq_true rfl⟩ hl.1 rfl (Nat.le_of_ble_eq_true rfl) ⟨Nat.le_of_ble_eq_true rfl, Nat.le_of_ble_eq_true rfl⟩ d_Y_init_127 (fun H locs hz hH hS => ?_)
  replace hf := z_bind hf; obtain ⟨h114, e115, hf⟩ := hf
  refine zi_put (ci := 7) (k := 7) M hH hS hz rfl (by decide) zinY zYY zYY_ok zNY_ok rfl rfl q_475 rfl rfl rfl e115 d_Y_init_130 (fun H locs hz hH hS => ?_)
  refine lv_aload_n M.x M.b d_Y_init_133 rfl (lv_at hl 1 rfl) ?_
  replace hf := z_bind hf; obtain ⟨h116, e125, hf⟩ := hf
  refine zi_new (ci := 1) (fs := [.long 0, .long 0, .int 0, .int 0]) M hH hS hz rfl zinF zYF zYF_ok q_915 q_900 q_96 (fun j hj => by rcases (show j = 0 ∨ j = 1 ∨ j = 2 ∨ j = 3 by omega) with rfl | rfl | rfl | rfl <;> rfl) (Nat.le_of_ble_eq_true rfl) (Nat.le_of_ble_eq_true rfl) d_Y_init_134 (fun H hz hH hS => ?_)
  rw [Option.some.inj e125] at hH
  refine lv_dup M.x M.b d_Y_init_137 rfl ?_
  replace hf := z_bind hf; obtain ⟨h117, e118, hf⟩ := hf
  refine zi_callN M hAO hH hS hz (c_F_init e118) w_F_init q_914 [.ref (n + 57), .ref this] rfl rfl ⟨Nat.le_of_ble_eq_true rfl, Nat.le_of_ble_eq_true rfl⟩ hl.1 rfl (Nat.le_of_ble_eq_true rfl) ⟨Nat.le_of_ble_eq_true rfl, Nat.le_of_ble_eq_true rfl⟩ d_Y_init_138 (fun H locs hz hH hS => ?_)
  replace hf := z_bind hf; obtain ⟨h119, e120, hf⟩ := hf
  refine zi_put (ci := 7) (k := 8) M hH hS hz rfl (by decide) zinY zYY zYY_ok zNY_ok rfl rfl q_487 rfl rfl rfl e120 d_Y_init_141 (fun H locs hz hH hS => ?_)
  refine lv_aload_n M.x M.b d_Y_init_144 rfl (lv_at hl 1 rfl) ?_
  refine lv_iconst (v := (0 : Int32)) M.x M.b d_Y_init_145 rfl ?_
  replace hf := z_bind hf; obtain ⟨h121, e122, hf⟩ := hf
  refine zi_put (ci := 7) (k := 9) M hH hS hz rfl (by decide) zinY zYY zYY_ok zNY_ok rfl rfl q_442 rfl rfl rfl e122 d_Y_init_146 (fun H locs hz hH hS => ?_)
  refine lv_aload_n M.x M.b d_Y_init_149 rfl (lv_at hl 1 rfl) ?_
  refine lv_iconst (v := (-1 : Int32)) M.x M.b d_Y_init_150 rfl ?_
  replace hf := z_bind hf; obtain ⟨h123, e124, hf⟩ := hf
  refine zi_put (ci := 7) (k := 10) M hH hS hz rfl (by decide) zinY zYY zYY_ok zNY_ok rfl rfl q_455 rfl rfl rfl e124 d_Y_init_151 (fun H locs hz hH hS => ?_)
  obtain rfl := z_r1 hf
  exact zi_vret M hH hS hz (Nat.le_of_ble_eq_true rfl) (Nat.le_of_ble_eq_true rfl) d_Y_init_154
def f_M_init (this : Nat)  (h : Hp) (n : Nat) : Option Hp :=
  (some (hup h n (.inl (0, 50, .inl (fun _ => 0))))).bind fun h1 =>
  (pV h1 this 8 0 (.ref n)).bind fun h3 =>
  (some (hup h3 (n + 1) (.inl (0, 150, .inl (fun _ => 0))))).bind fun h5 =>
  (pV h5 this 8 1 (.ref (n + 1))).bind fun h7 =>
  (some (hup h7 (n + 2) (.inl (0, 320, .inl (fun _ => 0))))).bind fun h9 =>
  (pV h9 this 8 3 (.ref (n + 2))).bind fun h11 =>
  (some (hup h11 (n + 3) (.inl (0, 320, .inl (fun _ => 0))))).bind fun h13 =>
  (pV h13 this 8 4 (.ref (n + 3))).bind fun h15 =>
  (some (hup h15 (n + 4) (.inl (0, 80, .inl (fun _ => 0))))).bind fun h17 =>
  (pV h17 this 8 5 (.ref (n + 4))).bind fun h19 =>
  (pV h19 this 8 7 (.int (-1 : Int32))).bind fun h21 =>
  (some (hup h21 (n + 5) (.inl (0, 8, .inl (fun _ => 0))))).bind fun h23 =>
  (pV h23 this 8 10 (.ref (n + 5))).bind fun h25 =>
  (some (hup h25 (n + 6) (.inl (2, 8, .inl (fun _ => 0))))).bind fun h27 =>
  (pV h27 this 8 11 (.ref (n + 6))).bind fun h29 =>
  (some (hup h29 (n + 7) (.inl (0, 8, .inl (fun _ => 0))))).bind fun h31 =>
  (pV h31 this 8 18 (.ref (n + 7))).bind fun h33 =>
  (some (hup h33 (n + 8) (.inl (0, 8, .inl (fun _ => 0))))).bind fun h35 =>
  (pV h35 this 8 19 (.ref (n + 8))).bind fun h37 =>
  (some (hup h37 (n + 9) (.inl (0, 8, .inl (fun _ => 0))))).bind fun h39 =>
  (pV h39 this 8 20 (.ref (n + 9))).bind fun h41 =>
  (some (hup h41 (n + 10) (.inl (0, 8, .inl (fun _ => 0))))).bind fun h43 =>
  (pV h43 this 8 21 (.ref (n + 10))).bind fun h45 =>
  (some (hup h45 (n + 11) (.inl (0, 8, .inl (fun _ => 0))))).bind fun h47 =>
  (pV h47 this 8 22 (.ref (n + 11))).bind fun h49 =>
  (some (hup h49 (n + 12) (.inl (1, 8, .inr (.inl (fun _ => 0)))))).bind fun h51 =>
  (pV h51 this 8 23 (.ref (n + 12))).bind fun h53 =>
  (some (hup h53 (n + 13) (.inl (1, 8, .inr (.inl (fun _ => 0)))))).bind fun h55 =>
  (pV h55 this 8 24 (.ref (n + 13))).bind fun h57 =>
  (some (hup h57 (n + 14) (.inl (2, 8, .inl (fun _ => 0))))).bind fun h59 =>
  (pV h59 this 8 25 (.ref (n + 14))).bind fun h61 =>
  (some (hup h61 (n + 15) (.inl (1, 3, .inr (.inl (fun _ => 0)))))).bind fun h63 =>
  (pV h63 this 8 28 (.ref (n + 15))).bind fun h65 =>
  (some (hup h65 (n + 16) (.inl (1, 3, .inr (.inl (fun _ => 0)))))).bind fun h67 =>
  (pV h67 this 8 29 (.ref (n + 16))).bind fun h69 =>
  (some (hup h69 (n + 17) (.inl (2, 3, .inl (fun _ => 0))))).bind fun h71 =>
  (pV h71 this 8 30 (.ref (n + 17))).bind fun h73 =>
  (some (hup h73 (n + 18) (.inl (0, 50, .inl (fun _ => 0))))).bind fun h75 =>
  (pV h75 this 8 31 (.ref (n + 18))).bind fun h77 =>
  (some (hup h77 (n + 19) (.inl (0, 150, .inl (fun _ => 0))))).bind fun h79 =>
  (pV h79 this 8 32 (.ref (n + 19))).bind fun h81 =>
  (some (hup h81 (n + 20) (.inl (0, 8, .inl (fun _ => 0))))).bind fun h83 =>
  (pV h83 this 8 36 (.ref (n + 20))).bind fun h85 =>
  (some (hup h85 (n + 21) (.inl (2, 1100, .inl (fun _ => 0))))).bind fun h87 =>
  (pV h87 this 8 37 (.ref (n + 21))).bind fun h89 =>
  (some (hup h89 (n + 22) (.inl (2, 1100, .inl (fun _ => 0))))).bind fun h91 =>
  (pV h91 this 8 38 (.ref (n + 22))).bind fun h93 =>
  (some (hup h93 (n + 23) (.inl (0, 100, .inl (fun _ => 0))))).bind fun h95 =>
  (pV h95 this 8 39 (.ref (n + 23))).bind fun h97 =>
  some h97
set_option maxRecDepth 100000 in
set_option maxHeartbeats 8000000 in
theorem c_M_init {l : Launch} {N0 : Nat} {D : va_G} {cs : Nat → ClassId} {this : Nat} {h : Hp} {n : Nat} {h0 : Hp} (hf : f_M_init this  h n = some h0) : FnI l N0 D cs y_M_init b_M_init 1 2 24 3517 [.ref this] h n h0 (n + 24) := by
  refine z_startI (by decide) (Nat.le_of_ble_eq_true rfl) ?_
  intro p e s m args below meth c M hAO H hz hH hS ls hl
  unfold f_M_init at hf
  have hl : lv_has ls 1 [(0, .ref this)] := hl
  obtain ⟨locs, hLe⟩ : ∃ locs : List Loc, locs = [] := ⟨_, rfl⟩
  rw [← hLe] at hS
  suffices hg : W p l e (zrm 2 24 3517) s m args below meth c H locs 0 0 (MQ below (zQI N0 D cs h0 (n + 24)) args s 24 3517 (zA N0)) (F0 m 0 ls []) by rw [hLe] at hg; exact hg
  clear hLe
  refine lv_aload_n M.x M.b d_M_init_0 rfl (lv_at hl 0 rfl) ?_
  refine zi_obj M q_936 q_883 q_884 hl.1 (Nat.le_of_ble_eq_true rfl) (Nat.le_of_ble_eq_true rfl) d_M_init_1 ?_
  refine lv_aload_n M.x M.b d_M_init_4 rfl (lv_at hl 0 rfl) ?_
  refine lv_bipush (v := (50 : Int32)) M.x M.b d_M_init_5 rfl ?_
  replace hf := z_bind hf; obtain ⟨h1, e2, hf⟩ := hf
  refine zi_newa (atype := .int) (t := 0) (N := 50) (a0 := (50, .inl (fun _ => 0))) M hH hS hz q_885 rfl (fun _ _ q => q) (fun _ => rfl) (by decide) (by decide) (Nat.le_of_ble_eq_true rfl) (Nat.le_of_ble_eq_true rfl) (Nat.le_of_ble_eq_true rfl) d_M_init_7 (fun H hz hH hS => ?_)
  rw [Option.some.inj e2] at hH
  replace hf := z_bind hf; obtain ⟨h3, e4, hf⟩ := hf
  refine zi_put (ci := 8) (k := 0) M hH hS hz rfl (by decide) zinM zYM zYM_ok zNM_ok rfl rfl q_562 rfl rfl rfl e4 d_M_init_9 (fun H locs hz hH hS => ?_)
  refine lv_aload_n M.x M.b d_M_init_12 rfl (lv_at hl 0 rfl) ?_
  refine lv_sipush (v := (150 : Int32)) M.x M.b d_M_init_13 rfl ?_
  replace hf := z_bind hf; obtain ⟨h5, e6, hf⟩ := hf
  refine zi_newa (atype := .int) (t := 0) (N := 150) (a0 := (150, .inl (fun _ => 0))) M hH hS hz q_885 rfl (fun _ _ q => q) (fun _ => rfl) (by decide) (by decide) (Nat.le_of_ble_eq_true rfl) (Nat.le_of_ble_eq_true rfl) (Nat.le_of_ble_eq_true rfl) d_M_init_16 (fun H hz hH hS => ?_)
  rw [Option.some.inj e6] at hH
  replace hf := z_bind hf; obtain ⟨h7, e8, hf⟩ := hf
  refine zi_put (ci := 8) (k := 1) M hH hS hz rfl (by decide) zinM zYM zYM_ok zNM_ok rfl rfl q_570 rfl rfl rfl e8 d_M_init_18 (fun H locs hz hH hS => ?_)
  refine lv_aload_n M.x M.b d_M_init_21 rfl (lv_at hl 0 rfl) ?_
  refine lv_sipush (v := (320 : Int32)) M.x M.b d_M_init_22 rfl ?_
  replace hf := z_bind hf; obtain ⟨h9, e10, hf⟩ := hf
  refine zi_newa (atype := .int) (t := 0) (N := 320) (a0 := (320, .inl (fun _ => 0))) M hH hS hz q_885 rfl (fun _ _ q => q) (fun _ => rfl) (by decide) (by decide) (Nat.le_of_ble_eq_true rfl) (Nat.le_of_ble_eq_true rfl) (Nat.le_of_ble_eq_true rfl) d_M_init_25 (fun H hz hH hS => ?_)
  rw [Option.some.inj e10] at hH
  replace hf := z_bind hf; obtain ⟨h11, e12, hf⟩ := hf
  refine zi_put (ci := 8) (k := 3) M hH hS hz rfl (by decide) zinM zYM zYM_ok zNM_ok rfl rfl q_647 rfl rfl rfl e12 d_M_init_27 (fun H locs hz hH hS => ?_)
  refine lv_aload_n M.x M.b d_M_init_30 rfl (lv_at hl 0 rfl) ?_
  refine lv_sipush (v := (320 : Int32)) M.x M.b d_M_init_31 rfl ?_
  replace hf := z_bind hf; obtain ⟨h13, e14, hf⟩ := hf
  refine zi_newa (atype := .int) (t := 0) (N := 320) (a0 := (320, .inl (fun _ => 0))) M hH hS hz q_885 rfl (fun _ _ q => q) (fun _ => rfl) (by decide) (by decide) (Nat.le_of_ble_eq_true rfl) (Nat.le_of_ble_eq_true rfl) (Nat.le_of_ble_eq_true rfl) d_M_init_34 (fun H hz hH hS => ?_)
  rw [Option.some.inj e14] at hH
  replace hf := z_bind hf; obtain ⟨h15, e16, hf⟩ := hf
  refine zi_put (ci := 8) (k := 4) M hH hS hz rfl (by decide) zinM zYM zYM_ok zNM_ok rfl rfl q_646 rfl rfl rfl e16 d_M_init_36 (fun H locs hz hH hS => ?_)
  refine lv_aload_n M.x M.b d_M_init_39 rfl (lv_at hl 0 rfl) ?_
  refine lv_bipush (v := (80 : Int32)) M.x M.b d_M_init_40 rfl ?_
  replace hf := z_bind hf; obtain ⟨h17, e18, hf⟩ := hf
  refine zi_newa (atype := .int) (t := 0) (N := 80) (a0 := (80, .inl (fun _ => 0))) M hH hS hz q_885 rfl (fun _ _ q => q) (fun _ => rfl) (by decide) (by decide) (Nat.le_of_ble_eq_true rfl) (Nat.le_of_ble_eq_true rfl) (Nat.le_of_ble_eq_true rfl) d_M_init_42 (fun H hz hH hS => ?_)
  rw [Option.some.inj e18] at hH
  replace hf := z_bind hf; obtain ⟨h19, e20, hf⟩ := hf
  refine zi_put (ci := 8) (k := 5) M hH hS hz rfl (by decide) zinM zYM zYM_ok zNM_ok rfl rfl q_603 rfl rfl rfl e20 d_M_init_44 (fun H locs hz hH hS => ?_)
  refine lv_aload_n M.x M.b d_M_init_47 rfl (lv_at hl 0 rfl) ?_
  refine lv_iconst (v := (-1 : Int32)) M.x M.b d_M_init_48 rfl ?_
  replace hf := z_bind hf; obtain ⟨h21, e22, hf⟩ := hf
  refine zi_put (ci := 8) (k := 7) M hH hS hz rfl (by decide) zinM zYM zYM_ok zNM_ok rfl rfl q_612 rfl rfl rfl e22 d_M_init_49 (fun H locs hz hH hS => ?_)
  refine lv_aload_n M.x M.b d_M_init_52 rfl (lv_at hl 0 rfl) ?_
  refine lv_bipush (v := (8 : Int32)) M.x M.b d_M_init_53 rfl ?_
  replace hf := z_bind hf; obtain ⟨h23, e24, hf⟩ := hf
  refine zi_newa (atype := .int) (t := 0) (N := 8) (a0 := (8, .inl (fun _ => 0))) M hH hS hz q_885 rfl (fun _ _ q => q) (fun _ => rfl) (by decide) (by decide) (Nat.le_of_ble_eq_true rfl) (Nat.le_of_ble_eq_true rfl) (Nat.le_of_ble_eq_true rfl) d_M_init_55 (fun H hz hH hS => ?_)
  rw [Option.some.inj e24] at hH
  replace hf := z_bind hf; obtain ⟨h25, e26, hf⟩ := hf
  refine zi_put (ci := 8) (k := 10) M hH hS hz rfl (by decide) zinM zYM zYM_ok zNM_ok rfl rfl q_642 rfl rfl rfl e26 d_M_init_57 (fun H locs hz hH hS => ?_)
  refine lv_aload_n M.x M.b d_M_init_60 rfl (lv_at hl 0 rfl) ?_
  refine lv_bipush (v := (8 : Int32)) M.x M.b d_M_init_61 rfl ?_
  replace hf := z_bind hf; obtain ⟨h27, e28, hf⟩ := hf
  refine zi_newa (atype := .boolean) (t := 2) (N := 8) (a0 := (8, .inl (fun _ => 0))) M hH hS hz q_910 rfl (fun _ _ q => q) (fun _ => rfl) (by decide) (by decide) (Nat.le_of_ble_eq_true rfl) (Nat.le_of_ble_eq_true rfl) (Nat.le_of_ble_eq_true rfl) d_M_init_63 (fun H hz hH hS => ?_)
  rw [Option.some.inj e28] at hH
  replace hf := z_bind hf; obtain ⟨h29, e30, hf⟩ := hf
  refine zi_put (ci := 8) (k := 11) M hH hS hz rfl (by decide) zinM zYM zYM_ok zNM_ok rfl rfl q_641 rfl rfl rfl e30 d_M_init_65 (fun H locs hz hH hS => ?_)
  refine lv_aload_n M.x M.b d_M_init_68 rfl (lv_at hl 0 rfl) ?_
  refine lv_bipush (v := (8 : Int32)) M.x M.b d_M_init_69 rfl ?_
  replace hf := z_bind hf; obtain ⟨h31, e32, hf⟩ := hf
  refine zi_newa (atype := .int) (t := 0) (N := 8) (a0 := (8, .inl (fun _ => 0))) M hH hS hz q_885 rfl (fun _ _ q => q) (fun _ => rfl) (by decide) (by decide) (Nat.le_of_ble_eq_true rfl) (Nat.le_of_ble_eq_true rfl) (Nat.le_of_ble_eq_true rfl) d_M_init_71 (fun H hz hH hS => ?_)
  rw [Option.some.inj e32] at hH
  replace hf := z_bind hf; obtain ⟨h33, e34, hf⟩ := hf
  refine zi_put (ci := 8) (k := 18) M hH hS hz rfl (by decide) zinM zYM zYM_ok zNM_ok rfl rfl q_691 rfl rfl rfl e34 d_M_init_73 (fun H locs hz hH hS => ?_)
  refine lv_aload_n M.x M.b d_M_init_76 rfl (lv_at hl 0 rfl) ?_
  refine lv_bipush (v := (8 : Int32)) M.x M.b d_M_init_77 rfl ?_
  replace hf := z_bind hf; obtain ⟨h35, e36, hf⟩ := hf
  refine zi_newa (atype := .int) (t := 0) (N := 8) (a0 := (8, .inl (fun _ => 0))) M hH hS hz q_885 rfl (fun _ _ q => q) (fun _ => rfl) (by decide) (by decide) (Nat.le_of_ble_eq_true rfl) (Nat.le_of_ble_eq_true rfl) (Nat.le_of_ble_eq_true rfl) d_M_init_79 (fun H hz hH hS => ?_)
  rw [Option.some.inj e36] at hH
  replace hf := z_bind hf; obtain ⟨h37, e38, hf⟩ := hf
  refine zi_put (ci := 8) (k := 19) M hH hS hz rfl (by decide) zinM zYM zYM_ok zNM_ok rfl rfl q_690 rfl rfl rfl e38 d_M_init_81 (fun H locs hz hH hS => ?_)
  refine lv_aload_n M.x M.b d_M_init_84 rfl (lv_at hl 0 rfl) ?_
  refine lv_bipush (v := (8 : Int32)) M.x M.b d_M_init_85 rfl ?_
  replace hf := z_bind hf; obtain ⟨h39, e40, hf⟩ := hf
  refine zi_newa (atype := .int) (t := 0) (N := 8) (a0 := (8, .inl (fun _ => 0))) M hH hS hz q_885 rfl (fun _ _ q => q) (fun _ => rfl) (by decide) (by decide) (Nat.le_of_ble_eq_true rfl) (Nat.le_of_ble_eq_true rfl) (Nat.le_of_ble_eq_true rfl) d_M_init_87 (fun H hz hH hS => ?_)
  rw [Option.some.inj e40] at hH
  replace hf := z_bind hf; obtain ⟨h41, e42, hf⟩ := hf
  refine zi_put (ci := 8) (k := 20) M hH hS hz rfl (by decide) zinM zYM zYM_ok zNM_ok rfl rfl q_689 rfl rfl rfl e42 d_M_init_89 (fun H locs hz hH hS => ?_)
  refine lv_aload_n M.x M.b d_M_init_92 rfl (lv_at hl 0 rfl) ?_
  refine lv_bipush (v := (8 : Int32)) M.x M.b d_M_init_93 rfl ?_
  replace hf := z_bind hf; obtain ⟨h43, e44, hf⟩ := hf
  refine zi_newa (atype := .int) (t := 0) (N := 8) (a0 := (8, .inl (fun _ => 0))) M hH hS hz q_885 rfl (fun _ _ q => q) (fun _ => rfl) (by decide) (by decide) (Nat.le_of_ble_eq_true rfl) (Nat.le_of_ble_eq_true rfl) (Nat.le_of_ble_eq_true rfl) d_M_init_95 (fun H hz hH hS => ?_)
  rw [Option.some.inj e44] at hH
  replace hf := z_bind hf; obtain ⟨h45, e46, hf⟩ := hf
  refine zi_put (ci := 8) (k := 21) M hH hS hz rfl (by decide) zinM zYM zYM_ok zNM_ok rfl rfl q_688 rfl rfl rfl e46 d_M_init_97 (fun H locs hz hH hS => ?_)
  refine lv_aload_n M.x M.b d_M_init_100 rfl (lv_at hl 0 rfl) ?_
  refine lv_bipush (v := (8 : Int32)) M.x M.b d_M_init_101 rfl ?_
  replace hf := z_bind hf; obtain ⟨h47, e48, hf⟩ := hf
  refine zi_newa (atype := .int) (t := 0) (N := 8) (a0 := (8, .inl (fun _ => 0))) M hH hS hz q_885 rfl (fun _ _ q => q) (fun _ => rfl) (by decide) (by decide) (Nat.le_of_ble_eq_true rfl) (Nat.le_of_ble_eq_true rfl) (Nat.le_of_ble_eq_true rfl) d_M_init_103 (fun H hz hH hS => ?_)
  rw [Option.some.inj e48] at hH
  replace hf := z_bind hf; obtain ⟨h49, e50, hf⟩ := hf
  refine zi_put (ci := 8) (k := 22) M hH hS hz rfl (by decide) zinM zYM zYM_ok zNM_ok rfl rfl q_687 rfl rfl rfl e50 d_M_init_105 (fun H locs hz hH hS => ?_)
  refine lv_aload_n M.x M.b d_M_init_108 rfl (lv_at hl 0 rfl) ?_
  refine lv_bipush (v := (8 : Int32)) M.x M.b d_M_init_109 rfl ?_
  replace hf := z_bind hf; obtain ⟨h51, e52, hf⟩ := hf
  refine zi_newa (atype := .long) (t := 1) (N := 8) (a0 := (8, .inr (.inl (fun _ => 0)))) M hH hS hz q_906 rfl (fun _ _ q => q) (fun _ => rfl) (by decide) (by decide) (Nat.le_of_ble_eq_true rfl) (Nat.le_of_ble_eq_true rfl) (Nat.le_of_ble_eq_true rfl) d_M_init_111 (fun H hz hH hS => ?_)
  rw [Option.some.inj e52] at hH
  replace hf := z_bind hf; obtain ⟨h53, e54, hf⟩ := hf
  refine zi_put (ci := 8) (k := 23) M hH hS hz rfl (by decide) zinM zYM zYM_ok zNM_ok rfl rfl q_713 rfl rfl rfl e54 d_M_init_113 (fun H locs hz hH hS => ?_)
  refine lv_aload_n M.x M.b d_M_init_116 rfl (lv_at hl 0 rfl) ?_
  refine lv_bipush (v := (8 : Int32)) M.x M.b d_M_init_117 rfl ?_
  replace hf := z_bind hf; obtain ⟨h55, e56, hf⟩ := hf
  refine zi_newa (atype := .long) (t := 1) (N := 8) (a0 := (8, .inr (.inl (fun _ => 0)))) M hH hS hz q_906 rfl (fun _ _ q => q) (fun _ => rfl) (by decide) (by decide) (Nat.le_of_ble_eq_true rfl) (Nat.le_of_ble_eq_true rfl) (Nat.le_of_ble_eq_true rfl) d_M_init_119 (fun H hz hH hS => ?_)
  rw [Option.some.inj e56] at hH
  replace hf := z_bind hf; obtain ⟨h57, e58, hf⟩ := hf
  refine zi_put (ci := 8) (k := 24) M hH hS hz rfl (by decide) zinM zYM zYM_ok zNM_ok rfl rfl q_712 rfl rfl rfl e58 d_M_init_121 (fun H locs hz hH hS => ?_)
  refine lv_aload_n M.x M.b d_M_init_124 rfl (lv_at hl 0 rfl) ?_
  refine lv_bipush (v := (8 : Int32)) M.x M.b d_M_init_125 rfl ?_
  replace hf := z_bind hf; obtain ⟨h59, e60, hf⟩ := hf
  refine zi_newa (atype := .boolean) (t := 2) (N := 8) (a0 := (8, .inl (fun _ => 0))) M hH hS hz q_910 rfl (fun _ _ q => q) (fun _ => rfl) (by decide) (by decide) (Nat.le_of_ble_eq_true rfl) (Nat.le_of_ble_eq_true rfl) (Nat.le_of_ble_eq_true rfl) d_M_init_127 (fun H hz hH hS => ?_)
  rw [Option.some.inj e60] at hH
  replace hf := z_bind hf; obtain ⟨h61, e62, hf⟩ := hf
  refine zi_put (ci := 8) (k := 25) M hH hS hz rfl (by decide) zinM zYM zYM_ok zNM_ok rfl rfl q_709 rfl rfl rfl e62 d_M_init_129 (fun H locs hz hH hS => ?_)
  refine lv_aload_n M.x M.b d_M_init_132 rfl (lv_at hl 0 rfl) ?_
  refine lv_iconst (v := (3 : Int32)) M.x M.b d_M_init_133 rfl ?_
  replace hf := z_bind hf; obtain ⟨h63, e64, hf⟩ := hf
  refine zi_newa (atype := .long) (t := 1) (N := 3) (a0 := (3, .inr (.inl (fun _ => 0)))) M hH hS hz q_906 rfl (fun _ _ q => q) (fun _ => rfl) (by decide) (by decide) (Nat.le_of_ble_eq_true rfl) (Nat.le_of_ble_eq_true rfl) (Nat.le_of_ble_eq_true rfl) d_M_init_134 (fun H hz hH hS => ?_)
  rw [Option.some.inj e64] at hH
  replace hf := z_bind hf; obtain ⟨h65, e66, hf⟩ := hf
  refine zi_put (ci := 8) (k := 28) M hH hS hz rfl (by decide) zinM zYM zYM_ok zNM_ok rfl rfl q_748 rfl rfl rfl e66 d_M_init_136 (fun H locs hz hH hS => ?_)
  refine lv_aload_n M.x M.b d_M_init_139 rfl (lv_at hl 0 rfl) ?_
  refine lv_iconst (v := (3 : Int32)) M.x M.b d_M_init_140 rfl ?_
  replace hf := z_bind hf; obtain ⟨h67, e68, hf⟩ := hf
  refine zi_newa (atype := .long) (t := 1) (N := 3) (a0 := (3, .inr (.inl (fun _ => 0)))) M hH hS hz q_906 rfl (fun _ _ q => q) (fun _ => rfl) (by decide) (by decide) (Nat.le_of_ble_eq_true rfl) (Nat.le_of_ble_eq_true rfl) (Nat.le_of_ble_eq_true rfl) d_M_init_141 (fun H hz hH hS => ?_)
  rw [Option.some.inj e68] at hH
  replace hf := z_bind hf; obtain ⟨h69, e70, hf⟩ := hf
  refine zi_put (ci := 8) (k := 29) M hH hS hz rfl (by decide) zinM zYM zYM_ok zNM_ok rfl rfl q_747 rfl rfl rfl e70 d_M_init_143 (fun H locs hz hH hS => ?_)
  refine lv_aload_n M.x M.b d_M_init_146 rfl (lv_at hl 0 rfl) ?_
  refine lv_iconst (v := (3 : Int32)) M.x M.b d_M_init_147 rfl ?_
  replace hf := z_bind hf; obtain ⟨h71, e72, hf⟩ := hf
  refine zi_newa (atype := .boolean) (t := 2) (N := 3) (a0 := (3, .inl (fun _ => 0))) M hH hS hz q_910 rfl (fun _ _ q => q) (fun _ => rfl) (by decide) (by decide) (Nat.le_of_ble_eq_true rfl) (Nat.le_of_ble_eq_true rfl) (Nat.le_of_ble_eq_true rfl) d_M_init_148 (fun H hz hH hS => ?_)
  rw [Option.some.inj e72] at hH
  replace hf := z_bind hf; obtain ⟨h73, e74, hf⟩ := hf
  refine zi_put (ci := 8) (k := 30) M hH hS hz rfl (by decide) zinM zYM zYM_ok zNM_ok rfl rfl q_746 rfl rfl rfl e74 d_M_init_150 (fun H locs hz hH hS => ?_)
  refine lv_aload_n M.x M.b d_M_init_153 rfl (lv_at hl 0 rfl) ?_
  refine lv_bipush (v := (50 : Int32)) M.x M.b d_M_init_154 rfl ?_
  replace hf := z_bind hf; obtain ⟨h75, e76, hf⟩ := hf
  refine zi_newa (atype := .int) (t := 0) (N := 50) (a0 := (50, .inl (fun _ => 0))) M hH hS hz q_885 rfl (fun _ _ q => q) (fun _ => rfl) (by decide) (by decide) (Nat.le_of_ble_eq_true rfl) (Nat.le_of_ble_eq_true rfl) (Nat.le_of_ble_eq_true rfl) d_M_init_156 (fun H hz hH hS => ?_)
  rw [Option.some.inj e76] at hH
  replace hf := z_bind hf; obtain ⟨h77, e78, hf⟩ := hf
  refine zi_put (ci := 8) (k := 31) M hH hS hz rfl (by decide) zinM zYM zYM_ok zNM_ok rfl rfl q_765 rfl rfl rfl e78 d_M_init_158 (fun H locs hz hH hS => ?_)
  refine lv_aload_n M.x M.b d_M_init_161 rfl (lv_at hl 0 rfl) ?_
  refine lv_sipush (v := (150 : Int32)) M.x M.b d_M_init_162 rfl ?_
  replace hf := z_bind hf; obtain ⟨h79, e80, hf⟩ := hf
  refine zi_newa (atype := .int) (t := 0) (N := 150) (a0 := (150, .inl (fun _ => 0))) M hH hS hz q_885 rfl (fun _ _ q => q) (fun _ => rfl) (by decide) (by decide) (Nat.le_of_ble_eq_true rfl) (Nat.le_of_ble_eq_true rfl) (Nat.le_of_ble_eq_true rfl) d_M_init_165 (fun H hz hH hS => ?_)
  rw [Option.some.inj e80] at hH
  replace hf := z_bind hf; obtain ⟨h81, e82, hf⟩ := hf
  refine zi_put (ci := 8) (k := 32) M hH hS hz rfl (by decide) zinM zYM zYM_ok zNM_ok rfl rfl q_764 rfl rfl rfl e82 d_M_init_167 (fun H locs hz hH hS => ?_)
  refine lv_aload_n M.x M.b d_M_init_170 rfl (lv_at hl 0 rfl) ?_
  refine lv_bipush (v := (8 : Int32)) M.x M.b d_M_init_171 rfl ?_
  replace hf := z_bind hf; obtain ⟨h83, e84, hf⟩ := hf
  refine zi_newa (atype := .int) (t := 0) (N := 8) (a0 := (8, .inl (fun _ => 0))) M hH hS hz q_885 rfl (fun _ _ q => q) (fun _ => rfl) (by decide) (by decide) (Nat.le_of_ble_eq_true rfl) (Nat.le_of_ble_eq_true rfl) (Nat.le_of_ble_eq_true rfl) d_M_init_173 (fun H hz hH hS => ?_)
  rw [Option.some.inj e84] at hH
  replace hf := z_bind hf; obtain ⟨h85, e86, hf⟩ := hf
  refine zi_put (ci := 8) (k := 36) M hH hS hz rfl (by decide) zinM zYM zYM_ok zNM_ok rfl rfl q_838 rfl rfl rfl e86 d_M_init_175 (fun H locs hz hH hS => ?_)
  refine lv_aload_n M.x M.b d_M_init_178 rfl (lv_at hl 0 rfl) ?_
  refine lv_sipush (v := (1100 : Int32)) M.x M.b d_M_init_179 rfl ?_
  replace hf := z_bind hf; obtain ⟨h87, e88, hf⟩ := hf
  refine zi_newa (atype := .boolean) (t := 2) (N := 1100) (a0 := (1100, .inl (fun _ => 0))) M hH hS hz q_910 rfl (fun _ _ q => q) (fun _ => rfl) (by decide) (by decide) (Nat.le_of_ble_eq_true rfl) (Nat.le_of_ble_eq_true rfl) (Nat.le_of_ble_eq_true rfl) d_M_init_182 (fun H hz hH hS => ?_)
  rw [Option.some.inj e88] at hH
  replace hf := z_bind hf; obtain ⟨h89, e90, hf⟩ := hf
  refine zi_put (ci := 8) (k := 37) M hH hS hz rfl (by decide) zinM zYM zYM_ok zNM_ok rfl rfl q_852 rfl rfl rfl e90 d_M_init_184 (fun H locs hz hH hS => ?_)
  refine lv_aload_n M.x M.b d_M_init_187 rfl (lv_at hl 0 rfl) ?_
  refine lv_sipush (v := (1100 : Int32)) M.x M.b d_M_init_188 rfl ?_
  replace hf := z_bind hf; obtain ⟨h91, e92, hf⟩ := hf
  refine zi_newa (atype := .boolean) (t := 2) (N := 1100) (a0 := (1100, .inl (fun _ => 0))) M hH hS hz q_910 rfl (fun _ _ q => q) (fun _ => rfl) (by decide) (by decide) (Nat.le_of_ble_eq_true rfl) (Nat.le_of_ble_eq_true rfl) (Nat.le_of_ble_eq_true rfl) d_M_init_191 (fun H hz hH hS => ?_)
  rw [Option.some.inj e92] at hH
  replace hf := z_bind hf; obtain ⟨h93, e94, hf⟩ := hf
  refine zi_put (ci := 8) (k := 38) M hH hS hz rfl (by decide) zinM zYM zYM_ok zNM_ok rfl rfl q_854 rfl rfl rfl e94 d_M_init_193 (fun H locs hz hH hS => ?_)
  refine lv_aload_n M.x M.b d_M_init_196 rfl (lv_at hl 0 rfl) ?_
  refine lv_bipush (v := (100 : Int32)) M.x M.b d_M_init_197 rfl ?_
  replace hf := z_bind hf; obtain ⟨h95, e96, hf⟩ := hf
  refine zi_newa (atype := .int) (t := 0) (N := 100) (a0 := (100, .inl (fun _ => 0))) M hH hS hz q_885 rfl (fun _ _ q => q) (fun _ => rfl) (by decide) (by decide) (Nat.le_of_ble_eq_true rfl) (Nat.le_of_ble_eq_true rfl) (Nat.le_of_ble_eq_true rfl) d_M_init_199 (fun H hz hH hS => ?_)
  rw [Option.some.inj e96] at hH
  replace hf := z_bind hf; obtain ⟨h97, e98, hf⟩ := hf
  refine zi_put (ci := 8) (k := 39) M hH hS hz rfl (by decide) zinM zYM zYM_ok zNM_ok rfl rfl q_853 rfl rfl rfl e98 d_M_init_201 (fun H locs hz hH hS => ?_)
  obtain rfl := z_r1 hf
  exact zi_vret M hH hS hz (Nat.le_of_ble_eq_true rfl) (Nat.le_of_ble_eq_true rfl) d_M_init_204
