/-! ===== Teller: printed by wip/whole/drive.py out of the bytecode ===== -/
theorem q_169 : (Jvm.Cond.instanceMethod ({ cls := "YearBaskets$Teller", name := "isReady", desc := "(LYearBaskets$Plan;LYearBaskets$Books;ILYearBaskets$Fraction;)Z" } : Jvm.MethodName)) ∈ zG := zt_2 (List.mem_of_getElem? (i := 237) rfl) rfl
theorem q_170 : (Jvm.Cond.selects "YearBaskets$Teller" ({ cls := "YearBaskets$Teller", name := "isReady", desc := "(LYearBaskets$Plan;LYearBaskets$Books;ILYearBaskets$Fraction;)Z" } : Jvm.MethodName) ({ cls := "YearBaskets$Teller", name := "isReady", desc := "(LYearBaskets$Plan;LYearBaskets$Books;ILYearBaskets$Fraction;)Z" } : Jvm.MethodName)) ∈ zG := zG_s (List.mem_of_getElem? (i := 12) rfl) rfl
theorem q_171 : (Jvm.Cond.code ({ cls := "YearBaskets$Teller", name := "isReady", desc := "(LYearBaskets$Plan;LYearBaskets$Books;ILYearBaskets$Fraction;)Z" } : Jvm.MethodName) prog_8_method_4_code (5 : Nat) (Option.some Jvm.ClassFile.FieldType.boolean)) ∈ zG := zt_2 (List.mem_of_getElem? (i := 238) rfl) rfl
theorem q_172 : (Jvm.Cond.initialized "YearBaskets$Teller") ∈ zG := zt_1 (List.mem_of_getElem? (i := 5) rfl) rfl
theorem q_173 : (Jvm.Cond.methodLink "YearBaskets$Teller" (47 : Nat) ({ cls := "YearBaskets$Fraction", name := "refuse", desc := "(I)V" } : Jvm.MethodName)) ∈ zG := zt_2 (List.mem_of_getElem? (i := 239) rfl) rfl
theorem q_174 : (Jvm.Cond.fieldLink "YearBaskets$Teller" (25 : Nat) "YearBaskets$Teller" "who" "I") ∈ zG := zt_1 (List.mem_of_getElem? (i := 126) rfl) rfl
theorem q_175 : (Jvm.Cond.fieldLink "YearBaskets$Teller" (17 : Nat) "YearBaskets$Teller" "books" "LYearBaskets$Books;") ∈ zG := zt_1 (List.mem_of_getElem? (i := 124) rfl) rfl
theorem q_176 : (Jvm.Cond.fieldLink "YearBaskets$Teller" (21 : Nat) "YearBaskets$Teller" "plan" "LYearBaskets$Plan;") ∈ zG := zt_1 (List.mem_of_getElem? (i := 125) rfl) rfl
theorem q_177 : (Jvm.Cond.instanceMethod ({ cls := "YearBaskets$Teller", name := "tellPlain", desc := "(IIILYearBaskets$Fraction;)V" } : Jvm.MethodName)) ∈ zG := zt_3 (List.mem_of_getElem? (i := 14) rfl) rfl
theorem q_178 : (Jvm.Cond.selects "YearBaskets$Teller" ({ cls := "YearBaskets$Teller", name := "tellPlain", desc := "(IIILYearBaskets$Fraction;)V" } : Jvm.MethodName) ({ cls := "YearBaskets$Teller", name := "tellPlain", desc := "(IIILYearBaskets$Fraction;)V" } : Jvm.MethodName)) ∈ zG := zG_s (List.mem_of_getElem? (i := 14) rfl) rfl
theorem q_179 : (Jvm.Cond.code ({ cls := "YearBaskets$Teller", name := "tellPlain", desc := "(IIILYearBaskets$Fraction;)V" } : Jvm.MethodName) prog_8_method_8_code (9 : Nat) (Option.none : Option Jvm.ClassFile.FieldType)) ∈ zG := zt_3 (List.mem_of_getElem? (i := 15) rfl) rfl
theorem q_180 : (Jvm.Cond.methodLink "YearBaskets$Teller" (88 : Nat) ({ cls := "YearBaskets$Fraction", name := "put", desc := "(JJ)V" } : Jvm.MethodName)) ∈ zG := zt_3 (List.mem_of_getElem? (i := 16) rfl) rfl
theorem q_181 : (Jvm.Cond.fieldLinkNest "YearBaskets$Teller" (106 : Nat) "YearBaskets$Fraction" "lower" "J" "YearBaskets") ∈ zNw := List.mem_of_getElem? (i := 12) rfl
theorem q_182 : (Jvm.Cond.fieldLinkNest "YearBaskets$Teller" (102 : Nat) "YearBaskets$Fraction" "upper" "J" "YearBaskets") ∈ zNw := List.mem_of_getElem? (i := 9) rfl
theorem q_183 : (Jvm.Cond.fieldLinkNest "YearBaskets$Teller" (99 : Nat) "YearBaskets$Fraction" "refusal" "I" "YearBaskets") ∈ zNw := List.mem_of_getElem? (i := 18) rfl
theorem q_184 : (Jvm.Cond.methodLink "YearBaskets$Teller" (95 : Nat) ({ cls := "YearBaskets$Fraction", name := "addAndShare", desc := "(JJI)V" } : Jvm.MethodName)) ∈ zG := zt_3 (List.mem_of_getElem? (i := 26) rfl) rfl
theorem q_185 : (Jvm.Cond.methodLink "YearBaskets$Teller" (92 : Nat) ({ cls := "YearBaskets$Books", name := "priceOf", desc := "(II)I" } : Jvm.MethodName)) ∈ zG := zt_3 (List.mem_of_getElem? (i := 25) rfl) rfl
theorem q_186 : (Jvm.Cond.instanceMethod ({ cls := "YearBaskets$Teller", name := "spareAt", desc := "(I)LYearBaskets$Fraction;" } : Jvm.MethodName)) ∈ zG := zt_3 (List.mem_of_getElem? (i := 39) rfl) rfl
theorem q_187 : (Jvm.Cond.selects "YearBaskets$Teller" ({ cls := "YearBaskets$Teller", name := "spareAt", desc := "(I)LYearBaskets$Fraction;" } : Jvm.MethodName) ({ cls := "YearBaskets$Teller", name := "spareAt", desc := "(I)LYearBaskets$Fraction;" } : Jvm.MethodName)) ∈ zG := zG_s (List.mem_of_getElem? (i := 16) rfl) rfl
theorem q_188 : (Jvm.Cond.code ({ cls := "YearBaskets$Teller", name := "spareAt", desc := "(I)LYearBaskets$Fraction;" } : Jvm.MethodName) prog_8_method_11_code (2 : Nat) (Option.some (Jvm.ClassFile.FieldType.object "YearBaskets$Fraction"))) ∈ zG := zt_3 (List.mem_of_getElem? (i := 40) rfl) rfl
theorem q_189 : (Jvm.Cond.fieldLink "YearBaskets$Teller" (11 : Nat) "YearBaskets$Teller" "spares" "[LYearBaskets$Fraction;") ∈ zG := zt_1 (List.mem_of_getElem? (i := 123) rfl) rfl
theorem q_190 : (Jvm.Cond.instanceMethod ({ cls := "YearBaskets$Teller", name := "tellPair", desc := "(IIIIILYearBaskets$Fraction;)V" } : Jvm.MethodName)) ∈ zG := zt_3 (List.mem_of_getElem? (i := 35) rfl) rfl
theorem q_191 : (Jvm.Cond.selects "YearBaskets$Teller" ({ cls := "YearBaskets$Teller", name := "tellPair", desc := "(IIIIILYearBaskets$Fraction;)V" } : Jvm.MethodName) ({ cls := "YearBaskets$Teller", name := "tellPair", desc := "(IIIIILYearBaskets$Fraction;)V" } : Jvm.MethodName)) ∈ zG := zG_s (List.mem_of_getElem? (i := 15) rfl) rfl
theorem q_192 : (Jvm.Cond.code ({ cls := "YearBaskets$Teller", name := "tellPair", desc := "(IIIIILYearBaskets$Fraction;)V" } : Jvm.MethodName) prog_8_method_9_code (10 : Nat) (Option.none : Option Jvm.ClassFile.FieldType)) ∈ zG := zt_3 (List.mem_of_getElem? (i := 36) rfl) rfl
theorem q_193 : (Jvm.Cond.fieldLinkNest "YearBaskets$Teller" (121 : Nat) "YearBaskets$Fraction" "root" "Z" "YearBaskets") ∈ zNw := List.mem_of_getElem? (i := 15) rfl
theorem q_194 : (Jvm.Cond.methodLink "YearBaskets$Teller" (117 : Nat) ({ cls := "YearBaskets$Fraction", name := "take", desc := "(LYearBaskets$Fraction;)V" } : Jvm.MethodName)) ∈ zG := zt_3 (List.mem_of_getElem? (i := 51) rfl) rfl
theorem q_195 : (Jvm.Cond.methodLink "YearBaskets$Teller" (113 : Nat) ({ cls := "YearBaskets$Fraction", name := "orderOf", desc := "(LYearBaskets$Fraction;LYearBaskets$Fraction;)I" } : Jvm.MethodName)) ∈ zG := zt_3 (List.mem_of_getElem? (i := 45) rfl) rfl
theorem q_196 : (Jvm.Cond.methodLink "YearBaskets$Teller" (125 : Nat) ({ cls := "YearBaskets$Fraction", name := "multiply", desc := "(LYearBaskets$Fraction;)V" } : Jvm.MethodName)) ∈ zG := zt_3 (List.mem_of_getElem? (i := 55) rfl) rfl
theorem q_197 : (Jvm.Cond.methodLink "YearBaskets$Teller" (51 : Nat) ({ cls := "YearBaskets$Plan", name := "wordAt", desc := "(I)I" } : Jvm.MethodName)) ∈ zG := zt_3 (List.mem_of_getElem? (i := 8) rfl) rfl
theorem q_198 : (Jvm.Cond.methodLink "YearBaskets$Teller" (40 : Nat) ({ cls := "YearBaskets$Teller", name := "tellTerm", desc := "(IIIIILYearBaskets$Fraction;)V" } : Jvm.MethodName)) ∈ zG := zt_3 (List.mem_of_getElem? (i := 4) rfl) rfl
theorem q_199 : (Jvm.Cond.methodLink "YearBaskets$Teller" (82 : Nat) ({ cls := "YearBaskets$Plan", name := "markAt", desc := "(I)I" } : Jvm.MethodName)) ∈ zG := zt_3 (List.mem_of_getElem? (i := 41) rfl) rfl
theorem q_200 : (Jvm.Cond.methodLink "YearBaskets$Teller" (109 : Nat) ({ cls := "YearBaskets$Teller", name := "spareAt", desc := "(I)LYearBaskets$Fraction;" } : Jvm.MethodName)) ∈ zG := zt_3 (List.mem_of_getElem? (i := 37) rfl) rfl
theorem q_201 : (Jvm.Cond.instanceMethod ({ cls := "YearBaskets$Teller", name := "tellLink", desc := "(IIIIILYearBaskets$Fraction;)V" } : Jvm.MethodName)) ∈ zG := zt_3 (List.mem_of_getElem? (i := 65) rfl) rfl
theorem q_202 : (Jvm.Cond.selects "YearBaskets$Teller" ({ cls := "YearBaskets$Teller", name := "tellLink", desc := "(IIIIILYearBaskets$Fraction;)V" } : Jvm.MethodName) ({ cls := "YearBaskets$Teller", name := "tellLink", desc := "(IIIIILYearBaskets$Fraction;)V" } : Jvm.MethodName)) ∈ zG := zG_s (List.mem_of_getElem? (i := 17) rfl) rfl
theorem q_203 : (Jvm.Cond.code ({ cls := "YearBaskets$Teller", name := "tellLink", desc := "(IIIIILYearBaskets$Fraction;)V" } : Jvm.MethodName) prog_8_method_10_code (12 : Nat) (Option.none : Option Jvm.ClassFile.FieldType)) ∈ zG := zt_3 (List.mem_of_getElem? (i := 66) rfl) rfl
theorem q_204 : (Jvm.Cond.methodLink "YearBaskets$Teller" (128 : Nat) ({ cls := "java/lang/Math", name := "abs", desc := "(I)I" } : Jvm.MethodName)) ∈ zG := zt_3 (List.mem_of_getElem? (i := 67) rfl) rfl
theorem q_205 : (Jvm.Cond.static ({ cls := "YearBaskets$Teller", name := "together", desc := "(II)I" } : Jvm.MethodName)) ∈ zG := zt_3 (List.mem_of_getElem? (i := 77) rfl) rfl
theorem q_206 : (Jvm.Cond.code ({ cls := "YearBaskets$Teller", name := "together", desc := "(II)I" } : Jvm.MethodName) prog_8_method_7_code (2 : Nat) (Option.some Jvm.ClassFile.FieldType.int)) ∈ zG := zt_3 (List.mem_of_getElem? (i := 78) rfl) rfl
theorem q_207 : (Jvm.Cond.instanceMethod ({ cls := "YearBaskets$Teller", name := "tellCosts", desc := "(IIIILYearBaskets$Fraction;)V" } : Jvm.MethodName)) ∈ zG := zt_3 (List.mem_of_getElem? (i := 73) rfl) rfl
theorem q_208 : (Jvm.Cond.selects "YearBaskets$Teller" ({ cls := "YearBaskets$Teller", name := "tellCosts", desc := "(IIIILYearBaskets$Fraction;)V" } : Jvm.MethodName) ({ cls := "YearBaskets$Teller", name := "tellCosts", desc := "(IIIILYearBaskets$Fraction;)V" } : Jvm.MethodName)) ∈ zG := zG_s (List.mem_of_getElem? (i := 18) rfl) rfl
theorem q_209 : (Jvm.Cond.code ({ cls := "YearBaskets$Teller", name := "tellCosts", desc := "(IIIILYearBaskets$Fraction;)V" } : Jvm.MethodName) prog_8_method_6_code (8 : Nat) (Option.none : Option Jvm.ClassFile.FieldType)) ∈ zG := zt_3 (List.mem_of_getElem? (i := 74) rfl) rfl
theorem q_210 : (Jvm.Cond.methodLink "YearBaskets$Teller" (74 : Nat) ({ cls := "YearBaskets$Books", name := "costOver", desc := "(IIII)I" } : Jvm.MethodName)) ∈ zG := zt_3 (List.mem_of_getElem? (i := 75) rfl) rfl
theorem q_211 : (Jvm.Cond.methodLink "YearBaskets$Teller" (78 : Nat) ({ cls := "YearBaskets$Teller", name := "together", desc := "(II)I" } : Jvm.MethodName)) ∈ zG := zt_3 (List.mem_of_getElem? (i := 76) rfl) rfl
theorem q_212 : (Jvm.Cond.methodLink "YearBaskets$Teller" (85 : Nat) ({ cls := "YearBaskets$Books", name := "pricesOver", desc := "(II)I" } : Jvm.MethodName)) ∈ zG := zt_3 (List.mem_of_getElem? (i := 79) rfl) rfl
theorem q_213 : (Jvm.Cond.instanceMethod ({ cls := "YearBaskets$Teller", name := "tellTerm", desc := "(IIIIILYearBaskets$Fraction;)V" } : Jvm.MethodName)) ∈ zG := zt_3 (List.mem_of_getElem? (i := 6) rfl) rfl
theorem q_214 : (Jvm.Cond.selects "YearBaskets$Teller" ({ cls := "YearBaskets$Teller", name := "tellTerm", desc := "(IIIIILYearBaskets$Fraction;)V" } : Jvm.MethodName) ({ cls := "YearBaskets$Teller", name := "tellTerm", desc := "(IIIIILYearBaskets$Fraction;)V" } : Jvm.MethodName)) ∈ zG := zG_s (List.mem_of_getElem? (i := 13) rfl) rfl
theorem q_215 : (Jvm.Cond.code ({ cls := "YearBaskets$Teller", name := "tellTerm", desc := "(IIIIILYearBaskets$Fraction;)V" } : Jvm.MethodName) prog_8_method_5_code (9 : Nat) (Option.none : Option Jvm.ClassFile.FieldType)) ∈ zG := zt_3 (List.mem_of_getElem? (i := 7) rfl) rfl
theorem q_216 : (Jvm.Cond.methodLink "YearBaskets$Teller" (57 : Nat) ({ cls := "YearBaskets$Teller", name := "tellPlain", desc := "(IIILYearBaskets$Fraction;)V" } : Jvm.MethodName)) ∈ zG := zt_3 (List.mem_of_getElem? (i := 12) rfl) rfl
theorem q_217 : (Jvm.Cond.methodLink "YearBaskets$Teller" (70 : Nat) ({ cls := "YearBaskets$Teller", name := "tellCosts", desc := "(IIIILYearBaskets$Fraction;)V" } : Jvm.MethodName)) ∈ zG := zt_3 (List.mem_of_getElem? (i := 71) rfl) rfl
theorem q_218 : (Jvm.Cond.methodLink "YearBaskets$Teller" (61 : Nat) ({ cls := "YearBaskets$Teller", name := "tellPair", desc := "(IIIIILYearBaskets$Fraction;)V" } : Jvm.MethodName)) ∈ zG := zt_3 (List.mem_of_getElem? (i := 33) rfl) rfl
theorem q_219 : (Jvm.Cond.methodLink "YearBaskets$Teller" (64 : Nat) ({ cls := "YearBaskets$Fraction", name := "turnOver", desc := "()V" } : Jvm.MethodName)) ∈ zG := zt_3 (List.mem_of_getElem? (i := 59) rfl) rfl
theorem q_220 : (Jvm.Cond.methodLink "YearBaskets$Teller" (44 : Nat) ({ cls := "YearBaskets$Teller", name := "tellLink", desc := "(IIIIILYearBaskets$Fraction;)V" } : Jvm.MethodName)) ∈ zG := zt_3 (List.mem_of_getElem? (i := 63) rfl) rfl
theorem q_221 : (Jvm.Cond.methodLink "YearBaskets$Teller" (67 : Nat) ({ cls := "YearBaskets$Books", name := "goodsPricedIn", desc := "(I)I" } : Jvm.MethodName)) ∈ zG := zt_3 (List.mem_of_getElem? (i := 70) rfl) rfl
theorem q_222 : (Jvm.Cond.instanceMethod ({ cls := "YearBaskets$Teller", name := "tell", desc := "(LYearBaskets$Plan;LYearBaskets$Books;IIILYearBaskets$Fraction;)V" } : Jvm.MethodName)) ∈ zG := zt_2 (List.mem_of_getElem? (i := 232) rfl) rfl
theorem q_223 : (Jvm.Cond.selects "YearBaskets$Teller" ({ cls := "YearBaskets$Teller", name := "tell", desc := "(LYearBaskets$Plan;LYearBaskets$Books;IIILYearBaskets$Fraction;)V" } : Jvm.MethodName) ({ cls := "YearBaskets$Teller", name := "tell", desc := "(LYearBaskets$Plan;LYearBaskets$Books;IIILYearBaskets$Fraction;)V" } : Jvm.MethodName)) ∈ zG := zt_2 (List.mem_of_getElem? (i := 233) rfl) rfl
theorem q_224 : (Jvm.Cond.code ({ cls := "YearBaskets$Teller", name := "tell", desc := "(LYearBaskets$Plan;LYearBaskets$Books;IIILYearBaskets$Fraction;)V" } : Jvm.MethodName) prog_8_method_2_code (7 : Nat) (Option.none : Option Jvm.ClassFile.FieldType)) ∈ zG := zt_2 (List.mem_of_getElem? (i := 234) rfl) rfl
theorem q_225 : (Jvm.Cond.methodLink "YearBaskets$Teller" (34 : Nat) ({ cls := "YearBaskets$Books", name := "goodsThere", desc := "()I" } : Jvm.MethodName)) ∈ zG := zt_3 (List.mem_of_getElem? (i := 3) rfl) rfl
theorem q_226 : (Jvm.Cond.methodLink "YearBaskets$Teller" (30 : Nat) ({ cls := "YearBaskets$Teller", name := "isReady", desc := "(LYearBaskets$Plan;LYearBaskets$Books;ILYearBaskets$Fraction;)Z" } : Jvm.MethodName)) ∈ zG := zt_2 (List.mem_of_getElem? (i := 235) rfl) rfl
theorem q_227 : (Jvm.Cond.instanceMethod ({ cls := "YearBaskets$Teller", name := "tellLinked", desc := "(LYearBaskets$Plan;LYearBaskets$Books;IIILYearBaskets$Fraction;)V" } : Jvm.MethodName)) ∈ zG := zt_3 (List.mem_of_getElem? (i := 190) rfl) rfl
theorem q_228 : (Jvm.Cond.selects "YearBaskets$Teller" ({ cls := "YearBaskets$Teller", name := "tellLinked", desc := "(LYearBaskets$Plan;LYearBaskets$Books;IIILYearBaskets$Fraction;)V" } : Jvm.MethodName) ({ cls := "YearBaskets$Teller", name := "tellLinked", desc := "(LYearBaskets$Plan;LYearBaskets$Books;IIILYearBaskets$Fraction;)V" } : Jvm.MethodName)) ∈ zG := zt_3 (List.mem_of_getElem? (i := 191) rfl) rfl
theorem q_229 : (Jvm.Cond.code ({ cls := "YearBaskets$Teller", name := "tellLinked", desc := "(LYearBaskets$Plan;LYearBaskets$Books;IIILYearBaskets$Fraction;)V" } : Jvm.MethodName) prog_8_method_3_code (7 : Nat) (Option.none : Option Jvm.ClassFile.FieldType)) ∈ zG := zt_3 (List.mem_of_getElem? (i := 192) rfl) rfl
abbrev b_T_isReady : ByteArray := prog_8_method_4_code
abbrev y_T_isReady : MethodName := ⟨"YearBaskets$Teller", "isReady", "(LYearBaskets$Plan;LYearBaskets$Books;ILYearBaskets$Fraction;)Z"⟩
abbrev b_T_tellPlain : ByteArray := prog_8_method_8_code
abbrev y_T_tellPlain : MethodName := ⟨"YearBaskets$Teller", "tellPlain", "(IIILYearBaskets$Fraction;)V"⟩
abbrev b_T_spareAt : ByteArray := prog_8_method_11_code
abbrev y_T_spareAt : MethodName := ⟨"YearBaskets$Teller", "spareAt", "(I)LYearBaskets$Fraction;"⟩
abbrev b_T_tellPair : ByteArray := prog_8_method_9_code
abbrev y_T_tellPair : MethodName := ⟨"YearBaskets$Teller", "tellPair", "(IIIIILYearBaskets$Fraction;)V"⟩
abbrev b_T_tellLink : ByteArray := prog_8_method_10_code
abbrev y_T_tellLink : MethodName := ⟨"YearBaskets$Teller", "tellLink", "(IIIIILYearBaskets$Fraction;)V"⟩
abbrev b_T_together : ByteArray := prog_8_method_7_code
abbrev y_T_together : MethodName := ⟨"YearBaskets$Teller", "together", "(II)I"⟩
abbrev b_T_tellCosts : ByteArray := prog_8_method_6_code
abbrev y_T_tellCosts : MethodName := ⟨"YearBaskets$Teller", "tellCosts", "(IIIILYearBaskets$Fraction;)V"⟩
abbrev b_T_tellTerm : ByteArray := prog_8_method_5_code
abbrev y_T_tellTerm : MethodName := ⟨"YearBaskets$Teller", "tellTerm", "(IIIIILYearBaskets$Fraction;)V"⟩
abbrev b_T_tell : ByteArray := prog_8_method_2_code
abbrev y_T_tell : MethodName := ⟨"YearBaskets$Teller", "tell", "(LYearBaskets$Plan;LYearBaskets$Books;IIILYearBaskets$Fraction;)V"⟩
abbrev b_T_tellLinked : ByteArray := prog_8_method_3_code
abbrev y_T_tellLinked : MethodName := ⟨"YearBaskets$Teller", "tellLinked", "(LYearBaskets$Plan;LYearBaskets$Books;IIILYearBaskets$Fraction;)V"⟩
theorem w_T_isReady : Cond.code y_T_isReady b_T_isReady 5 (some .boolean) ∈ zG ∧ (Cond.instanceMethod y_T_isReady ∈ zG ∧ Cond.selects y_T_isReady.cls y_T_isReady y_T_isReady ∈ zG) ∧ Cond.initialized y_T_isReady.cls ∈ zG ∧ zY y_T_isReady 4 := ⟨q_171, ⟨q_169, q_170⟩, q_172, by decide +kernel⟩
theorem w_T_tellPlain : Cond.code y_T_tellPlain b_T_tellPlain 9 (none) ∈ zG ∧ (Cond.instanceMethod y_T_tellPlain ∈ zG ∧ Cond.selects y_T_tellPlain.cls y_T_tellPlain y_T_tellPlain ∈ zG) ∧ Cond.initialized y_T_tellPlain.cls ∈ zG ∧ zY y_T_tellPlain 4 := ⟨q_179, ⟨q_177, q_178⟩, q_172, by decide +kernel⟩
theorem w_T_spareAt : Cond.code y_T_spareAt b_T_spareAt 2 (some (.object "YearBaskets$Fraction")) ∈ zG ∧ (Cond.instanceMethod y_T_spareAt ∈ zG ∧ Cond.selects y_T_spareAt.cls y_T_spareAt y_T_spareAt ∈ zG) ∧ Cond.initialized y_T_spareAt.cls ∈ zG ∧ zY y_T_spareAt 1 := ⟨q_188, ⟨q_186, q_187⟩, q_172, by decide +kernel⟩
theorem w_T_tellPair : Cond.code y_T_tellPair b_T_tellPair 10 (none) ∈ zG ∧ (Cond.instanceMethod y_T_tellPair ∈ zG ∧ Cond.selects y_T_tellPair.cls y_T_tellPair y_T_tellPair ∈ zG) ∧ Cond.initialized y_T_tellPair.cls ∈ zG ∧ zY y_T_tellPair 6 := ⟨q_192, ⟨q_190, q_191⟩, q_172, by decide +kernel⟩
theorem w_T_tellLink : Cond.code y_T_tellLink b_T_tellLink 12 (none) ∈ zG ∧ (Cond.instanceMethod y_T_tellLink ∈ zG ∧ Cond.selects y_T_tellLink.cls y_T_tellLink y_T_tellLink ∈ zG) ∧ Cond.initialized y_T_tellLink.cls ∈ zG ∧ zY y_T_tellLink 6 := ⟨q_203, ⟨q_201, q_202⟩, q_172, by decide +kernel⟩
theorem w_T_together : Cond.code y_T_together b_T_together 2 (some .int) ∈ zG ∧ Cond.static y_T_together ∈ zG ∧ Cond.initialized y_T_together.cls ∈ zG ∧ zY y_T_together 2 := ⟨q_206, q_205, q_172, by decide +kernel⟩
theorem w_T_tellCosts : Cond.code y_T_tellCosts b_T_tellCosts 8 (none) ∈ zG ∧ (Cond.instanceMethod y_T_tellCosts ∈ zG ∧ Cond.selects y_T_tellCosts.cls y_T_tellCosts y_T_tellCosts ∈ zG) ∧ Cond.initialized y_T_tellCosts.cls ∈ zG ∧ zY y_T_tellCosts 5 := ⟨q_209, ⟨q_207, q_208⟩, q_172, by decide +kernel⟩
theorem w_T_tellTerm : Cond.code y_T_tellTerm b_T_tellTerm 9 (none) ∈ zG ∧ (Cond.instanceMethod y_T_tellTerm ∈ zG ∧ Cond.selects y_T_tellTerm.cls y_T_tellTerm y_T_tellTerm ∈ zG) ∧ Cond.initialized y_T_tellTerm.cls ∈ zG ∧ zY y_T_tellTerm 6 := ⟨q_215, ⟨q_213, q_214⟩, q_172, by decide +kernel⟩
theorem w_T_tell : Cond.code y_T_tell b_T_tell 7 (none) ∈ zG ∧ (Cond.instanceMethod y_T_tell ∈ zG ∧ Cond.selects y_T_tell.cls y_T_tell y_T_tell ∈ zG) ∧ Cond.initialized y_T_tell.cls ∈ zG ∧ zY y_T_tell 6 := ⟨q_224, ⟨q_222, q_223⟩, q_172, by decide +kernel⟩
theorem w_T_tellLinked : Cond.code y_T_tellLinked b_T_tellLinked 7 (none) ∈ zG ∧ (Cond.instanceMethod y_T_tellLinked ∈ zG ∧ Cond.selects y_T_tellLinked.cls y_T_tellLinked y_T_tellLinked ∈ zG) ∧ Cond.initialized y_T_tellLinked.cls ∈ zG ∧ zY y_T_tellLinked 6 := ⟨q_229, ⟨q_227, q_228⟩, q_172, by decide +kernel⟩
theorem d_T_isReady_0 : decode b_T_isReady 0 = .ok (.aload 4, 2) := by decide +kernel
theorem d_T_isReady_2 : decode b_T_isReady 2 = .ok (.ifnonnull 5, 3) := by decide +kernel
theorem d_T_isReady_7 : decode b_T_isReady 7 = .ok (.aload_n 1, 1) := by decide +kernel
theorem d_T_isReady_8 : decode b_T_isReady 8 = .ok (.ifnull 7, 3) := by decide +kernel
theorem d_T_isReady_11 : decode b_T_isReady 11 = .ok (.aload_n 2, 1) := by decide +kernel
theorem d_T_isReady_12 : decode b_T_isReady 12 = .ok (.ifnonnull 13, 3) := by decide +kernel
theorem d_T_isReady_15 : decode b_T_isReady 15 = .ok (.aload 4, 2) := by decide +kernel
theorem d_T_isReady_17 : decode b_T_isReady 17 = .ok (.sipush (-1003), 3) := by decide +kernel
theorem d_T_isReady_20 : decode b_T_isReady 20 = .ok (.invokevirtual 47, 3) := by decide +kernel
theorem d_T_isReady_23 : decode b_T_isReady 23 = .ok (.iconst 0, 1) := by decide +kernel
theorem d_T_isReady_24 : decode b_T_isReady 24 = .ok (.ireturn, 1) := by decide +kernel
theorem d_T_isReady_25 : decode b_T_isReady 25 = .ok (.aload_n 0, 1) := by decide +kernel
theorem d_T_isReady_26 : decode b_T_isReady 26 = .ok (.aload_n 1, 1) := by decide +kernel
theorem d_T_isReady_27 : decode b_T_isReady 27 = .ok (.putfield 21, 3) := by decide +kernel
theorem d_T_isReady_30 : decode b_T_isReady 30 = .ok (.aload_n 0, 1) := by decide +kernel
theorem d_T_isReady_31 : decode b_T_isReady 31 = .ok (.aload_n 2, 1) := by decide +kernel
theorem d_T_isReady_32 : decode b_T_isReady 32 = .ok (.putfield 17, 3) := by decide +kernel
theorem d_T_isReady_35 : decode b_T_isReady 35 = .ok (.aload_n 0, 1) := by decide +kernel
theorem d_T_isReady_36 : decode b_T_isReady 36 = .ok (.iload_n 3, 1) := by decide +kernel
theorem d_T_isReady_37 : decode b_T_isReady 37 = .ok (.putfield 25, 3) := by decide +kernel
theorem d_T_isReady_40 : decode b_T_isReady 40 = .ok (.iconst 1, 1) := by decide +kernel
theorem d_T_isReady_41 : decode b_T_isReady 41 = .ok (.ireturn, 1) := by decide +kernel
theorem d_T_tellPlain_0 : decode b_T_tellPlain 0 = .ok (.aload 4, 2) := by decide +kernel
theorem d_T_tellPlain_2 : decode b_T_tellPlain 2 = .ok (.lconst 0, 1) := by decide +kernel
theorem d_T_tellPlain_3 : decode b_T_tellPlain 3 = .ok (.lconst 1, 1) := by decide +kernel
theorem d_T_tellPlain_4 : decode b_T_tellPlain 4 = .ok (.invokevirtual 88, 3) := by decide +kernel
theorem d_T_tellPlain_7 : decode b_T_tellPlain 7 = .ok (.iconst 0, 1) := by decide +kernel
theorem d_T_tellPlain_8 : decode b_T_tellPlain 8 = .ok (.istore 5, 2) := by decide +kernel
theorem d_T_tellPlain_10 : decode b_T_tellPlain 10 = .ok (.iconst 0, 1) := by decide +kernel
theorem d_T_tellPlain_11 : decode b_T_tellPlain 11 = .ok (.istore 6, 2) := by decide +kernel
theorem d_T_tellPlain_13 : decode b_T_tellPlain 13 = .ok (.iload 6, 2) := by decide +kernel
theorem d_T_tellPlain_15 : decode b_T_tellPlain 15 = .ok (.iconst 5, 1) := by decide +kernel
theorem d_T_tellPlain_16 : decode b_T_tellPlain 16 = .ok (.if_icmp .ge 79, 3) := by decide +kernel
theorem d_T_tellPlain_19 : decode b_T_tellPlain 19 = .ok (.iload_n 3, 1) := by decide +kernel
theorem d_T_tellPlain_20 : decode b_T_tellPlain 20 = .ok (.iload 6, 2) := by decide +kernel
theorem d_T_tellPlain_22 : decode b_T_tellPlain 22 = .ok (.ishr, 1) := by decide +kernel
theorem d_T_tellPlain_23 : decode b_T_tellPlain 23 = .ok (.iconst 1, 1) := by decide +kernel
theorem d_T_tellPlain_24 : decode b_T_tellPlain 24 = .ok (.iand, 1) := by decide +kernel
theorem d_T_tellPlain_25 : decode b_T_tellPlain 25 = .ok (.ifCond .ne 6, 3) := by decide +kernel
theorem d_T_tellPlain_28 : decode b_T_tellPlain 28 = .ok (.goto 61, 3) := by decide +kernel
theorem d_T_tellPlain_31 : decode b_T_tellPlain 31 = .ok (.aload_n 0, 1) := by decide +kernel
theorem d_T_tellPlain_32 : decode b_T_tellPlain 32 = .ok (.getfield 17, 3) := by decide +kernel
theorem d_T_tellPlain_35 : decode b_T_tellPlain 35 = .ok (.iload_n 1, 1) := by decide +kernel
theorem d_T_tellPlain_36 : decode b_T_tellPlain 36 = .ok (.iload 6, 2) := by decide +kernel
theorem d_T_tellPlain_38 : decode b_T_tellPlain 38 = .ok (.invokevirtual 92, 3) := by decide +kernel
theorem d_T_tellPlain_41 : decode b_T_tellPlain 41 = .ok (.istore 7, 2) := by decide +kernel
theorem d_T_tellPlain_43 : decode b_T_tellPlain 43 = .ok (.aload_n 0, 1) := by decide +kernel
theorem d_T_tellPlain_44 : decode b_T_tellPlain 44 = .ok (.getfield 17, 3) := by decide +kernel
theorem d_T_tellPlain_47 : decode b_T_tellPlain 47 = .ok (.iload_n 2, 1) := by decide +kernel
theorem d_T_tellPlain_48 : decode b_T_tellPlain 48 = .ok (.iload 6, 2) := by decide +kernel
theorem d_T_tellPlain_50 : decode b_T_tellPlain 50 = .ok (.invokevirtual 92, 3) := by decide +kernel
theorem d_T_tellPlain_53 : decode b_T_tellPlain 53 = .ok (.istore 8, 2) := by decide +kernel
theorem d_T_tellPlain_55 : decode b_T_tellPlain 55 = .ok (.iload 7, 2) := by decide +kernel
theorem d_T_tellPlain_57 : decode b_T_tellPlain 57 = .ok (.ifCond .eq 8, 3) := by decide +kernel
theorem d_T_tellPlain_60 : decode b_T_tellPlain 60 = .ok (.iload 8, 2) := by decide +kernel
theorem d_T_tellPlain_62 : decode b_T_tellPlain 62 = .ok (.ifCond .ne 12, 3) := by decide +kernel
theorem d_T_tellPlain_65 : decode b_T_tellPlain 65 = .ok (.aload 4, 2) := by decide +kernel
theorem d_T_tellPlain_67 : decode b_T_tellPlain 67 = .ok (.sipush (-1003), 3) := by decide +kernel
theorem d_T_tellPlain_70 : decode b_T_tellPlain 70 = .ok (.invokevirtual 47, 3) := by decide +kernel
theorem d_T_tellPlain_73 : decode b_T_tellPlain 73 = .ok (.return_, 1) := by decide +kernel
theorem d_T_tellPlain_74 : decode b_T_tellPlain 74 = .ok (.aload 4, 2) := by decide +kernel
theorem d_T_tellPlain_76 : decode b_T_tellPlain 76 = .ok (.iload 8, 2) := by decide +kernel
theorem d_T_tellPlain_78 : decode b_T_tellPlain 78 = .ok (.i2l, 1) := by decide +kernel
theorem d_T_tellPlain_79 : decode b_T_tellPlain 79 = .ok (.iload 7, 2) := by decide +kernel
theorem d_T_tellPlain_81 : decode b_T_tellPlain 81 = .ok (.i2l, 1) := by decide +kernel
theorem d_T_tellPlain_82 : decode b_T_tellPlain 82 = .ok (.iconst 1, 1) := by decide +kernel
theorem d_T_tellPlain_83 : decode b_T_tellPlain 83 = .ok (.invokevirtual 95, 3) := by decide +kernel
theorem d_T_tellPlain_86 : decode b_T_tellPlain 86 = .ok (.iinc 5 1, 3) := by decide +kernel
theorem d_T_tellPlain_89 : decode b_T_tellPlain 89 = .ok (.iinc 6 1, 3) := by decide +kernel
theorem d_T_tellPlain_92 : decode b_T_tellPlain 92 = .ok (.goto (-79), 3) := by decide +kernel
theorem d_T_tellPlain_95 : decode b_T_tellPlain 95 = .ok (.aload 4, 2) := by decide +kernel
theorem d_T_tellPlain_97 : decode b_T_tellPlain 97 = .ok (.getfield 99, 3) := by decide +kernel
theorem d_T_tellPlain_100 : decode b_T_tellPlain 100 = .ok (.ifCond .ne 22, 3) := by decide +kernel
theorem d_T_tellPlain_103 : decode b_T_tellPlain 103 = .ok (.aload 4, 2) := by decide +kernel
theorem d_T_tellPlain_105 : decode b_T_tellPlain 105 = .ok (.aload 4, 2) := by decide +kernel
theorem d_T_tellPlain_107 : decode b_T_tellPlain 107 = .ok (.getfield 102, 3) := by decide +kernel
theorem d_T_tellPlain_110 : decode b_T_tellPlain 110 = .ok (.aload 4, 2) := by decide +kernel
theorem d_T_tellPlain_112 : decode b_T_tellPlain 112 = .ok (.getfield 106, 3) := by decide +kernel
theorem d_T_tellPlain_115 : decode b_T_tellPlain 115 = .ok (.iload 5, 2) := by decide +kernel
theorem d_T_tellPlain_117 : decode b_T_tellPlain 117 = .ok (.i2l, 1) := by decide +kernel
theorem d_T_tellPlain_118 : decode b_T_tellPlain 118 = .ok (.lmul, 1) := by decide +kernel
theorem d_T_tellPlain_119 : decode b_T_tellPlain 119 = .ok (.invokevirtual 88, 3) := by decide +kernel
theorem d_T_tellPlain_122 : decode b_T_tellPlain 122 = .ok (.return_, 1) := by decide +kernel
theorem d_T_spareAt_0 : decode b_T_spareAt 0 = .ok (.iload_n 1, 1) := by decide +kernel
theorem d_T_spareAt_1 : decode b_T_spareAt 1 = .ok (.ifCond .lt 12, 3) := by decide +kernel
theorem d_T_spareAt_4 : decode b_T_spareAt 4 = .ok (.iload_n 1, 1) := by decide +kernel
theorem d_T_spareAt_5 : decode b_T_spareAt 5 = .ok (.aload_n 0, 1) := by decide +kernel
theorem d_T_spareAt_6 : decode b_T_spareAt 6 = .ok (.getfield 11, 3) := by decide +kernel
theorem d_T_spareAt_9 : decode b_T_spareAt 9 = .ok (.arraylength, 1) := by decide +kernel
theorem d_T_spareAt_10 : decode b_T_spareAt 10 = .ok (.if_icmp .lt 7, 3) := by decide +kernel
theorem d_T_spareAt_13 : decode b_T_spareAt 13 = .ok (.aconst_null, 1) := by decide +kernel
theorem d_T_spareAt_14 : decode b_T_spareAt 14 = .ok (.goto 9, 3) := by decide +kernel
theorem d_T_spareAt_17 : decode b_T_spareAt 17 = .ok (.aload_n 0, 1) := by decide +kernel
theorem d_T_spareAt_18 : decode b_T_spareAt 18 = .ok (.getfield 11, 3) := by decide +kernel
theorem d_T_spareAt_21 : decode b_T_spareAt 21 = .ok (.iload_n 1, 1) := by decide +kernel
theorem d_T_spareAt_22 : decode b_T_spareAt 22 = .ok (.aaload, 1) := by decide +kernel
theorem d_T_spareAt_23 : decode b_T_spareAt 23 = .ok (.areturn, 1) := by decide +kernel
theorem d_T_tellPair_0 : decode b_T_tellPair 0 = .ok (.aload_n 0, 1) := by decide +kernel
theorem d_T_tellPair_1 : decode b_T_tellPair 1 = .ok (.iload 5, 2) := by decide +kernel
theorem d_T_tellPair_3 : decode b_T_tellPair 3 = .ok (.invokevirtual 109, 3) := by decide +kernel
theorem d_T_tellPair_6 : decode b_T_tellPair 6 = .ok (.astore 7, 2) := by decide +kernel
theorem d_T_tellPair_8 : decode b_T_tellPair 8 = .ok (.aload 7, 2) := by decide +kernel
theorem d_T_tellPair_10 : decode b_T_tellPair 10 = .ok (.ifnonnull 12, 3) := by decide +kernel
theorem d_T_tellPair_13 : decode b_T_tellPair 13 = .ok (.aload 6, 2) := by decide +kernel
theorem d_T_tellPair_15 : decode b_T_tellPair 15 = .ok (.sipush (-1003), 3) := by decide +kernel
theorem d_T_tellPair_18 : decode b_T_tellPair 18 = .ok (.invokevirtual 47, 3) := by decide +kernel
theorem d_T_tellPair_21 : decode b_T_tellPair 21 = .ok (.return_, 1) := by decide +kernel
theorem d_T_tellPair_22 : decode b_T_tellPair 22 = .ok (.aload_n 0, 1) := by decide +kernel
theorem d_T_tellPair_23 : decode b_T_tellPair 23 = .ok (.iload_n 1, 1) := by decide +kernel
theorem d_T_tellPair_24 : decode b_T_tellPair 24 = .ok (.iconst 1, 1) := by decide +kernel
theorem d_T_tellPair_25 : decode b_T_tellPair 25 = .ok (.iadd, 1) := by decide +kernel
theorem d_T_tellPair_26 : decode b_T_tellPair 26 = .ok (.iload_n 2, 1) := by decide +kernel
theorem d_T_tellPair_27 : decode b_T_tellPair 27 = .ok (.iload_n 3, 1) := by decide +kernel
theorem d_T_tellPair_28 : decode b_T_tellPair 28 = .ok (.iload 4, 2) := by decide +kernel
theorem d_T_tellPair_30 : decode b_T_tellPair 30 = .ok (.iload 5, 2) := by decide +kernel
theorem d_T_tellPair_32 : decode b_T_tellPair 32 = .ok (.iconst 1, 1) := by decide +kernel
theorem d_T_tellPair_33 : decode b_T_tellPair 33 = .ok (.iadd, 1) := by decide +kernel
theorem d_T_tellPair_34 : decode b_T_tellPair 34 = .ok (.aload 6, 2) := by decide +kernel
theorem d_T_tellPair_36 : decode b_T_tellPair 36 = .ok (.invokevirtual 40, 3) := by decide +kernel
theorem d_T_tellPair_39 : decode b_T_tellPair 39 = .ok (.aload 6, 2) := by decide +kernel
theorem d_T_tellPair_41 : decode b_T_tellPair 41 = .ok (.getfield 99, 3) := by decide +kernel
theorem d_T_tellPair_44 : decode b_T_tellPair 44 = .ok (.ifCond .eq 4, 3) := by decide +kernel
theorem d_T_tellPair_47 : decode b_T_tellPair 47 = .ok (.return_, 1) := by decide +kernel
theorem d_T_tellPair_48 : decode b_T_tellPair 48 = .ok (.aload_n 0, 1) := by decide +kernel
theorem d_T_tellPair_49 : decode b_T_tellPair 49 = .ok (.aload_n 0, 1) := by decide +kernel
theorem d_T_tellPair_50 : decode b_T_tellPair 50 = .ok (.getfield 21, 3) := by decide +kernel
theorem d_T_tellPair_53 : decode b_T_tellPair 53 = .ok (.iload_n 1, 1) := by decide +kernel
theorem d_T_tellPair_54 : decode b_T_tellPair 54 = .ok (.invokevirtual 82, 3) := by decide +kernel
theorem d_T_tellPair_57 : decode b_T_tellPair 57 = .ok (.iload_n 2, 1) := by decide +kernel
theorem d_T_tellPair_58 : decode b_T_tellPair 58 = .ok (.iload_n 3, 1) := by decide +kernel
theorem d_T_tellPair_59 : decode b_T_tellPair 59 = .ok (.iload 4, 2) := by decide +kernel
theorem d_T_tellPair_61 : decode b_T_tellPair 61 = .ok (.iload 5, 2) := by decide +kernel
theorem d_T_tellPair_63 : decode b_T_tellPair 63 = .ok (.iconst 1, 1) := by decide +kernel
theorem d_T_tellPair_64 : decode b_T_tellPair 64 = .ok (.iadd, 1) := by decide +kernel
theorem d_T_tellPair_65 : decode b_T_tellPair 65 = .ok (.aload 7, 2) := by decide +kernel
theorem d_T_tellPair_67 : decode b_T_tellPair 67 = .ok (.invokevirtual 40, 3) := by decide +kernel
theorem d_T_tellPair_70 : decode b_T_tellPair 70 = .ok (.aload 7, 2) := by decide +kernel
theorem d_T_tellPair_72 : decode b_T_tellPair 72 = .ok (.getfield 99, 3) := by decide +kernel
theorem d_T_tellPair_75 : decode b_T_tellPair 75 = .ok (.ifCond .eq 14, 3) := by decide +kernel
theorem d_T_tellPair_78 : decode b_T_tellPair 78 = .ok (.aload 6, 2) := by decide +kernel
theorem d_T_tellPair_80 : decode b_T_tellPair 80 = .ok (.aload 7, 2) := by decide +kernel
theorem d_T_tellPair_82 : decode b_T_tellPair 82 = .ok (.getfield 99, 3) := by decide +kernel
theorem d_T_tellPair_85 : decode b_T_tellPair 85 = .ok (.invokevirtual 47, 3) := by decide +kernel
theorem d_T_tellPair_88 : decode b_T_tellPair 88 = .ok (.return_, 1) := by decide +kernel
theorem d_T_tellPair_89 : decode b_T_tellPair 89 = .ok (.aload_n 0, 1) := by decide +kernel
theorem d_T_tellPair_90 : decode b_T_tellPair 90 = .ok (.getfield 21, 3) := by decide +kernel
theorem d_T_tellPair_93 : decode b_T_tellPair 93 = .ok (.iload_n 1, 1) := by decide +kernel
theorem d_T_tellPair_94 : decode b_T_tellPair 94 = .ok (.invokevirtual 51, 3) := by decide +kernel
theorem d_T_tellPair_97 : decode b_T_tellPair 97 = .ok (.istore 8, 2) := by decide +kernel
theorem d_T_tellPair_99 : decode b_T_tellPair 99 = .ok (.iload 8, 2) := by decide +kernel
theorem d_T_tellPair_101 : decode b_T_tellPair 101 = .ok (.bipush 8, 2) := by decide +kernel
theorem d_T_tellPair_103 : decode b_T_tellPair 103 = .ok (.if_icmp .eq 10, 3) := by decide +kernel
theorem d_T_tellPair_106 : decode b_T_tellPair 106 = .ok (.iload 8, 2) := by decide +kernel
theorem d_T_tellPair_108 : decode b_T_tellPair 108 = .ok (.bipush 9, 2) := by decide +kernel
theorem d_T_tellPair_110 : decode b_T_tellPair 110 = .ok (.if_icmp .ne 58, 3) := by decide +kernel
theorem d_T_tellPair_113 : decode b_T_tellPair 113 = .ok (.aload 7, 2) := by decide +kernel
theorem d_T_tellPair_115 : decode b_T_tellPair 115 = .ok (.aload 6, 2) := by decide +kernel
theorem d_T_tellPair_117 : decode b_T_tellPair 117 = .ok (.invokestatic 113, 3) := by decide +kernel
theorem d_T_tellPair_120 : decode b_T_tellPair 120 = .ok (.istore 9, 2) := by decide +kernel
theorem d_T_tellPair_122 : decode b_T_tellPair 122 = .ok (.iload 9, 2) := by decide +kernel
theorem d_T_tellPair_124 : decode b_T_tellPair 124 = .ok (.sipush (-1005), 3) := by decide +kernel
theorem d_T_tellPair_127 : decode b_T_tellPair 127 = .ok (.if_icmp .ne 14, 3) := by decide +kernel
theorem d_T_tellPair_130 : decode b_T_tellPair 130 = .ok (.aload 6, 2) := by decide +kernel
theorem d_T_tellPair_132 : decode b_T_tellPair 132 = .ok (.sipush (-1005), 3) := by decide +kernel
theorem d_T_tellPair_135 : decode b_T_tellPair 135 = .ok (.invokevirtual 47, 3) := by decide +kernel
theorem d_T_tellPair_138 : decode b_T_tellPair 138 = .ok (.goto 27, 3) := by decide +kernel
theorem d_T_tellPair_141 : decode b_T_tellPair 141 = .ok (.iload 9, 2) := by decide +kernel
theorem d_T_tellPair_143 : decode b_T_tellPair 143 = .ok (.iload 8, 2) := by decide +kernel
theorem d_T_tellPair_145 : decode b_T_tellPair 145 = .ok (.bipush 8, 2) := by decide +kernel
theorem d_T_tellPair_147 : decode b_T_tellPair 147 = .ok (.if_icmp .ne 7, 3) := by decide +kernel
theorem d_T_tellPair_150 : decode b_T_tellPair 150 = .ok (.iconst (-1), 1) := by decide +kernel
theorem d_T_tellPair_151 : decode b_T_tellPair 151 = .ok (.goto 4, 3) := by decide +kernel
theorem d_T_tellPair_154 : decode b_T_tellPair 154 = .ok (.iconst 1, 1) := by decide +kernel
theorem d_T_tellPair_155 : decode b_T_tellPair 155 = .ok (.if_icmp .ne 10, 3) := by decide +kernel
theorem d_T_tellPair_158 : decode b_T_tellPair 158 = .ok (.aload 6, 2) := by decide +kernel
theorem d_T_tellPair_160 : decode b_T_tellPair 160 = .ok (.aload 7, 2) := by decide +kernel
theorem d_T_tellPair_162 : decode b_T_tellPair 162 = .ok (.invokevirtual 117, 3) := by decide +kernel
theorem d_T_tellPair_165 : decode b_T_tellPair 165 = .ok (.goto 81, 3) := by decide +kernel
theorem d_T_tellPair_168 : decode b_T_tellPair 168 = .ok (.aload 6, 2) := by decide +kernel
theorem d_T_tellPair_170 : decode b_T_tellPair 170 = .ok (.getfield 121, 3) := by decide +kernel
theorem d_T_tellPair_173 : decode b_T_tellPair 173 = .ok (.ifCond .ne 11, 3) := by decide +kernel
theorem d_T_tellPair_176 : decode b_T_tellPair 176 = .ok (.aload 7, 2) := by decide +kernel
theorem d_T_tellPair_178 : decode b_T_tellPair 178 = .ok (.getfield 121, 3) := by decide +kernel
theorem d_T_tellPair_181 : decode b_T_tellPair 181 = .ok (.ifCond .eq 14, 3) := by decide +kernel
theorem d_T_tellPair_184 : decode b_T_tellPair 184 = .ok (.aload 6, 2) := by decide +kernel
theorem d_T_tellPair_186 : decode b_T_tellPair 186 = .ok (.sipush (-1003), 3) := by decide +kernel
theorem d_T_tellPair_189 : decode b_T_tellPair 189 = .ok (.invokevirtual 47, 3) := by decide +kernel
theorem d_T_tellPair_192 : decode b_T_tellPair 192 = .ok (.goto 54, 3) := by decide +kernel
theorem d_T_tellPair_195 : decode b_T_tellPair 195 = .ok (.iload 8, 2) := by decide +kernel
theorem d_T_tellPair_197 : decode b_T_tellPair 197 = .ok (.bipush 7, 2) := by decide +kernel
theorem d_T_tellPair_199 : decode b_T_tellPair 199 = .ok (.if_icmp .ne 22, 3) := by decide +kernel
theorem d_T_tellPair_202 : decode b_T_tellPair 202 = .ok (.aload 6, 2) := by decide +kernel
theorem d_T_tellPair_204 : decode b_T_tellPair 204 = .ok (.aload 7, 2) := by decide +kernel
theorem d_T_tellPair_206 : decode b_T_tellPair 206 = .ok (.getfield 102, 3) := by decide +kernel
theorem d_T_tellPair_209 : decode b_T_tellPair 209 = .ok (.aload 7, 2) := by decide +kernel
theorem d_T_tellPair_211 : decode b_T_tellPair 211 = .ok (.getfield 106, 3) := by decide +kernel
theorem d_T_tellPair_214 : decode b_T_tellPair 214 = .ok (.iconst 2, 1) := by decide +kernel
theorem d_T_tellPair_215 : decode b_T_tellPair 215 = .ok (.invokevirtual 95, 3) := by decide +kernel
theorem d_T_tellPair_218 : decode b_T_tellPair 218 = .ok (.goto 28, 3) := by decide +kernel
theorem d_T_tellPair_221 : decode b_T_tellPair 221 = .ok (.aload 6, 2) := by decide +kernel
theorem d_T_tellPair_223 : decode b_T_tellPair 223 = .ok (.aload 7, 2) := by decide +kernel
theorem d_T_tellPair_225 : decode b_T_tellPair 225 = .ok (.invokevirtual 125, 3) := by decide +kernel
theorem d_T_tellPair_228 : decode b_T_tellPair 228 = .ok (.aload 6, 2) := by decide +kernel
theorem d_T_tellPair_230 : decode b_T_tellPair 230 = .ok (.aload 6, 2) := by decide +kernel
theorem d_T_tellPair_232 : decode b_T_tellPair 232 = .ok (.getfield 99, 3) := by decide +kernel
theorem d_T_tellPair_235 : decode b_T_tellPair 235 = .ok (.ifCond .ne 7, 3) := by decide +kernel
theorem d_T_tellPair_238 : decode b_T_tellPair 238 = .ok (.iconst 1, 1) := by decide +kernel
theorem d_T_tellPair_239 : decode b_T_tellPair 239 = .ok (.goto 4, 3) := by decide +kernel
theorem d_T_tellPair_242 : decode b_T_tellPair 242 = .ok (.iconst 0, 1) := by decide +kernel
theorem d_T_tellPair_243 : decode b_T_tellPair 243 = .ok (.putfield 121, 3) := by decide +kernel
theorem d_T_tellPair_246 : decode b_T_tellPair 246 = .ok (.return_, 1) := by decide +kernel
theorem d_T_tellLink_0 : decode b_T_tellLink 0 = .ok (.aload_n 0, 1) := by decide +kernel
theorem d_T_tellLink_1 : decode b_T_tellLink 1 = .ok (.iload 5, 2) := by decide +kernel
theorem d_T_tellLink_3 : decode b_T_tellLink 3 = .ok (.invokevirtual 109, 3) := by decide +kernel
theorem d_T_tellLink_6 : decode b_T_tellLink 6 = .ok (.astore 7, 2) := by decide +kernel
theorem d_T_tellLink_8 : decode b_T_tellLink 8 = .ok (.aload 7, 2) := by decide +kernel
theorem d_T_tellLink_10 : decode b_T_tellLink 10 = .ok (.ifnonnull 12, 3) := by decide +kernel
theorem d_T_tellLink_13 : decode b_T_tellLink 13 = .ok (.aload 6, 2) := by decide +kernel
theorem d_T_tellLink_15 : decode b_T_tellLink 15 = .ok (.sipush (-1003), 3) := by decide +kernel
theorem d_T_tellLink_18 : decode b_T_tellLink 18 = .ok (.invokevirtual 47, 3) := by decide +kernel
theorem d_T_tellLink_21 : decode b_T_tellLink 21 = .ok (.return_, 1) := by decide +kernel
theorem d_T_tellLink_22 : decode b_T_tellLink 22 = .ok (.aload 6, 2) := by decide +kernel
theorem d_T_tellLink_24 : decode b_T_tellLink 24 = .ok (.lconst 1, 1) := by decide +kernel
theorem d_T_tellLink_25 : decode b_T_tellLink 25 = .ok (.lconst 1, 1) := by decide +kernel
theorem d_T_tellLink_26 : decode b_T_tellLink 26 = .ok (.invokevirtual 88, 3) := by decide +kernel
theorem d_T_tellLink_29 : decode b_T_tellLink 29 = .ok (.iload_n 2, 1) := by decide +kernel
theorem d_T_tellLink_30 : decode b_T_tellLink 30 = .ok (.iload_n 3, 1) := by decide +kernel
theorem d_T_tellLink_31 : decode b_T_tellLink 31 = .ok (.if_icmp .ge 7, 3) := by decide +kernel
theorem d_T_tellLink_34 : decode b_T_tellLink 34 = .ok (.iconst 1, 1) := by decide +kernel
theorem d_T_tellLink_35 : decode b_T_tellLink 35 = .ok (.goto 4, 3) := by decide +kernel
theorem d_T_tellLink_38 : decode b_T_tellLink 38 = .ok (.iconst (-1), 1) := by decide +kernel
theorem d_T_tellLink_39 : decode b_T_tellLink 39 = .ok (.istore 8, 2) := by decide +kernel
theorem d_T_tellLink_41 : decode b_T_tellLink 41 = .ok (.iload_n 3, 1) := by decide +kernel
theorem d_T_tellLink_42 : decode b_T_tellLink 42 = .ok (.iload_n 2, 1) := by decide +kernel
theorem d_T_tellLink_43 : decode b_T_tellLink 43 = .ok (.isub, 1) := by decide +kernel
theorem d_T_tellLink_44 : decode b_T_tellLink 44 = .ok (.invokestatic 128, 3) := by decide +kernel
theorem d_T_tellLink_47 : decode b_T_tellLink 47 = .ok (.istore 9, 2) := by decide +kernel
theorem d_T_tellLink_49 : decode b_T_tellLink 49 = .ok (.iconst 0, 1) := by decide +kernel
theorem d_T_tellLink_50 : decode b_T_tellLink 50 = .ok (.istore 10, 2) := by decide +kernel
theorem d_T_tellLink_52 : decode b_T_tellLink 52 = .ok (.iload 10, 2) := by decide +kernel
theorem d_T_tellLink_54 : decode b_T_tellLink 54 = .ok (.iload 9, 2) := by decide +kernel
theorem d_T_tellLink_56 : decode b_T_tellLink 56 = .ok (.if_icmp .ge 76, 3) := by decide +kernel
theorem d_T_tellLink_59 : decode b_T_tellLink 59 = .ok (.iload 10, 2) := by decide +kernel
theorem d_T_tellLink_61 : decode b_T_tellLink 61 = .ok (.bipush 8, 2) := by decide +kernel
theorem d_T_tellLink_63 : decode b_T_tellLink 63 = .ok (.if_icmp .ge 69, 3) := by decide +kernel
theorem d_T_tellLink_66 : decode b_T_tellLink 66 = .ok (.iload_n 2, 1) := by decide +kernel
theorem d_T_tellLink_67 : decode b_T_tellLink 67 = .ok (.iload 10, 2) := by decide +kernel
theorem d_T_tellLink_69 : decode b_T_tellLink 69 = .ok (.iload 8, 2) := by decide +kernel
theorem d_T_tellLink_71 : decode b_T_tellLink 71 = .ok (.imul, 1) := by decide +kernel
theorem d_T_tellLink_72 : decode b_T_tellLink 72 = .ok (.iadd, 1) := by decide +kernel
theorem d_T_tellLink_73 : decode b_T_tellLink 73 = .ok (.istore 11, 2) := by decide +kernel
theorem d_T_tellLink_75 : decode b_T_tellLink 75 = .ok (.aload_n 0, 1) := by decide +kernel
theorem d_T_tellLink_76 : decode b_T_tellLink 76 = .ok (.iload_n 1, 1) := by decide +kernel
theorem d_T_tellLink_77 : decode b_T_tellLink 77 = .ok (.iload 11, 2) := by decide +kernel
theorem d_T_tellLink_79 : decode b_T_tellLink 79 = .ok (.iload 11, 2) := by decide +kernel
theorem d_T_tellLink_81 : decode b_T_tellLink 81 = .ok (.iload 8, 2) := by decide +kernel
theorem d_T_tellLink_83 : decode b_T_tellLink 83 = .ok (.iadd, 1) := by decide +kernel
theorem d_T_tellLink_84 : decode b_T_tellLink 84 = .ok (.iload 4, 2) := by decide +kernel
theorem d_T_tellLink_86 : decode b_T_tellLink 86 = .ok (.iload 5, 2) := by decide +kernel
theorem d_T_tellLink_88 : decode b_T_tellLink 88 = .ok (.iconst 1, 1) := by decide +kernel
theorem d_T_tellLink_89 : decode b_T_tellLink 89 = .ok (.iadd, 1) := by decide +kernel
theorem d_T_tellLink_90 : decode b_T_tellLink 90 = .ok (.iload 10, 2) := by decide +kernel
theorem d_T_tellLink_92 : decode b_T_tellLink 92 = .ok (.ifCond .ne 8, 3) := by decide +kernel
theorem d_T_tellLink_95 : decode b_T_tellLink 95 = .ok (.aload 6, 2) := by decide +kernel
theorem d_T_tellLink_97 : decode b_T_tellLink 97 = .ok (.goto 5, 3) := by decide +kernel
theorem d_T_tellLink_100 : decode b_T_tellLink 100 = .ok (.aload 7, 2) := by decide +kernel
theorem d_T_tellLink_102 : decode b_T_tellLink 102 = .ok (.invokevirtual 40, 3) := by decide +kernel
theorem d_T_tellLink_105 : decode b_T_tellLink 105 = .ok (.iload 10, 2) := by decide +kernel
theorem d_T_tellLink_107 : decode b_T_tellLink 107 = .ok (.ifCond .le 10, 3) := by decide +kernel
theorem d_T_tellLink_110 : decode b_T_tellLink 110 = .ok (.aload 6, 2) := by decide +kernel
theorem d_T_tellLink_112 : decode b_T_tellLink 112 = .ok (.aload 7, 2) := by decide +kernel
theorem d_T_tellLink_114 : decode b_T_tellLink 114 = .ok (.invokevirtual 125, 3) := by decide +kernel
theorem d_T_tellLink_117 : decode b_T_tellLink 117 = .ok (.aload 6, 2) := by decide +kernel
theorem d_T_tellLink_119 : decode b_T_tellLink 119 = .ok (.getfield 99, 3) := by decide +kernel
theorem d_T_tellLink_122 : decode b_T_tellLink 122 = .ok (.ifCond .eq 4, 3) := by decide +kernel
theorem d_T_tellLink_125 : decode b_T_tellLink 125 = .ok (.return_, 1) := by decide +kernel
theorem d_T_tellLink_126 : decode b_T_tellLink 126 = .ok (.iinc 10 1, 3) := by decide +kernel
theorem d_T_tellLink_129 : decode b_T_tellLink 129 = .ok (.goto (-77), 3) := by decide +kernel
theorem d_T_tellLink_132 : decode b_T_tellLink 132 = .ok (.return_, 1) := by decide +kernel
theorem d_T_together_0 : decode b_T_together 0 = .ok (.iload_n 0, 1) := by decide +kernel
theorem d_T_together_1 : decode b_T_together 1 = .ok (.iconst (-1), 1) := by decide +kernel
theorem d_T_together_2 : decode b_T_together 2 = .ok (.if_icmp .eq 8, 3) := by decide +kernel
theorem d_T_together_5 : decode b_T_together 5 = .ok (.iload_n 1, 1) := by decide +kernel
theorem d_T_together_6 : decode b_T_together 6 = .ok (.iconst (-1), 1) := by decide +kernel
theorem d_T_together_7 : decode b_T_together 7 = .ok (.if_icmp .ne 7, 3) := by decide +kernel
theorem d_T_together_10 : decode b_T_together 10 = .ok (.iconst (-1), 1) := by decide +kernel
theorem d_T_together_11 : decode b_T_together 11 = .ok (.goto 6, 3) := by decide +kernel
theorem d_T_together_14 : decode b_T_together 14 = .ok (.iload_n 0, 1) := by decide +kernel
theorem d_T_together_15 : decode b_T_together 15 = .ok (.iload_n 1, 1) := by decide +kernel
theorem d_T_together_16 : decode b_T_together 16 = .ok (.iadd, 1) := by decide +kernel
theorem d_T_together_17 : decode b_T_together 17 = .ok (.ireturn, 1) := by decide +kernel
theorem d_T_tellCosts_0 : decode b_T_tellCosts 0 = .ok (.iconst (-1), 1) := by decide +kernel
theorem d_T_tellCosts_1 : decode b_T_tellCosts 1 = .ok (.istore 6, 2) := by decide +kernel
theorem d_T_tellCosts_3 : decode b_T_tellCosts 3 = .ok (.iconst (-1), 1) := by decide +kernel
theorem d_T_tellCosts_4 : decode b_T_tellCosts 4 = .ok (.istore 7, 2) := by decide +kernel
theorem d_T_tellCosts_6 : decode b_T_tellCosts 6 = .ok (.aload_n 0, 1) := by decide +kernel
theorem d_T_tellCosts_7 : decode b_T_tellCosts 7 = .ok (.getfield 21, 3) := by decide +kernel
theorem d_T_tellCosts_10 : decode b_T_tellCosts 10 = .ok (.iload_n 1, 1) := by decide +kernel
theorem d_T_tellCosts_11 : decode b_T_tellCosts 11 = .ok (.invokevirtual 51, 3) := by decide +kernel
theorem d_T_tellCosts_14 : decode b_T_tellCosts 14 = .ok (.tableswitch 263 0 5 #[38, 75, 112, 185, 263, 236], 38) := by decide +kernel
theorem d_T_tellCosts_52 : decode b_T_tellCosts 52 = .ok (.aload_n 0, 1) := by decide +kernel
theorem d_T_tellCosts_53 : decode b_T_tellCosts 53 = .ok (.getfield 17, 3) := by decide +kernel
theorem d_T_tellCosts_56 : decode b_T_tellCosts 56 = .ok (.iload 4, 2) := by decide +kernel
theorem d_T_tellCosts_58 : decode b_T_tellCosts 58 = .ok (.aload_n 0, 1) := by decide +kernel
theorem d_T_tellCosts_59 : decode b_T_tellCosts 59 = .ok (.getfield 25, 3) := by decide +kernel
theorem d_T_tellCosts_62 : decode b_T_tellCosts 62 = .ok (.iload_n 3, 1) := by decide +kernel
theorem d_T_tellCosts_63 : decode b_T_tellCosts 63 = .ok (.iload_n 2, 1) := by decide +kernel
theorem d_T_tellCosts_64 : decode b_T_tellCosts 64 = .ok (.invokevirtual 74, 3) := by decide +kernel
theorem d_T_tellCosts_67 : decode b_T_tellCosts 67 = .ok (.istore 6, 2) := by decide +kernel
theorem d_T_tellCosts_69 : decode b_T_tellCosts 69 = .ok (.aload_n 0, 1) := by decide +kernel
theorem d_T_tellCosts_70 : decode b_T_tellCosts 70 = .ok (.getfield 17, 3) := by decide +kernel
theorem d_T_tellCosts_73 : decode b_T_tellCosts 73 = .ok (.iload 4, 2) := by decide +kernel
theorem d_T_tellCosts_75 : decode b_T_tellCosts 75 = .ok (.aload_n 0, 1) := by decide +kernel
theorem d_T_tellCosts_76 : decode b_T_tellCosts 76 = .ok (.getfield 25, 3) := by decide +kernel
theorem d_T_tellCosts_79 : decode b_T_tellCosts 79 = .ok (.iload_n 2, 1) := by decide +kernel
theorem d_T_tellCosts_80 : decode b_T_tellCosts 80 = .ok (.iload_n 2, 1) := by decide +kernel
theorem d_T_tellCosts_81 : decode b_T_tellCosts 81 = .ok (.invokevirtual 74, 3) := by decide +kernel
theorem d_T_tellCosts_84 : decode b_T_tellCosts 84 = .ok (.istore 7, 2) := by decide +kernel
theorem d_T_tellCosts_86 : decode b_T_tellCosts 86 = .ok (.goto 191, 3) := by decide +kernel
theorem d_T_tellCosts_89 : decode b_T_tellCosts 89 = .ok (.aload_n 0, 1) := by decide +kernel
theorem d_T_tellCosts_90 : decode b_T_tellCosts 90 = .ok (.getfield 17, 3) := by decide +kernel
theorem d_T_tellCosts_93 : decode b_T_tellCosts 93 = .ok (.iload 4, 2) := by decide +kernel
theorem d_T_tellCosts_95 : decode b_T_tellCosts 95 = .ok (.aload_n 0, 1) := by decide +kernel
theorem d_T_tellCosts_96 : decode b_T_tellCosts 96 = .ok (.getfield 25, 3) := by decide +kernel
theorem d_T_tellCosts_99 : decode b_T_tellCosts 99 = .ok (.iload_n 3, 1) := by decide +kernel
theorem d_T_tellCosts_100 : decode b_T_tellCosts 100 = .ok (.iload_n 3, 1) := by decide +kernel
theorem d_T_tellCosts_101 : decode b_T_tellCosts 101 = .ok (.invokevirtual 74, 3) := by decide +kernel
theorem d_T_tellCosts_104 : decode b_T_tellCosts 104 = .ok (.istore 6, 2) := by decide +kernel
theorem d_T_tellCosts_106 : decode b_T_tellCosts 106 = .ok (.aload_n 0, 1) := by decide +kernel
theorem d_T_tellCosts_107 : decode b_T_tellCosts 107 = .ok (.getfield 17, 3) := by decide +kernel
theorem d_T_tellCosts_110 : decode b_T_tellCosts 110 = .ok (.iload 4, 2) := by decide +kernel
theorem d_T_tellCosts_112 : decode b_T_tellCosts 112 = .ok (.aload_n 0, 1) := by decide +kernel
theorem d_T_tellCosts_113 : decode b_T_tellCosts 113 = .ok (.getfield 25, 3) := by decide +kernel
theorem d_T_tellCosts_116 : decode b_T_tellCosts 116 = .ok (.iload_n 2, 1) := by decide +kernel
theorem d_T_tellCosts_117 : decode b_T_tellCosts 117 = .ok (.iload_n 3, 1) := by decide +kernel
theorem d_T_tellCosts_118 : decode b_T_tellCosts 118 = .ok (.invokevirtual 74, 3) := by decide +kernel
theorem d_T_tellCosts_121 : decode b_T_tellCosts 121 = .ok (.istore 7, 2) := by decide +kernel
theorem d_T_tellCosts_123 : decode b_T_tellCosts 123 = .ok (.goto 154, 3) := by decide +kernel
theorem d_T_tellCosts_126 : decode b_T_tellCosts 126 = .ok (.aload_n 0, 1) := by decide +kernel
theorem d_T_tellCosts_127 : decode b_T_tellCosts 127 = .ok (.getfield 17, 3) := by decide +kernel
theorem d_T_tellCosts_130 : decode b_T_tellCosts 130 = .ok (.iload 4, 2) := by decide +kernel
theorem d_T_tellCosts_132 : decode b_T_tellCosts 132 = .ok (.aload_n 0, 1) := by decide +kernel
theorem d_T_tellCosts_133 : decode b_T_tellCosts 133 = .ok (.getfield 25, 3) := by decide +kernel
theorem d_T_tellCosts_136 : decode b_T_tellCosts 136 = .ok (.iload_n 3, 1) := by decide +kernel
theorem d_T_tellCosts_137 : decode b_T_tellCosts 137 = .ok (.iload_n 2, 1) := by decide +kernel
theorem d_T_tellCosts_138 : decode b_T_tellCosts 138 = .ok (.invokevirtual 74, 3) := by decide +kernel
theorem d_T_tellCosts_141 : decode b_T_tellCosts 141 = .ok (.aload_n 0, 1) := by decide +kernel
theorem d_T_tellCosts_142 : decode b_T_tellCosts 142 = .ok (.getfield 17, 3) := by decide +kernel
theorem d_T_tellCosts_145 : decode b_T_tellCosts 145 = .ok (.iload 4, 2) := by decide +kernel
theorem d_T_tellCosts_147 : decode b_T_tellCosts 147 = .ok (.aload_n 0, 1) := by decide +kernel
theorem d_T_tellCosts_148 : decode b_T_tellCosts 148 = .ok (.getfield 25, 3) := by decide +kernel
theorem d_T_tellCosts_151 : decode b_T_tellCosts 151 = .ok (.iload_n 3, 1) := by decide +kernel
theorem d_T_tellCosts_152 : decode b_T_tellCosts 152 = .ok (.iload_n 3, 1) := by decide +kernel
theorem d_T_tellCosts_153 : decode b_T_tellCosts 153 = .ok (.invokevirtual 74, 3) := by decide +kernel
theorem d_T_tellCosts_156 : decode b_T_tellCosts 156 = .ok (.invokestatic 78, 3) := by decide +kernel
theorem d_T_tellCosts_159 : decode b_T_tellCosts 159 = .ok (.istore 6, 2) := by decide +kernel
theorem d_T_tellCosts_161 : decode b_T_tellCosts 161 = .ok (.aload_n 0, 1) := by decide +kernel
theorem d_T_tellCosts_162 : decode b_T_tellCosts 162 = .ok (.getfield 17, 3) := by decide +kernel
theorem d_T_tellCosts_165 : decode b_T_tellCosts 165 = .ok (.iload 4, 2) := by decide +kernel
theorem d_T_tellCosts_167 : decode b_T_tellCosts 167 = .ok (.aload_n 0, 1) := by decide +kernel
theorem d_T_tellCosts_168 : decode b_T_tellCosts 168 = .ok (.getfield 25, 3) := by decide +kernel
theorem d_T_tellCosts_171 : decode b_T_tellCosts 171 = .ok (.iload_n 2, 1) := by decide +kernel
theorem d_T_tellCosts_172 : decode b_T_tellCosts 172 = .ok (.iload_n 2, 1) := by decide +kernel
theorem d_T_tellCosts_173 : decode b_T_tellCosts 173 = .ok (.invokevirtual 74, 3) := by decide +kernel
theorem d_T_tellCosts_176 : decode b_T_tellCosts 176 = .ok (.aload_n 0, 1) := by decide +kernel
theorem d_T_tellCosts_177 : decode b_T_tellCosts 177 = .ok (.getfield 17, 3) := by decide +kernel
theorem d_T_tellCosts_180 : decode b_T_tellCosts 180 = .ok (.iload 4, 2) := by decide +kernel
theorem d_T_tellCosts_182 : decode b_T_tellCosts 182 = .ok (.aload_n 0, 1) := by decide +kernel
theorem d_T_tellCosts_183 : decode b_T_tellCosts 183 = .ok (.getfield 25, 3) := by decide +kernel
theorem d_T_tellCosts_186 : decode b_T_tellCosts 186 = .ok (.iload_n 2, 1) := by decide +kernel
theorem d_T_tellCosts_187 : decode b_T_tellCosts 187 = .ok (.iload_n 3, 1) := by decide +kernel
theorem d_T_tellCosts_188 : decode b_T_tellCosts 188 = .ok (.invokevirtual 74, 3) := by decide +kernel
theorem d_T_tellCosts_191 : decode b_T_tellCosts 191 = .ok (.invokestatic 78, 3) := by decide +kernel
theorem d_T_tellCosts_194 : decode b_T_tellCosts 194 = .ok (.istore 7, 2) := by decide +kernel
theorem d_T_tellCosts_196 : decode b_T_tellCosts 196 = .ok (.goto 81, 3) := by decide +kernel
theorem d_T_tellCosts_199 : decode b_T_tellCosts 199 = .ok (.aload_n 0, 1) := by decide +kernel
theorem d_T_tellCosts_200 : decode b_T_tellCosts 200 = .ok (.getfield 17, 3) := by decide +kernel
theorem d_T_tellCosts_203 : decode b_T_tellCosts 203 = .ok (.iload 4, 2) := by decide +kernel
theorem d_T_tellCosts_205 : decode b_T_tellCosts 205 = .ok (.aload_n 0, 1) := by decide +kernel
theorem d_T_tellCosts_206 : decode b_T_tellCosts 206 = .ok (.getfield 25, 3) := by decide +kernel
theorem d_T_tellCosts_209 : decode b_T_tellCosts 209 = .ok (.iload_n 3, 1) := by decide +kernel
theorem d_T_tellCosts_210 : decode b_T_tellCosts 210 = .ok (.aload_n 0, 1) := by decide +kernel
theorem d_T_tellCosts_211 : decode b_T_tellCosts 211 = .ok (.getfield 21, 3) := by decide +kernel
theorem d_T_tellCosts_214 : decode b_T_tellCosts 214 = .ok (.iload_n 1, 1) := by decide +kernel
theorem d_T_tellCosts_215 : decode b_T_tellCosts 215 = .ok (.invokevirtual 82, 3) := by decide +kernel
theorem d_T_tellCosts_218 : decode b_T_tellCosts 218 = .ok (.invokevirtual 74, 3) := by decide +kernel
theorem d_T_tellCosts_221 : decode b_T_tellCosts 221 = .ok (.istore 6, 2) := by decide +kernel
theorem d_T_tellCosts_223 : decode b_T_tellCosts 223 = .ok (.aload_n 0, 1) := by decide +kernel
theorem d_T_tellCosts_224 : decode b_T_tellCosts 224 = .ok (.getfield 17, 3) := by decide +kernel
theorem d_T_tellCosts_227 : decode b_T_tellCosts 227 = .ok (.iload 4, 2) := by decide +kernel
theorem d_T_tellCosts_229 : decode b_T_tellCosts 229 = .ok (.aload_n 0, 1) := by decide +kernel
theorem d_T_tellCosts_230 : decode b_T_tellCosts 230 = .ok (.getfield 25, 3) := by decide +kernel
theorem d_T_tellCosts_233 : decode b_T_tellCosts 233 = .ok (.iload_n 2, 1) := by decide +kernel
theorem d_T_tellCosts_234 : decode b_T_tellCosts 234 = .ok (.aload_n 0, 1) := by decide +kernel
theorem d_T_tellCosts_235 : decode b_T_tellCosts 235 = .ok (.getfield 21, 3) := by decide +kernel
theorem d_T_tellCosts_238 : decode b_T_tellCosts 238 = .ok (.iload_n 1, 1) := by decide +kernel
theorem d_T_tellCosts_239 : decode b_T_tellCosts 239 = .ok (.invokevirtual 82, 3) := by decide +kernel
theorem d_T_tellCosts_242 : decode b_T_tellCosts 242 = .ok (.invokevirtual 74, 3) := by decide +kernel
theorem d_T_tellCosts_245 : decode b_T_tellCosts 245 = .ok (.istore 7, 2) := by decide +kernel
theorem d_T_tellCosts_247 : decode b_T_tellCosts 247 = .ok (.goto 30, 3) := by decide +kernel
theorem d_T_tellCosts_250 : decode b_T_tellCosts 250 = .ok (.aload_n 0, 1) := by decide +kernel
theorem d_T_tellCosts_251 : decode b_T_tellCosts 251 = .ok (.getfield 17, 3) := by decide +kernel
theorem d_T_tellCosts_254 : decode b_T_tellCosts 254 = .ok (.iload 4, 2) := by decide +kernel
theorem d_T_tellCosts_256 : decode b_T_tellCosts 256 = .ok (.iload_n 3, 1) := by decide +kernel
theorem d_T_tellCosts_257 : decode b_T_tellCosts 257 = .ok (.invokevirtual 85, 3) := by decide +kernel
theorem d_T_tellCosts_260 : decode b_T_tellCosts 260 = .ok (.istore 6, 2) := by decide +kernel
theorem d_T_tellCosts_262 : decode b_T_tellCosts 262 = .ok (.aload_n 0, 1) := by decide +kernel
theorem d_T_tellCosts_263 : decode b_T_tellCosts 263 = .ok (.getfield 17, 3) := by decide +kernel
theorem d_T_tellCosts_266 : decode b_T_tellCosts 266 = .ok (.iload 4, 2) := by decide +kernel
theorem d_T_tellCosts_268 : decode b_T_tellCosts 268 = .ok (.iload_n 2, 1) := by decide +kernel
theorem d_T_tellCosts_269 : decode b_T_tellCosts 269 = .ok (.invokevirtual 85, 3) := by decide +kernel
theorem d_T_tellCosts_272 : decode b_T_tellCosts 272 = .ok (.istore 7, 2) := by decide +kernel
theorem d_T_tellCosts_274 : decode b_T_tellCosts 274 = .ok (.goto 3, 3) := by decide +kernel
theorem d_T_tellCosts_277 : decode b_T_tellCosts 277 = .ok (.aload 5, 2) := by decide +kernel
theorem d_T_tellCosts_279 : decode b_T_tellCosts 279 = .ok (.iload 6, 2) := by decide +kernel
theorem d_T_tellCosts_281 : decode b_T_tellCosts 281 = .ok (.i2l, 1) := by decide +kernel
theorem d_T_tellCosts_282 : decode b_T_tellCosts 282 = .ok (.iload 7, 2) := by decide +kernel
theorem d_T_tellCosts_284 : decode b_T_tellCosts 284 = .ok (.i2l, 1) := by decide +kernel
theorem d_T_tellCosts_285 : decode b_T_tellCosts 285 = .ok (.invokevirtual 88, 3) := by decide +kernel
theorem d_T_tellCosts_288 : decode b_T_tellCosts 288 = .ok (.return_, 1) := by decide +kernel
theorem d_T_tellTerm_0 : decode b_T_tellTerm 0 = .ok (.iload 5, 2) := by decide +kernel
theorem d_T_tellTerm_2 : decode b_T_tellTerm 2 = .ok (.bipush 8, 2) := by decide +kernel
theorem d_T_tellTerm_4 : decode b_T_tellTerm 4 = .ok (.if_icmp .gt 17, 3) := by decide +kernel
theorem d_T_tellTerm_7 : decode b_T_tellTerm 7 = .ok (.aload_n 0, 1) := by decide +kernel
theorem d_T_tellTerm_8 : decode b_T_tellTerm 8 = .ok (.getfield 21, 3) := by decide +kernel
theorem d_T_tellTerm_11 : decode b_T_tellTerm 11 = .ok (.ifnull 10, 3) := by decide +kernel
theorem d_T_tellTerm_14 : decode b_T_tellTerm 14 = .ok (.aload_n 0, 1) := by decide +kernel
theorem d_T_tellTerm_15 : decode b_T_tellTerm 15 = .ok (.getfield 17, 3) := by decide +kernel
theorem d_T_tellTerm_18 : decode b_T_tellTerm 18 = .ok (.ifnonnull 12, 3) := by decide +kernel
theorem d_T_tellTerm_21 : decode b_T_tellTerm 21 = .ok (.aload 6, 2) := by decide +kernel
theorem d_T_tellTerm_23 : decode b_T_tellTerm 23 = .ok (.sipush (-1003), 3) := by decide +kernel
theorem d_T_tellTerm_26 : decode b_T_tellTerm 26 = .ok (.invokevirtual 47, 3) := by decide +kernel
theorem d_T_tellTerm_29 : decode b_T_tellTerm 29 = .ok (.return_, 1) := by decide +kernel
theorem d_T_tellTerm_30 : decode b_T_tellTerm 30 = .ok (.aload_n 0, 1) := by decide +kernel
theorem d_T_tellTerm_31 : decode b_T_tellTerm 31 = .ok (.getfield 21, 3) := by decide +kernel
theorem d_T_tellTerm_34 : decode b_T_tellTerm 34 = .ok (.iload_n 1, 1) := by decide +kernel
theorem d_T_tellTerm_35 : decode b_T_tellTerm 35 = .ok (.invokevirtual 51, 3) := by decide +kernel
theorem d_T_tellTerm_38 : decode b_T_tellTerm 38 = .ok (.istore 7, 2) := by decide +kernel
theorem d_T_tellTerm_40 : decode b_T_tellTerm 40 = .ok (.iload 7, 2) := by decide +kernel
theorem d_T_tellTerm_42 : decode b_T_tellTerm 42 = .ok (.tableswitch 164 4 12 #[50, 164, 63, 63, 63, 63, 79, 104, 122], 50) := by decide +kernel
theorem d_T_tellTerm_92 : decode b_T_tellTerm 92 = .ok (.aload_n 0, 1) := by decide +kernel
theorem d_T_tellTerm_93 : decode b_T_tellTerm 93 = .ok (.iload_n 2, 1) := by decide +kernel
theorem d_T_tellTerm_94 : decode b_T_tellTerm 94 = .ok (.iload_n 3, 1) := by decide +kernel
theorem d_T_tellTerm_95 : decode b_T_tellTerm 95 = .ok (.iload 4, 2) := by decide +kernel
theorem d_T_tellTerm_97 : decode b_T_tellTerm 97 = .ok (.aload 6, 2) := by decide +kernel
theorem d_T_tellTerm_99 : decode b_T_tellTerm 99 = .ok (.invokevirtual 57, 3) := by decide +kernel
theorem d_T_tellTerm_102 : decode b_T_tellTerm 102 = .ok (.goto 115, 3) := by decide +kernel
theorem d_T_tellTerm_105 : decode b_T_tellTerm 105 = .ok (.aload_n 0, 1) := by decide +kernel
theorem d_T_tellTerm_106 : decode b_T_tellTerm 106 = .ok (.iload_n 1, 1) := by decide +kernel
theorem d_T_tellTerm_107 : decode b_T_tellTerm 107 = .ok (.iload_n 2, 1) := by decide +kernel
theorem d_T_tellTerm_108 : decode b_T_tellTerm 108 = .ok (.iload_n 3, 1) := by decide +kernel
theorem d_T_tellTerm_109 : decode b_T_tellTerm 109 = .ok (.iload 4, 2) := by decide +kernel
theorem d_T_tellTerm_111 : decode b_T_tellTerm 111 = .ok (.iload 5, 2) := by decide +kernel
theorem d_T_tellTerm_113 : decode b_T_tellTerm 113 = .ok (.aload 6, 2) := by decide +kernel
theorem d_T_tellTerm_115 : decode b_T_tellTerm 115 = .ok (.invokevirtual 61, 3) := by decide +kernel
theorem d_T_tellTerm_118 : decode b_T_tellTerm 118 = .ok (.goto 99, 3) := by decide +kernel
theorem d_T_tellTerm_121 : decode b_T_tellTerm 121 = .ok (.aload_n 0, 1) := by decide +kernel
theorem d_T_tellTerm_122 : decode b_T_tellTerm 122 = .ok (.iload_n 1, 1) := by decide +kernel
theorem d_T_tellTerm_123 : decode b_T_tellTerm 123 = .ok (.iconst 1, 1) := by decide +kernel
theorem d_T_tellTerm_124 : decode b_T_tellTerm 124 = .ok (.iadd, 1) := by decide +kernel
theorem d_T_tellTerm_125 : decode b_T_tellTerm 125 = .ok (.iload_n 3, 1) := by decide +kernel
theorem d_T_tellTerm_126 : decode b_T_tellTerm 126 = .ok (.iload_n 2, 1) := by decide +kernel
theorem d_T_tellTerm_127 : decode b_T_tellTerm 127 = .ok (.iload 4, 2) := by decide +kernel
theorem d_T_tellTerm_129 : decode b_T_tellTerm 129 = .ok (.iload 5, 2) := by decide +kernel
theorem d_T_tellTerm_131 : decode b_T_tellTerm 131 = .ok (.iconst 1, 1) := by decide +kernel
theorem d_T_tellTerm_132 : decode b_T_tellTerm 132 = .ok (.iadd, 1) := by decide +kernel
theorem d_T_tellTerm_133 : decode b_T_tellTerm 133 = .ok (.aload 6, 2) := by decide +kernel
theorem d_T_tellTerm_135 : decode b_T_tellTerm 135 = .ok (.invokevirtual 40, 3) := by decide +kernel
theorem d_T_tellTerm_138 : decode b_T_tellTerm 138 = .ok (.aload 6, 2) := by decide +kernel
theorem d_T_tellTerm_140 : decode b_T_tellTerm 140 = .ok (.invokevirtual 64, 3) := by decide +kernel
theorem d_T_tellTerm_143 : decode b_T_tellTerm 143 = .ok (.goto 74, 3) := by decide +kernel
theorem d_T_tellTerm_146 : decode b_T_tellTerm 146 = .ok (.aload_n 0, 1) := by decide +kernel
theorem d_T_tellTerm_147 : decode b_T_tellTerm 147 = .ok (.iload_n 1, 1) := by decide +kernel
theorem d_T_tellTerm_148 : decode b_T_tellTerm 148 = .ok (.iconst 1, 1) := by decide +kernel
theorem d_T_tellTerm_149 : decode b_T_tellTerm 149 = .ok (.iadd, 1) := by decide +kernel
theorem d_T_tellTerm_150 : decode b_T_tellTerm 150 = .ok (.iload_n 2, 1) := by decide +kernel
theorem d_T_tellTerm_151 : decode b_T_tellTerm 151 = .ok (.iload_n 3, 1) := by decide +kernel
theorem d_T_tellTerm_152 : decode b_T_tellTerm 152 = .ok (.iload 4, 2) := by decide +kernel
theorem d_T_tellTerm_154 : decode b_T_tellTerm 154 = .ok (.iload 5, 2) := by decide +kernel
theorem d_T_tellTerm_156 : decode b_T_tellTerm 156 = .ok (.aload 6, 2) := by decide +kernel
theorem d_T_tellTerm_158 : decode b_T_tellTerm 158 = .ok (.invokevirtual 44, 3) := by decide +kernel
theorem d_T_tellTerm_161 : decode b_T_tellTerm 161 = .ok (.goto 56, 3) := by decide +kernel
theorem d_T_tellTerm_164 : decode b_T_tellTerm 164 = .ok (.iload 4, 2) := by decide +kernel
theorem d_T_tellTerm_166 : decode b_T_tellTerm 166 = .ok (.aload_n 0, 1) := by decide +kernel
theorem d_T_tellTerm_167 : decode b_T_tellTerm 167 = .ok (.getfield 17, 3) := by decide +kernel
theorem d_T_tellTerm_170 : decode b_T_tellTerm 170 = .ok (.iload_n 2, 1) := by decide +kernel
theorem d_T_tellTerm_171 : decode b_T_tellTerm 171 = .ok (.invokevirtual 67, 3) := by decide +kernel
theorem d_T_tellTerm_174 : decode b_T_tellTerm 174 = .ok (.iand, 1) := by decide +kernel
theorem d_T_tellTerm_175 : decode b_T_tellTerm 175 = .ok (.aload_n 0, 1) := by decide +kernel
theorem d_T_tellTerm_176 : decode b_T_tellTerm 176 = .ok (.getfield 17, 3) := by decide +kernel
theorem d_T_tellTerm_179 : decode b_T_tellTerm 179 = .ok (.iload_n 3, 1) := by decide +kernel
theorem d_T_tellTerm_180 : decode b_T_tellTerm 180 = .ok (.invokevirtual 67, 3) := by decide +kernel
theorem d_T_tellTerm_183 : decode b_T_tellTerm 183 = .ok (.iand, 1) := by decide +kernel
theorem d_T_tellTerm_184 : decode b_T_tellTerm 184 = .ok (.istore 8, 2) := by decide +kernel
theorem d_T_tellTerm_186 : decode b_T_tellTerm 186 = .ok (.aload_n 0, 1) := by decide +kernel
theorem d_T_tellTerm_187 : decode b_T_tellTerm 187 = .ok (.iload_n 1, 1) := by decide +kernel
theorem d_T_tellTerm_188 : decode b_T_tellTerm 188 = .ok (.iconst 1, 1) := by decide +kernel
theorem d_T_tellTerm_189 : decode b_T_tellTerm 189 = .ok (.iadd, 1) := by decide +kernel
theorem d_T_tellTerm_190 : decode b_T_tellTerm 190 = .ok (.iload_n 2, 1) := by decide +kernel
theorem d_T_tellTerm_191 : decode b_T_tellTerm 191 = .ok (.iload_n 3, 1) := by decide +kernel
theorem d_T_tellTerm_192 : decode b_T_tellTerm 192 = .ok (.iload 8, 2) := by decide +kernel
theorem d_T_tellTerm_194 : decode b_T_tellTerm 194 = .ok (.iload 5, 2) := by decide +kernel
theorem d_T_tellTerm_196 : decode b_T_tellTerm 196 = .ok (.iconst 1, 1) := by decide +kernel
theorem d_T_tellTerm_197 : decode b_T_tellTerm 197 = .ok (.iadd, 1) := by decide +kernel
theorem d_T_tellTerm_198 : decode b_T_tellTerm 198 = .ok (.aload 6, 2) := by decide +kernel
theorem d_T_tellTerm_200 : decode b_T_tellTerm 200 = .ok (.invokevirtual 40, 3) := by decide +kernel
theorem d_T_tellTerm_203 : decode b_T_tellTerm 203 = .ok (.goto 14, 3) := by decide +kernel
theorem d_T_tellTerm_206 : decode b_T_tellTerm 206 = .ok (.aload_n 0, 1) := by decide +kernel
theorem d_T_tellTerm_207 : decode b_T_tellTerm 207 = .ok (.iload_n 1, 1) := by decide +kernel
theorem d_T_tellTerm_208 : decode b_T_tellTerm 208 = .ok (.iload_n 2, 1) := by decide +kernel
theorem d_T_tellTerm_209 : decode b_T_tellTerm 209 = .ok (.iload_n 3, 1) := by decide +kernel
theorem d_T_tellTerm_210 : decode b_T_tellTerm 210 = .ok (.iload 4, 2) := by decide +kernel
theorem d_T_tellTerm_212 : decode b_T_tellTerm 212 = .ok (.aload 6, 2) := by decide +kernel
theorem d_T_tellTerm_214 : decode b_T_tellTerm 214 = .ok (.invokevirtual 70, 3) := by decide +kernel
theorem d_T_tellTerm_217 : decode b_T_tellTerm 217 = .ok (.return_, 1) := by decide +kernel
theorem d_T_tell_0 : decode b_T_tell 0 = .ok (.aload_n 0, 1) := by decide +kernel
theorem d_T_tell_1 : decode b_T_tell 1 = .ok (.aload_n 1, 1) := by decide +kernel
theorem d_T_tell_2 : decode b_T_tell 2 = .ok (.aload_n 2, 1) := by decide +kernel
theorem d_T_tell_3 : decode b_T_tell 3 = .ok (.iload_n 3, 1) := by decide +kernel
theorem d_T_tell_4 : decode b_T_tell 4 = .ok (.aload 6, 2) := by decide +kernel
theorem d_T_tell_6 : decode b_T_tell 6 = .ok (.invokevirtual 30, 3) := by decide +kernel
theorem d_T_tell_9 : decode b_T_tell 9 = .ok (.ifCond .eq 19, 3) := by decide +kernel
theorem d_T_tell_12 : decode b_T_tell 12 = .ok (.aload_n 0, 1) := by decide +kernel
theorem d_T_tell_13 : decode b_T_tell 13 = .ok (.iconst 0, 1) := by decide +kernel
theorem d_T_tell_14 : decode b_T_tell 14 = .ok (.iload 4, 2) := by decide +kernel
theorem d_T_tell_16 : decode b_T_tell 16 = .ok (.iload 5, 2) := by decide +kernel
theorem d_T_tell_18 : decode b_T_tell 18 = .ok (.aload_n 2, 1) := by decide +kernel
theorem d_T_tell_19 : decode b_T_tell 19 = .ok (.invokevirtual 34, 3) := by decide +kernel
theorem d_T_tell_22 : decode b_T_tell 22 = .ok (.iconst 0, 1) := by decide +kernel
theorem d_T_tell_23 : decode b_T_tell 23 = .ok (.aload 6, 2) := by decide +kernel
theorem d_T_tell_25 : decode b_T_tell 25 = .ok (.invokevirtual 40, 3) := by decide +kernel
theorem d_T_tell_28 : decode b_T_tell 28 = .ok (.return_, 1) := by decide +kernel
theorem d_T_tellLinked_0 : decode b_T_tellLinked 0 = .ok (.aload_n 0, 1) := by decide +kernel
theorem d_T_tellLinked_1 : decode b_T_tellLinked 1 = .ok (.aload_n 1, 1) := by decide +kernel
theorem d_T_tellLinked_2 : decode b_T_tellLinked 2 = .ok (.aload_n 2, 1) := by decide +kernel
theorem d_T_tellLinked_3 : decode b_T_tellLinked 3 = .ok (.iload_n 3, 1) := by decide +kernel
theorem d_T_tellLinked_4 : decode b_T_tellLinked 4 = .ok (.aload 6, 2) := by decide +kernel
theorem d_T_tellLinked_6 : decode b_T_tellLinked 6 = .ok (.invokevirtual 30, 3) := by decide +kernel
theorem d_T_tellLinked_9 : decode b_T_tellLinked 9 = .ok (.ifCond .eq 19, 3) := by decide +kernel
theorem d_T_tellLinked_12 : decode b_T_tellLinked 12 = .ok (.aload_n 0, 1) := by decide +kernel
theorem d_T_tellLinked_13 : decode b_T_tellLinked 13 = .ok (.iconst 0, 1) := by decide +kernel
theorem d_T_tellLinked_14 : decode b_T_tellLinked 14 = .ok (.iload 4, 2) := by decide +kernel
theorem d_T_tellLinked_16 : decode b_T_tellLinked 16 = .ok (.iload 5, 2) := by decide +kernel
theorem d_T_tellLinked_18 : decode b_T_tellLinked 18 = .ok (.aload_n 2, 1) := by decide +kernel
theorem d_T_tellLinked_19 : decode b_T_tellLinked 19 = .ok (.invokevirtual 34, 3) := by decide +kernel
theorem d_T_tellLinked_22 : decode b_T_tellLinked 22 = .ok (.iconst 0, 1) := by decide +kernel
theorem d_T_tellLinked_23 : decode b_T_tellLinked 23 = .ok (.aload 6, 2) := by decide +kernel
theorem d_T_tellLinked_25 : decode b_T_tellLinked 25 = .ok (.invokevirtual 44, 3) := by decide +kernel
theorem d_T_tellLinked_28 : decode b_T_tellLinked 28 = .ok (.return_, 1) := by decide +kernel
def f_T_isReady_15 (this : Nat) (x4 : Nat) (h : Hp) : Option ((Int32 × Hp)) :=
  (f_F_refuse x4 (-1003 : Int32) h).bind fun h2 =>
  some ((0 : Int32), h2)
set_option maxRecDepth 100000 in
set_option maxHeartbeats 4000000 in
theorem w_T_isReady_15 {p : Program} {l : Launch} {e : Env} {s : State} {m : MethodId} {args : Array Value} {below : List Frame} {meth : Method} {c : Code} {N0 : Nat} {D : va_G} {cs : Nat → ClassId} (M : ZC p s m args meth c "YearBaskets$Teller" "isReady" b_T_isReady 5 (some .boolean) N0 D cs) (this : Nat)  {r0 : Int32} {h0 : Hp}  (x4 : Nat) (h : Hp) (hf : f_T_isReady_15 this x4 h = some (r0, h0)) : ZG p l e (zrm 2 0 0) s m args below meth c N0 D cs (some (.int r0)) h0 h 5 [(4, .ref x4)] 15 [] := by
  intro H locs ls hH hS hl
  unfold f_T_isReady_15 at hf
  refine lv_aload M.x M.b d_T_isReady_15 (lv_at hl 0 rfl) ?_
  refine lv_sipush (v := (-1003 : Int32)) M.x M.b d_T_isReady_17 rfl ?_
  replace hf := z_bind hf; obtain ⟨h2, e1, hf⟩ := hf
  refine zk_V (ci := 1) (st1 := []) M hH hS (c_F_refuse e1) rfl (o_F_refuse e1) w_F_refuse q_173 [] rfl ⟨Nat.le_of_ble_eq_true rfl, Nat.le_of_ble_eq_true rfl⟩ hl.1 rfl rfl (Nat.le_of_ble_eq_true rfl) d_T_isReady_20 (fun H locs hH hS => ?_)
  refine lv_iconst (v := (0 : Int32)) M.x M.b d_T_isReady_23 rfl ?_
  obtain ⟨rfl, rfl⟩ := z_r2 hf
  exact z_zret M hH hS (by decide) d_T_isReady_24
def f_T_isReady (this : Nat) (x1 : Nat) (x2 : Nat) (x3 : Int32) (x4 : Nat) (h : Hp) : Option ((Int32 × Hp)) :=
  if isO h this 6 = true then
  (pV h this 6 2 (.ref x1)).bind fun h3 =>
  (pV h3 this 6 1 (.ref x2)).bind fun h5 =>
  (pV h5 this 6 3 (.int x3)).bind fun h7 =>
  some ((1 : Int32), h7)
  else none
theorem o_T_isReady {this : Nat} {x1 : Nat} {x2 : Nat} {x3 : Int32} {x4 : Nat} {h : Hp} {r0 : Int32} {h0 : Hp} (hf : f_T_isReady this x1 x2 x3 x4 h = some (r0, h0)) : isO h this 6 = true := by
  unfold f_T_isReady at hf
  exact (z_gd hf).1
set_option maxRecDepth 100000 in
set_option maxHeartbeats 4000000 in
theorem c_T_isReady {l : Launch} {N0 : Nat} {D : va_G} {cs : Nat → ClassId} {this : Nat} {x1 : Nat} {x2 : Nat} {x3 : Int32} {x4 : Nat} {h : Hp} {r0 : Int32} {h0 : Hp} (hf : f_T_isReady this x1 x2 x3 x4 h = some (r0, h0)) : Fn l N0 D cs y_T_isReady b_T_isReady 5 (some .boolean) 2 0 0 [.ref this, .ref x1, .ref x2, .int x3, .ref x4] h (some (.int r0)) h0 := by
  refine z_start (by decide) (Nat.le_of_ble_eq_true rfl) ?_
  intro p e s m args below meth c M hH hS ls hl
  unfold f_T_isReady at hf
  obtain ⟨hO, hf⟩ := z_gd hf
  have hl : lv_has ls 5 [(0, .ref this), (1, .ref x1), (2, .ref x2), (3, .int x3), (4, .ref x4)] := hl
  obtain ⟨H, hHe⟩ : ∃ H, H = s.heap := ⟨_, rfl⟩
  obtain ⟨locs, hLe⟩ : ∃ locs : List Loc, locs = [] := ⟨_, rfl⟩
  have hS : va_S (zA N0) s.heap H locs := by rw [hHe, hLe]; exact hS
  have hH : HH N0 D cs h H := by rw [hHe]; exact hH
  suffices hg : W p l e (zrm 2 0 0) s m args below meth c H locs 0 0 (MQ below (zQ N0 D cs (some (.int r0)) h0) args s 0 0 (zA N0)) (F0 m 0 ls []) by rw [hHe, hLe] at hg; exact hg
  clear hHe hLe
  refine lv_aload M.x M.b d_T_isReady_0 (lv_at hl 4 rfl) ?_
  refine lv_ifnonnull (tgt := 7) M.x M.b d_T_isReady_2 (by decide) ?_
  refine lv_aload_n M.x M.b d_T_isReady_7 rfl (lv_at hl 1 rfl) ?_
  refine lv_ifnull M.x M.b d_T_isReady_8 ?_
  refine lv_aload_n M.x M.b d_T_isReady_11 rfl (lv_at hl 2 rfl) ?_
  refine lv_ifnonnull (tgt := 25) M.x M.b d_T_isReady_12 (by decide) ?_
  refine lv_aload_n M.x M.b d_T_isReady_25 rfl (lv_at hl 0 rfl) ?_
  refine lv_aload_n M.x M.b d_T_isReady_26 rfl (lv_at hl 1 rfl) ?_
  replace hf := z_bind hf; obtain ⟨h3, e4, hf⟩ := hf
  refine z_put (ci := 6) (k := 2) M hH hS rfl (by decide) zinT zYT zYT_ok zNT_ok rfl q_176 rfl rfl rfl e4 d_T_isReady_27 (fun H locs hH hS => ?_)
  refine lv_aload_n M.x M.b d_T_isReady_30 rfl (lv_at hl 0 rfl) ?_
  refine lv_aload_n M.x M.b d_T_isReady_31 rfl (lv_at hl 2 rfl) ?_
  replace hf := z_bind hf; obtain ⟨h5, e6, hf⟩ := hf
  refine z_put (ci := 6) (k := 1) M hH hS rfl (by decide) zinT zYT zYT_ok zNT_ok rfl q_175 rfl rfl rfl e6 d_T_isReady_32 (fun H locs hH hS => ?_)
  refine lv_aload_n M.x M.b d_T_isReady_35 rfl (lv_at hl 0 rfl) ?_
  refine lv_iload_n M.x M.b d_T_isReady_36 rfl (lv_at hl 3 rfl) ?_
  replace hf := z_bind hf; obtain ⟨h7, e8, hf⟩ := hf
  refine z_put (ci := 6) (k := 3) M hH hS rfl (by decide) zinT zYT zYT_ok zNT_ok rfl q_174 rfl rfl rfl e8 d_T_isReady_37 (fun H locs hH hS => ?_)
  refine lv_iconst (v := (1 : Int32)) M.x M.b d_T_isReady_40 rfl ?_
  obtain ⟨rfl, rfl⟩ := z_r2 hf
  exact z_zret M hH hS (by decide) d_T_isReady_41
def f_T_tellPlain_89 (this : Nat) (k13 : Int32 → Int32 → Int32 → Nat → Int32 → Int32 → Hp → Option (Hp)) (x1 : Int32) (x2 : Int32) (x3 : Int32) (x4 : Nat) (x5 : Int32) (x6 : Int32) (h : Hp) : Option (Hp) :=
  k13 x1 x2 x3 x4 x5 (x6 + (1 : Int32)) h
set_option maxRecDepth 100000 in
set_option maxHeartbeats 4000000 in
theorem w_T_tellPlain_89 {p : Program} {l : Launch} {e : Env} {s : State} {m : MethodId} {args : Array Value} {below : List Frame} {meth : Method} {c : Code} {N0 : Nat} {D : va_G} {cs : Nat → ClassId} (M : ZC p s m args meth c "YearBaskets$Teller" "tellPlain" b_T_tellPlain 9 (none) N0 D cs) (this : Nat) (k13 : Int32 → Int32 → Int32 → Nat → Int32 → Int32 → Hp → Option (Hp)) {h0 : Hp} (hk13 : ∀ (x1 : Int32) (x2 : Int32) (x3 : Int32) (x4 : Nat) (x5 : Int32) (x6 : Int32) (h : Hp), k13 x1 x2 x3 x4 x5 x6 h = some h0 → ZG p l e (zrm 3 0 0) s m args below meth c N0 D cs none h0 h 9 [(0, .ref this), (1, .int x1), (2, .int x2), (3, .int x3), (4, .ref x4), (5, .int x5), (6, .int x6)] 13 []) (x1 : Int32) (x2 : Int32) (x3 : Int32) (x4 : Nat) (x5 : Int32) (x6 : Int32) (h : Hp) (hf : f_T_tellPlain_89 this k13 x1 x2 x3 x4 x5 x6 h = some h0) : ZG p l e (zrm 3 0 0) s m args below meth c N0 D cs none h0 h 9 [(0, .ref this), (1, .int x1), (2, .int x2), (3, .int x3), (4, .ref x4), (5, .int x5), (6, .int x6)] 89 [] := by
  intro H locs ls hH hS hl
  unfold f_T_tellPlain_89 at hf
  refine lv_iinc (v := (x6 + (1 : Int32))) (lv' := [(6, .int (x6 + (1 : Int32))), (0, .ref this), (1, .int x1), (2, .int x2), (3, .int x3), (4, .ref x4), (5, .int x5)]) M.x M.b d_T_tellPlain_89 hl (k := 6) rfl rfl (by decide) rfl (fun ls hl => ?_)
  refine lv_goto (tgt := 13) M.x M.b d_T_tellPlain_92 (by decide) ?_
  exact hk13 _ _ _ _ _ _ _ hf H locs ls hH hS (lv_sub hl [1, 2, 3, 4, 5, 6, 0] rfl)
def f_T_tellPlain_65 (this : Nat) (x4 : Nat) (h : Hp) : Option (Hp) :=
  (f_F_refuse x4 (-1003 : Int32) h).bind fun h2 =>
  some h2
set_option maxRecDepth 100000 in
set_option maxHeartbeats 4000000 in
theorem w_T_tellPlain_65 {p : Program} {l : Launch} {e : Env} {s : State} {m : MethodId} {args : Array Value} {below : List Frame} {meth : Method} {c : Code} {N0 : Nat} {D : va_G} {cs : Nat → ClassId} (M : ZC p s m args meth c "YearBaskets$Teller" "tellPlain" b_T_tellPlain 9 (none) N0 D cs) (this : Nat)  {h0 : Hp}  (x4 : Nat) (h : Hp) (hf : f_T_tellPlain_65 this x4 h = some h0) : ZG p l e (zrm 3 0 0) s m args below meth c N0 D cs none h0 h 9 [(4, .ref x4)] 65 [] := by
  intro H locs ls hH hS hl
  unfold f_T_tellPlain_65 at hf
  refine lv_aload M.x M.b d_T_tellPlain_65 (lv_at hl 0 rfl) ?_
  refine lv_sipush (v := (-1003 : Int32)) M.x M.b d_T_tellPlain_67 rfl ?_
  replace hf := z_bind hf; obtain ⟨h2, e1, hf⟩ := hf
  refine zk_V (ci := 1) (st1 := []) M hH hS (c_F_refuse e1) rfl (o_F_refuse e1) w_F_refuse q_173 [] rfl ⟨Nat.le_of_ble_eq_true rfl, Nat.le_of_ble_eq_true rfl⟩ hl.1 rfl rfl (Nat.le_of_ble_eq_true rfl) d_T_tellPlain_70 (fun H locs hH hS => ?_)
  obtain rfl := z_r1 hf
  exact z_vret M hH hS d_T_tellPlain_73
def t_T_tellPlain_13 (this : Nat) (k13 : Int32 → Int32 → Int32 → Nat → Int32 → Int32 → Hp → Option (Hp)) (x1 : Int32) (x2 : Int32) (x3 : Int32) (x4 : Nat) (x5 : Int32) (x6 : Int32) (h : Hp) : Option (Hp) :=
  if (5 : Int32) ≤ x6 then
    (gI h x4 1 3).bind fun i3 =>
    if i3 = 0 then
      (gL h x4 1 0).bind fun l5 =>
      (gL h x4 1 1).bind fun l7 =>
      (f_F_put x4 l5 (l7 * (x5).toInt64) h).bind fun h10 =>
      some h10
    else
    some h
  else
  if ((x3 >>> (x6 &&& 31)) &&& (1 : Int32)) = 0 then
    f_T_tellPlain_89 this k13 x1 x2 x3 x4 x5 x6 h
  else
  (gA h this 6 1).bind fun r12 =>
  (r12).bind fun a14 =>
  (f_B_priceOf a14 h x1 x6).bind fun i17 =>
  (gA h this 6 1).bind fun r18 =>
  (r18).bind fun a20 =>
  (f_B_priceOf a20 h x2 x6).bind fun i23 =>
  if i17 = 0 then
    f_T_tellPlain_65 this x4 h
  else
  if i23 = 0 then
    f_T_tellPlain_65 this x4 h
  else
  (f_F_addAndShare x4 (i23).toInt64 (i17).toInt64 (1 : Int32) h).bind fun h25 =>
  f_T_tellPlain_89 this k13 x1 x2 x3 x4 (x5 + (1 : Int32)) x6 h25
set_option maxRecDepth 100000 in
set_option maxHeartbeats 4000000 in
theorem v_T_tellPlain_13 {p : Program} {l : Launch} {e : Env} {s : State} {m : MethodId} {args : Array Value} {below : List Frame} {meth : Method} {c : Code} {N0 : Nat} {D : va_G} {cs : Nat → ClassId} (M : ZC p s m args meth c "YearBaskets$Teller" "tellPlain" b_T_tellPlain 9 (none) N0 D cs) (this : Nat) (k13 : Int32 → Int32 → Int32 → Nat → Int32 → Int32 → Hp → Option (Hp)) {h0 : Hp} (hk13 : ∀ (x1 : Int32) (x2 : Int32) (x3 : Int32) (x4 : Nat) (x5 : Int32) (x6 : Int32) (h : Hp), k13 x1 x2 x3 x4 x5 x6 h = some h0 → ZG p l e (zrm 3 0 0) s m args below meth c N0 D cs none h0 h 9 [(0, .ref this), (1, .int x1), (2, .int x2), (3, .int x3), (4, .ref x4), (5, .int x5), (6, .int x6)] 13 []) (x1 : Int32) (x2 : Int32) (x3 : Int32) (x4 : Nat) (x5 : Int32) (x6 : Int32) (h : Hp) (hf : t_T_tellPlain_13 this k13 x1 x2 x3 x4 x5 x6 h = some h0) : ZG p l e (zrm 3 0 0) s m args below meth c N0 D cs none h0 h 9 [(0, .ref this), (1, .int x1), (2, .int x2), (3, .int x3), (4, .ref x4), (5, .int x5), (6, .int x6)] 13 [] := by
  intro H locs ls hH hS hl
  unfold t_T_tellPlain_13 at hf
  refine lv_iload M.x M.b d_T_tellPlain_13 (lv_at hl 6 rfl) ?_
  refine lv_iconst (v := (5 : Int32)) M.x M.b d_T_tellPlain_15 rfl ?_
  refine lv_icmp_ge (tgt := 95) M.x M.b d_T_tellPlain_16 (by decide) (fun c29 => ?_) (fun c29 => ?_)
  · replace hf := z_t c29 hf
    refine lv_aload M.x M.b d_T_tellPlain_95 (lv_at hl 4 rfl) ?_
    replace hf := z_bind hf; obtain ⟨i3, e4, hf⟩ := hf
    refine z_getN (ci := 1) (k := 3) M hH rfl (by decide) zinF q_183 (gI_spec e4) d_T_tellPlain_97 ?_
    refine lv_if_ne (tgt := 122) M.x M.b d_T_tellPlain_100 (by decide) (fun c11 => ?_) (fun c11 => ?_)
    · replace hf := z_f c11 hf
      obtain rfl := z_r1 hf
      exact z_vret M hH hS d_T_tellPlain_122
    · replace hf := z_t c11 hf
      refine lv_aload M.x M.b d_T_tellPlain_103 (lv_at hl 4 rfl) ?_
      refine lv_aload M.x M.b d_T_tellPlain_105 (lv_at hl 4 rfl) ?_
      replace hf := z_bind hf; obtain ⟨l5, e6, hf⟩ := hf
      refine z_getN (ci := 1) (k := 0) M hH rfl (by decide) zinF q_182 (gL_spec e6) d_T_tellPlain_107 ?_
      refine lv_aload M.x M.b d_T_tellPlain_110 (lv_at hl 4 rfl) ?_
      replace hf := z_bind hf; obtain ⟨l7, e8, hf⟩ := hf
      refine z_getN (ci := 1) (k := 1) M hH rfl (by decide) zinF q_181 (gL_spec e8) d_T_tellPlain_112 ?_
      refine lv_iload M.x M.b d_T_tellPlain_115 (lv_at hl 5 rfl) ?_
      refine lv_i2l M.x M.b d_T_tellPlain_117 rfl ?_
      refine lv_lmul M.x M.b d_T_tellPlain_118 ?_
      replace hf := z_bind hf; obtain ⟨h10, e9, hf⟩ := hf
      refine zk_V (ci := 1) (st1 := []) M hH hS (c_F_put e9) rfl (o_F_put e9) w_F_put q_180 [] rfl ⟨Nat.le_of_ble_eq_true rfl, Nat.le_of_ble_eq_true rfl⟩ hl.1 rfl rfl (Nat.le_of_ble_eq_true rfl) d_T_tellPlain_119 (fun H locs hH hS => ?_)
      obtain rfl := z_r1 hf
      exact z_vret M hH hS d_T_tellPlain_122
  · replace hf := z_f c29 hf
    refine lv_iload_n M.x M.b d_T_tellPlain_19 rfl (lv_at hl 3 rfl) ?_
    refine lv_iload M.x M.b d_T_tellPlain_20 (lv_at hl 6 rfl) ?_
    refine lv_ishr M.x M.b d_T_tellPlain_22 ?_
    refine lv_iconst (v := (1 : Int32)) M.x M.b d_T_tellPlain_23 rfl ?_
    refine lv_iand M.x M.b d_T_tellPlain_24 ?_
    refine lv_if_ne (tgt := 31) M.x M.b d_T_tellPlain_25 (by decide) (fun c28 => ?_) (fun c28 => ?_)
    · replace hf := z_f c28 hf
      refine lv_aload_n M.x M.b d_T_tellPlain_31 rfl (lv_at hl 0 rfl) ?_
      replace hf := z_bind hf; obtain ⟨r12, e13, hf⟩ := hf
      refine z_get (ci := 6) (k := 1) M hH rfl (by decide) zinT q_175 (gA_spec e13) d_T_tellPlain_32 ?_
      refine lv_iload_n M.x M.b d_T_tellPlain_35 rfl (lv_at hl 1 rfl) ?_
      refine lv_iload M.x M.b d_T_tellPlain_36 (lv_at hl 6 rfl) ?_
      rcases r12 with _ | a14
      · exact absurd hf z_nb0
      replace hf := z_sb hf
      replace hf := z_bind hf; obtain ⟨i17, e16, hf⟩ := hf
      refine zk_V (ci := 0) (st1 := [.int i17]) M hH hS (c_B_priceOf e16) rfl (o_B_priceOf e16) w_B_priceOf q_185 [] rfl ⟨Nat.le_of_ble_eq_true rfl, Nat.le_of_ble_eq_true rfl⟩ hl.1 rfl rfl (Nat.le_of_ble_eq_true rfl) d_T_tellPlain_38 (fun H locs hH hS => ?_)
      refine lv_istore (lv' := [(7, .int i17), (0, .ref this), (1, .int x1), (2, .int x2), (3, .int x3), (4, .ref x4), (5, .int x5), (6, .int x6)]) M.x M.b d_T_tellPlain_41 hl (by decide) rfl (fun ls hl => ?_)
      refine lv_aload_n M.x M.b d_T_tellPlain_43 rfl (lv_at hl 1 rfl) ?_
      replace hf := z_bind hf; obtain ⟨r18, e19, hf⟩ := hf
      refine z_get (ci := 6) (k := 1) M hH rfl (by decide) zinT q_175 (gA_spec e19) d_T_tellPlain_44 ?_
      refine lv_iload_n M.x M.b d_T_tellPlain_47 rfl (lv_at hl 3 rfl) ?_
      refine lv_iload M.x M.b d_T_tellPlain_48 (lv_at hl 7 rfl) ?_
      rcases r18 with _ | a20
      · exact absurd hf z_nb0
      replace hf := z_sb hf
      replace hf := z_bind hf; obtain ⟨i23, e22, hf⟩ := hf
      refine zk_V (ci := 0) (st1 := [.int i23]) M hH hS (c_B_priceOf e22) rfl (o_B_priceOf e22) w_B_priceOf q_185 [] rfl ⟨Nat.le_of_ble_eq_true rfl, Nat.le_of_ble_eq_true rfl⟩ hl.1 rfl rfl (Nat.le_of_ble_eq_true rfl) d_T_tellPlain_50 (fun H locs hH hS => ?_)
      refine lv_istore (lv' := [(8, .int i23), (7, .int i17), (0, .ref this), (1, .int x1), (2, .int x2), (3, .int x3), (4, .ref x4), (5, .int x5), (6, .int x6)]) M.x M.b d_T_tellPlain_53 hl (by decide) rfl (fun ls hl => ?_)
      refine lv_iload M.x M.b d_T_tellPlain_55 (lv_at hl 1 rfl) ?_
      refine lv_if_eq (tgt := 65) M.x M.b d_T_tellPlain_57 (by decide) (fun c27 => ?_) (fun c27 => ?_)
      · replace hf := z_t c27 hf
        exact w_T_tellPlain_65 M this _ _ hf H locs ls hH hS (lv_sub hl [6] rfl)
      · replace hf := z_f c27 hf
        refine lv_iload M.x M.b d_T_tellPlain_60 (lv_at hl 0 rfl) ?_
        refine lv_if_ne (tgt := 74) M.x M.b d_T_tellPlain_62 (by decide) (fun c26 => ?_) (fun c26 => ?_)
        · replace hf := z_f c26 hf
          refine lv_aload M.x M.b d_T_tellPlain_74 (lv_at hl 6 rfl) ?_
          refine lv_iload M.x M.b d_T_tellPlain_76 (lv_at hl 0 rfl) ?_
          refine lv_i2l M.x M.b d_T_tellPlain_78 rfl ?_
          refine lv_iload M.x M.b d_T_tellPlain_79 (lv_at hl 1 rfl) ?_
          refine lv_i2l M.x M.b d_T_tellPlain_81 rfl ?_
          refine lv_iconst (v := (1 : Int32)) M.x M.b d_T_tellPlain_82 rfl ?_
          replace hf := z_bind hf; obtain ⟨h25, e24, hf⟩ := hf
          refine zk_V (ci := 1) (st1 := []) M hH hS (c_F_addAndShare e24) rfl (o_F_addAndShare e24) w_F_addAndShare q_184 [] rfl ⟨Nat.le_of_ble_eq_true rfl, Nat.le_of_ble_eq_true rfl⟩ hl.1 rfl rfl (Nat.le_of_ble_eq_true rfl) d_T_tellPlain_83 (fun H locs hH hS => ?_)
          refine lv_iinc (v := (x5 + (1 : Int32))) (lv' := [(5, .int (x5 + (1 : Int32))), (8, .int i23), (7, .int i17), (0, .ref this), (1, .int x1), (2, .int x2), (3, .int x3), (4, .ref x4), (6, .int x6)]) M.x M.b d_T_tellPlain_86 hl (k := 7) rfl rfl (by decide) rfl (fun ls hl => ?_)
          exact w_T_tellPlain_89 M this k13 hk13 _ _ _ _ _ _ _ hf H locs ls hH hS (lv_sub hl [3, 4, 5, 6, 7, 0, 8] rfl)
        · replace hf := z_t c26 hf
          exact w_T_tellPlain_65 M this _ _ hf H locs ls hH hS (lv_sub hl [6] rfl)
    · replace hf := z_t c28 hf
      refine lv_goto (tgt := 89) M.x M.b d_T_tellPlain_28 (by decide) ?_
      exact w_T_tellPlain_89 M this k13 hk13 _ _ _ _ _ _ _ hf H locs ls hH hS (lv_sub hl [0, 1, 2, 3, 4, 5, 6] rfl)
def f_T_tellPlain_13 (this : Nat) : Nat → Int32 → Int32 → Int32 → Nat → Int32 → Int32 → Hp → Option (Hp)
  | 0, _, _, _, _, _, _, _ => none
  | n + 1, x1, x2, x3, x4, x5, x6, h => t_T_tellPlain_13 this (f_T_tellPlain_13 this n) x1 x2 x3 x4 x5 x6 h
theorem w_T_tellPlain_13 {p : Program} {l : Launch} {e : Env} {s : State} {m : MethodId} {args : Array Value} {below : List Frame} {meth : Method} {c : Code} {N0 : Nat} {D : va_G} {cs : Nat → ClassId} (M : ZC p s m args meth c "YearBaskets$Teller" "tellPlain" b_T_tellPlain 9 (none) N0 D cs) (this : Nat)  {h0 : Hp}  : ∀ (n : Nat) (x1 : Int32) (x2 : Int32) (x3 : Int32) (x4 : Nat) (x5 : Int32) (x6 : Int32) (h : Hp), f_T_tellPlain_13 this n x1 x2 x3 x4 x5 x6 h = some h0 → ZG p l e (zrm 3 0 0) s m args below meth c N0 D cs none h0 h 9 [(0, .ref this), (1, .int x1), (2, .int x2), (3, .int x3), (4, .ref x4), (5, .int x5), (6, .int x6)] 13 [] := by
  intro n
  induction n with
  | zero => intro x1 x2 x3 x4 x5 x6 h hf; exact absurd (show none = some _ from hf) (fun q => by cases q)
  | succ n ih => intro x1 x2 x3 x4 x5 x6 h hf; exact v_T_tellPlain_13 M this (f_T_tellPlain_13 this n)  ih _ _ _ _ _ _ _ hf
def f_T_tellPlain (this : Nat) (x1 : Int32) (x2 : Int32) (x3 : Int32) (x4 : Nat) (h : Hp) : Option (Hp) :=
  if isO h this 6 = true then
  (f_F_put x4 (0 : Int64) (1 : Int64) h).bind fun h31 =>
  f_T_tellPlain_13 this FU x1 x2 x3 x4 (0 : Int32) (0 : Int32) h31
  else none
theorem o_T_tellPlain {this : Nat} {x1 : Int32} {x2 : Int32} {x3 : Int32} {x4 : Nat} {h : Hp} {h0 : Hp} (hf : f_T_tellPlain this x1 x2 x3 x4 h = some h0) : isO h this 6 = true := by
  unfold f_T_tellPlain at hf
  exact (z_gd hf).1
set_option maxRecDepth 100000 in
set_option maxHeartbeats 4000000 in
theorem c_T_tellPlain {l : Launch} {N0 : Nat} {D : va_G} {cs : Nat → ClassId} {this : Nat} {x1 : Int32} {x2 : Int32} {x3 : Int32} {x4 : Nat} {h : Hp} {h0 : Hp} (hf : f_T_tellPlain this x1 x2 x3 x4 h = some h0) : Fn l N0 D cs y_T_tellPlain b_T_tellPlain 9 (none) 3 0 0 [.ref this, .int x1, .int x2, .int x3, .ref x4] h none h0 := by
  refine z_start (by decide) (Nat.le_of_ble_eq_true rfl) ?_
  intro p e s m args below meth c M hH hS ls hl
  unfold f_T_tellPlain at hf
  obtain ⟨hO, hf⟩ := z_gd hf
  have hl : lv_has ls 9 [(0, .ref this), (1, .int x1), (2, .int x2), (3, .int x3), (4, .ref x4)] := hl
  obtain ⟨H, hHe⟩ : ∃ H, H = s.heap := ⟨_, rfl⟩
  obtain ⟨locs, hLe⟩ : ∃ locs : List Loc, locs = [] := ⟨_, rfl⟩
  have hS : va_S (zA N0) s.heap H locs := by rw [hHe, hLe]; exact hS
  have hH : HH N0 D cs h H := by rw [hHe]; exact hH
  suffices hg : W p l e (zrm 3 0 0) s m args below meth c H locs 0 0 (MQ below (zQ N0 D cs none h0) args s 0 0 (zA N0)) (F0 m 0 ls []) by rw [hHe, hLe] at hg; exact hg
  clear hHe hLe
  refine lv_aload M.x M.b d_T_tellPlain_0 (lv_at hl 4 rfl) ?_
  refine lv_lconst (v := (0 : Int64)) M.x M.b d_T_tellPlain_2 rfl ?_
  refine lv_lconst (v := (1 : Int64)) M.x M.b d_T_tellPlain_3 rfl ?_
  replace hf := z_bind hf; obtain ⟨h31, e30, hf⟩ := hf
  refine zk_V (ci := 1) (st1 := []) M hH hS (c_F_put e30) rfl (o_F_put e30) w_F_put q_180 [] rfl ⟨Nat.le_of_ble_eq_true rfl, Nat.le_of_ble_eq_true rfl⟩ hl.1 rfl rfl (Nat.le_of_ble_eq_true rfl) d_T_tellPlain_4 (fun H locs hH hS => ?_)
  refine lv_iconst (v := (0 : Int32)) M.x M.b d_T_tellPlain_7 rfl ?_
  refine lv_istore (lv' := [(5, .int (0 : Int32)), (0, .ref this), (1, .int x1), (2, .int x2), (3, .int x3), (4, .ref x4)]) M.x M.b d_T_tellPlain_8 hl (by decide) rfl (fun ls hl => ?_)
  refine lv_iconst (v := (0 : Int32)) M.x M.b d_T_tellPlain_10 rfl ?_
  refine lv_istore (lv' := [(6, .int (0 : Int32)), (5, .int (0 : Int32)), (0, .ref this), (1, .int x1), (2, .int x2), (3, .int x3), (4, .ref x4)]) M.x M.b d_T_tellPlain_11 hl (by decide) rfl (fun ls hl => ?_)
  exact w_T_tellPlain_13 M this FU _ _ _ _ _ _ _ hf H locs ls hH hS (lv_sub hl [2, 3, 4, 5, 6, 1, 0] rfl)
def f_T_spareAt (this : Nat) (h : Hp) (x1 : Int32) : Option (Option Nat) :=
  if isO h this 6 = true then
  if x1 < 0 then
    some none
  else
  (gA h this 6 0).bind fun r1 =>
  (r1).bind fun a3 =>
  (aN h a3).bind fun i6 =>
  if x1 < i6 then
    (gA h this 6 0).bind fun r7 =>
    (r7).bind fun a9 =>
    (aA h 3 a9 x1).bind fun r12 =>
    some r12
  else
  some none
  else none
theorem o_T_spareAt {this : Nat} {h : Hp} {x1 : Int32} {r0 : Option Nat} (hf : f_T_spareAt this h x1 = some r0) : isO h this 6 = true := by
  unfold f_T_spareAt at hf
  exact (z_gd hf).1
set_option maxRecDepth 100000 in
set_option maxHeartbeats 4000000 in
theorem c_T_spareAt {l : Launch} {N0 : Nat} {D : va_G} {cs : Nat → ClassId} {this : Nat} {h : Hp} {x1 : Int32} {r0 : Option Nat} (hf : f_T_spareAt this h x1 = some r0) : Fn l N0 D cs y_T_spareAt b_T_spareAt 2 (some (.object "YearBaskets$Fraction")) 1 0 0 [.ref this, .int x1] h (some (va_rf r0)) h := by
  refine z_start (by decide) (Nat.le_of_ble_eq_true rfl) ?_
  intro p e s m args below meth c M hH hS ls hl
  unfold f_T_spareAt at hf
  obtain ⟨hO, hf⟩ := z_gd hf
  have hl : lv_has ls 2 [(0, .ref this), (1, .int x1)] := hl
  obtain ⟨H, hHe⟩ : ∃ H, H = s.heap := ⟨_, rfl⟩
  obtain ⟨locs, hLe⟩ : ∃ locs : List Loc, locs = [] := ⟨_, rfl⟩
  have hS : va_S (zA N0) s.heap H locs := by rw [hHe, hLe]; exact hS
  have hH : HH N0 D cs h H := by rw [hHe]; exact hH
  suffices hg : W p l e (zrm 1 0 0) s m args below meth c H locs 0 0 (MQ below (zQ N0 D cs (some (va_rf r0)) h) args s 0 0 (zA N0)) (F0 m 0 ls []) by rw [hHe, hLe] at hg; exact hg
  clear hHe hLe
  refine lv_iload_n M.x M.b d_T_spareAt_0 rfl (lv_at hl 1 rfl) ?_
  refine lv_if_lt (tgt := 13) M.x M.b d_T_spareAt_1 (by decide) (fun c14 => ?_) (fun c14 => ?_)
  · replace hf := z_t c14 hf
    refine lv_null M.x M.b d_T_spareAt_13 ?_
    refine lv_goto (tgt := 23) M.x M.b d_T_spareAt_14 (by decide) ?_
    obtain rfl := z_r1 hf
    exact z_aret (v := none) M hH hS d_T_spareAt_23
  · replace hf := z_f c14 hf
    refine lv_iload_n M.x M.b d_T_spareAt_4 rfl (lv_at hl 1 rfl) ?_
    refine lv_aload_n M.x M.b d_T_spareAt_5 rfl (lv_at hl 0 rfl) ?_
    replace hf := z_bind hf; obtain ⟨r1, e2, hf⟩ := hf
    refine z_get (ci := 6) (k := 0) M hH rfl (by decide) zinT q_189 (gA_spec e2) d_T_spareAt_6 ?_
    rcases r1 with _ | a3
    · exact absurd hf z_nb0
    replace hf := z_sb hf
    replace hf := z_bind hf; obtain ⟨i6, e5, hf⟩ := hf
    refine z_alen M hH e5 d_T_spareAt_9 ?_
    refine lv_icmp_lt (tgt := 17) M.x M.b d_T_spareAt_10 (by decide) (fun c13 => ?_) (fun c13 => ?_)
    · replace hf := z_t c13 hf
      refine lv_aload_n M.x M.b d_T_spareAt_17 rfl (lv_at hl 0 rfl) ?_
      replace hf := z_bind hf; obtain ⟨r7, e8, hf⟩ := hf
      refine z_get (ci := 6) (k := 0) M hH rfl (by decide) zinT q_189 (gA_spec e8) d_T_spareAt_18 ?_
      refine lv_iload_n M.x M.b d_T_spareAt_21 rfl (lv_at hl 1 rfl) ?_
      rcases r7 with _ | a9
      · exact absurd hf z_nb0
      replace hf := z_sb hf
      replace hf := z_bind hf; obtain ⟨r12, e11, hf⟩ := hf
      refine z_aald (t := 3) M hH rfl e11 d_T_spareAt_22 ?_
      obtain rfl := z_r1 hf
      exact z_aret (v := r12) M hH hS d_T_spareAt_23
    · replace hf := z_f c13 hf
      refine lv_null M.x M.b d_T_spareAt_13 ?_
      refine lv_goto (tgt := 23) M.x M.b d_T_spareAt_14 (by decide) ?_
      obtain rfl := z_r1 hf
      exact z_aret (v := none) M hH hS d_T_spareAt_23
def f_T_tellPair_243 (rec : Nat → Int32 → Int32 → Int32 → Int32 → Int32 → Nat → Hp → Option (Hp)) (this : Nat) (x6 : Nat) (s1 : Int32) (h : Hp) : Option (Hp) :=
  (zB s1).bind fun _ =>
  (pV h x6 1 2 (.int s1)).bind fun h1 =>
  some h1
set_option maxRecDepth 100000 in
set_option maxHeartbeats 4000000 in
theorem w_T_tellPair_243 {p : Program} {l : Launch} {e : Env} {s : State} {m : MethodId} {args : Array Value} {below : List Frame} {meth : Method} {c : Code} {N0 : Nat} {D : va_G} {cs : Nat → ClassId} (M : ZC p s m args meth c "YearBaskets$Teller" "tellPair" b_T_tellPair 10 (none) N0 D cs) (rec : Nat → Int32 → Int32 → Int32 → Int32 → Int32 → Nat → Hp → Option (Hp)) {n0 : Nat} (hn0 : 8 ≤ n0) (hrec : ∀ {this : Nat} {x1 : Int32} {x2 : Int32} {x3 : Int32} {x4 : Int32} {x5 : Int32} {x6 : Nat} {h : Hp} {h0 : Hp}, rec this x1 x2 x3 x4 x5 x6 h = some h0 → Fn l N0 D cs y_T_tellTerm b_T_tellTerm 9 (none) n0 0 0 [.ref this, .int x1, .int x2, .int x3, .int x4, .int x5, .ref x6] h none h0 ∧ isO h this 6 = true) (this : Nat)  {h0 : Hp}  (x6 : Nat) (s1 : Int32) (h : Hp) (hf : f_T_tellPair_243 rec this x6 s1 h = some h0) : ZG p l e (zrm (n0 + 1) 0 0) s m args below meth c N0 D cs none h0 h 10 [] 243 [.int s1, .ref x6] := by
  intro H locs ls hH hS hl
  unfold f_T_tellPair_243 at hf
  replace hf := z_bind hf; obtain ⟨_, e3, hf⟩ := hf
  have z4 := (zB_spec e3).2
  replace hf := z_bind hf; obtain ⟨h1, e2, hf⟩ := hf
  refine z_putN (ci := 1) (k := 2) M hH hS rfl (by decide) zinF zYF zYF_ok zNF_ok rfl q_193 rfl (z_nb z4) (z_fb z4) e2 d_T_tellPair_243 (fun H locs hH hS => ?_)
  obtain rfl := z_r1 hf
  exact z_vret M hH hS d_T_tellPair_246
def f_T_tellPair_184 (rec : Nat → Int32 → Int32 → Int32 → Int32 → Int32 → Nat → Hp → Option (Hp)) (this : Nat) (x6 : Nat) (h : Hp) : Option (Hp) :=
  (f_F_refuse x6 (-1003 : Int32) h).bind fun h6 =>
  some h6
set_option maxRecDepth 100000 in
set_option maxHeartbeats 4000000 in
theorem w_T_tellPair_184 {p : Program} {l : Launch} {e : Env} {s : State} {m : MethodId} {args : Array Value} {below : List Frame} {meth : Method} {c : Code} {N0 : Nat} {D : va_G} {cs : Nat → ClassId} (M : ZC p s m args meth c "YearBaskets$Teller" "tellPair" b_T_tellPair 10 (none) N0 D cs) (rec : Nat → Int32 → Int32 → Int32 → Int32 → Int32 → Nat → Hp → Option (Hp)) {n0 : Nat} (hn0 : 8 ≤ n0) (hrec : ∀ {this : Nat} {x1 : Int32} {x2 : Int32} {x3 : Int32} {x4 : Int32} {x5 : Int32} {x6 : Nat} {h : Hp} {h0 : Hp}, rec this x1 x2 x3 x4 x5 x6 h = some h0 → Fn l N0 D cs y_T_tellTerm b_T_tellTerm 9 (none) n0 0 0 [.ref this, .int x1, .int x2, .int x3, .int x4, .int x5, .ref x6] h none h0 ∧ isO h this 6 = true) (this : Nat)  {h0 : Hp}  (x6 : Nat) (h : Hp) (hf : f_T_tellPair_184 rec this x6 h = some h0) : ZG p l e (zrm (n0 + 1) 0 0) s m args below meth c N0 D cs none h0 h 10 [(6, .ref x6)] 184 [] := by
  intro H locs ls hH hS hl
  unfold f_T_tellPair_184 at hf
  refine lv_aload M.x M.b d_T_tellPair_184 (lv_at hl 0 rfl) ?_
  refine lv_sipush (v := (-1003 : Int32)) M.x M.b d_T_tellPair_186 rfl ?_
  replace hf := z_bind hf; obtain ⟨h6, e5, hf⟩ := hf
  refine zk_V (ci := 1) (st1 := []) M hH hS (c_F_refuse e5) rfl (o_F_refuse e5) w_F_refuse q_173 [] rfl (zR_n (by omega) (by decide)) hl.1 rfl rfl (Nat.le_of_ble_eq_true rfl) d_T_tellPair_189 (fun H locs hH hS => ?_)
  refine lv_goto (tgt := 246) M.x M.b d_T_tellPair_192 (by decide) ?_
  obtain rfl := z_r1 hf
  exact z_vret M hH hS d_T_tellPair_246
def f_T_tellPair_155 (rec : Nat → Int32 → Int32 → Int32 → Int32 → Int32 → Nat → Hp → Option (Hp)) (this : Nat) (s0 : Int32) (s1 : Int32) (x6 : Nat) (x7 : Option Nat) (h : Hp) : Option (Hp) :=
  zm x7 (
    if s0 = s1 then
      none
    else
    some h
  ) fun a7 =>
  if s0 = s1 then
    (f_F_take x6 a7 h).bind fun h10 =>
    some h10
  else
  some h
set_option maxRecDepth 100000 in
set_option maxHeartbeats 4000000 in
theorem w_T_tellPair_155 {p : Program} {l : Launch} {e : Env} {s : State} {m : MethodId} {args : Array Value} {below : List Frame} {meth : Method} {c : Code} {N0 : Nat} {D : va_G} {cs : Nat → ClassId} (M : ZC p s m args meth c "YearBaskets$Teller" "tellPair" b_T_tellPair 10 (none) N0 D cs) (rec : Nat → Int32 → Int32 → Int32 → Int32 → Int32 → Nat → Hp → Option (Hp)) {n0 : Nat} (hn0 : 8 ≤ n0) (hrec : ∀ {this : Nat} {x1 : Int32} {x2 : Int32} {x3 : Int32} {x4 : Int32} {x5 : Int32} {x6 : Nat} {h : Hp} {h0 : Hp}, rec this x1 x2 x3 x4 x5 x6 h = some h0 → Fn l N0 D cs y_T_tellTerm b_T_tellTerm 9 (none) n0 0 0 [.ref this, .int x1, .int x2, .int x3, .int x4, .int x5, .ref x6] h none h0 ∧ isO h this 6 = true) (this : Nat)  {h0 : Hp}  (s0 : Int32) (s1 : Int32) (x6 : Nat) (x7 : Option Nat) (h : Hp) (hf : f_T_tellPair_155 rec this s0 s1 x6 x7 h = some h0) : ZG p l e (zrm (n0 + 1) 0 0) s m args below meth c N0 D cs none h0 h 10 [(6, .ref x6), (7, va_rf x7)] 155 [.int s1, .int s0] := by
  intro H locs ls hH hS hl
  unfold f_T_tellPair_155 at hf
  rcases x7 with _ | a7
  · replace hf := zm_n hf
    refine lv_icmp_ne (tgt := 165) M.x M.b d_T_tellPair_155 (by decide) (fun c8 => ?_) (fun c8 => ?_)
    · replace hf := z_f c8 hf
      refine lv_goto (tgt := 246) M.x M.b d_T_tellPair_165 (by decide) ?_
      obtain rfl := z_r1 hf
      exact z_vret M hH hS d_T_tellPair_246
    · replace hf := z_t c8 hf
      refine lv_aload M.x M.b d_T_tellPair_158 (lv_at hl 0 rfl) ?_
      refine lv_aloadN M.x M.b d_T_tellPair_160 (lv_at hl 1 rfl) ?_
      cases hf
  · replace hf := zm_s hf
    refine lv_icmp_ne (tgt := 165) M.x M.b d_T_tellPair_155 (by decide) (fun c11 => ?_) (fun c11 => ?_)
    · replace hf := z_f c11 hf
      refine lv_goto (tgt := 246) M.x M.b d_T_tellPair_165 (by decide) ?_
      obtain rfl := z_r1 hf
      exact z_vret M hH hS d_T_tellPair_246
    · replace hf := z_t c11 hf
      refine lv_aload M.x M.b d_T_tellPair_158 (lv_at hl 0 rfl) ?_
      refine lv_aload M.x M.b d_T_tellPair_160 (lv_at hl 1 rfl) ?_
      replace hf := z_bind hf; obtain ⟨h10, e9, hf⟩ := hf
      refine zk_V (ci := 1) (st1 := []) M hH hS (c_F_take e9) rfl (o_F_take e9) w_F_take q_194 [] rfl (zR_n (by omega) (by decide)) hl.1 rfl rfl (Nat.le_of_ble_eq_true rfl) d_T_tellPair_162 (fun H locs hH hS => ?_)
      refine lv_goto (tgt := 246) M.x M.b d_T_tellPair_165 (by decide) ?_
      obtain rfl := z_r1 hf
      exact z_vret M hH hS d_T_tellPair_246
def f_T_tellPair_113 (rec : Nat → Int32 → Int32 → Int32 → Int32 → Int32 → Nat → Hp → Option (Hp)) (this : Nat) (x6 : Nat) (x7 : Option Nat) (x8 : Int32) (h : Hp) : Option (Hp) :=
  zm x7 (
    none
  ) fun a12 =>
  (f_F_orderOf h a12 x6).bind fun i14 =>
  if i14 = (-1005 : Int32) then
    (f_F_refuse x6 (-1005 : Int32) h).bind fun h17 =>
    some h17
  else
  if x8 = (8 : Int32) then
    f_T_tellPair_155 rec this i14 (-1 : Int32) x6 (some a12) h
  else
  f_T_tellPair_155 rec this i14 (1 : Int32) x6 (some a12) h
set_option maxRecDepth 100000 in
set_option maxHeartbeats 4000000 in
theorem w_T_tellPair_113 {p : Program} {l : Launch} {e : Env} {s : State} {m : MethodId} {args : Array Value} {below : List Frame} {meth : Method} {c : Code} {N0 : Nat} {D : va_G} {cs : Nat → ClassId} (M : ZC p s m args meth c "YearBaskets$Teller" "tellPair" b_T_tellPair 10 (none) N0 D cs) (rec : Nat → Int32 → Int32 → Int32 → Int32 → Int32 → Nat → Hp → Option (Hp)) {n0 : Nat} (hn0 : 8 ≤ n0) (hrec : ∀ {this : Nat} {x1 : Int32} {x2 : Int32} {x3 : Int32} {x4 : Int32} {x5 : Int32} {x6 : Nat} {h : Hp} {h0 : Hp}, rec this x1 x2 x3 x4 x5 x6 h = some h0 → Fn l N0 D cs y_T_tellTerm b_T_tellTerm 9 (none) n0 0 0 [.ref this, .int x1, .int x2, .int x3, .int x4, .int x5, .ref x6] h none h0 ∧ isO h this 6 = true) (this : Nat)  {h0 : Hp}  (x6 : Nat) (x7 : Option Nat) (x8 : Int32) (h : Hp) (hf : f_T_tellPair_113 rec this x6 x7 x8 h = some h0) : ZG p l e (zrm (n0 + 1) 0 0) s m args below meth c N0 D cs none h0 h 10 [(6, .ref x6), (7, va_rf x7), (8, .int x8)] 113 [] := by
  intro H locs ls hH hS hl
  unfold f_T_tellPair_113 at hf
  rcases x7 with _ | a12
  · replace hf := zm_n hf
    refine lv_aloadN M.x M.b d_T_tellPair_113 (lv_at hl 1 rfl) ?_
    refine lv_aload M.x M.b d_T_tellPair_115 (lv_at hl 0 rfl) ?_
    cases hf
  · replace hf := zm_s hf
    refine lv_aload M.x M.b d_T_tellPair_113 (lv_at hl 1 rfl) ?_
    refine lv_aload M.x M.b d_T_tellPair_115 (lv_at hl 0 rfl) ?_
    replace hf := z_bind hf; obtain ⟨i14, e13, hf⟩ := hf
    refine zk_S (st1 := [.int i14]) M hH hS (c_F_orderOf e13) w_F_orderOf q_195 [] rfl (zR_n (by omega) (by decide)) hl.1 rfl rfl (Nat.le_of_ble_eq_true rfl) d_T_tellPair_117 (fun H locs hH hS => ?_)
    refine lv_istore (lv' := [(9, .int i14), (6, .ref x6), (7, .ref a12), (8, .int x8)]) M.x M.b d_T_tellPair_120 hl (by decide) rfl (fun ls hl => ?_)
    refine lv_iload M.x M.b d_T_tellPair_122 (lv_at hl 0 rfl) ?_
    refine lv_sipush (v := (-1005 : Int32)) M.x M.b d_T_tellPair_124 rfl ?_
    refine lv_icmp_ne (tgt := 141) M.x M.b d_T_tellPair_127 (by decide) (fun c18 => ?_) (fun c18 => ?_)
    · replace hf := z_f c18 hf
      refine lv_iload M.x M.b d_T_tellPair_141 (lv_at hl 0 rfl) ?_
      refine lv_iload M.x M.b d_T_tellPair_143 (lv_at hl 3 rfl) ?_
      refine lv_bipush (v := (8 : Int32)) M.x M.b d_T_tellPair_145 rfl ?_
      refine lv_icmp_ne (tgt := 154) M.x M.b d_T_tellPair_147 (by decide) (fun c15 => ?_) (fun c15 => ?_)
      · replace hf := z_f c15 hf
        refine lv_iconst (v := (1 : Int32)) M.x M.b d_T_tellPair_154 rfl ?_
        exact w_T_tellPair_155 M rec hn0 hrec this _ _ _ _ _ hf H locs ls hH hS (lv_sub hl [1, 2] rfl)
      · replace hf := z_t c15 hf
        refine lv_iconst (v := (-1 : Int32)) M.x M.b d_T_tellPair_150 rfl ?_
        refine lv_goto (tgt := 155) M.x M.b d_T_tellPair_151 (by decide) ?_
        exact w_T_tellPair_155 M rec hn0 hrec this _ _ _ _ _ hf H locs ls hH hS (lv_sub hl [1, 2] rfl)
    · replace hf := z_t c18 hf
      refine lv_aload M.x M.b d_T_tellPair_130 (lv_at hl 1 rfl) ?_
      refine lv_sipush (v := (-1005 : Int32)) M.x M.b d_T_tellPair_132 rfl ?_
      replace hf := z_bind hf; obtain ⟨h17, e16, hf⟩ := hf
      refine zk_V (ci := 1) (st1 := []) M hH hS (c_F_refuse e16) rfl (o_F_refuse e16) w_F_refuse q_173 [] rfl (zR_n (by omega) (by decide)) hl.1 rfl rfl (Nat.le_of_ble_eq_true rfl) d_T_tellPair_135 (fun H locs hH hS => ?_)
      refine lv_goto (tgt := 165) M.x M.b d_T_tellPair_138 (by decide) ?_
      refine lv_goto (tgt := 246) M.x M.b d_T_tellPair_165 (by decide) ?_
      obtain rfl := z_r1 hf
      exact z_vret M hH hS d_T_tellPair_246
def f_T_tellPair (rec : Nat → Int32 → Int32 → Int32 → Int32 → Int32 → Nat → Hp → Option (Hp)) (this : Nat) (x1 : Int32) (x2 : Int32) (x3 : Int32) (x4 : Int32) (x5 : Int32) (x6 : Nat) (h : Hp) : Option (Hp) :=
  if isO h this 6 = true then
  (f_T_spareAt this h x5).bind fun r20 =>
  zm r20 (
    (f_F_refuse x6 (-1003 : Int32) h).bind fun h23 =>
    some h23
  ) fun a21 =>
  (rec this (x1 + (1 : Int32)) x2 x3 x4 (x5 + (1 : Int32)) x6 h).bind fun h25 =>
  (gI h25 x6 1 3).bind fun i26 =>
  if i26 = 0 then
    (gA h25 this 6 2).bind fun r28 =>
    (r28).bind fun a30 =>
    (f_P_markAt a30 h25 x1).bind fun i33 =>
    (rec this i33 x2 x3 x4 (x5 + (1 : Int32)) a21 h25).bind fun h35 =>
    (gI h35 a21 1 3).bind fun i36 =>
    if i36 = 0 then
      (gA h35 this 6 2).bind fun r38 =>
      (r38).bind fun a40 =>
      (f_P_wordAt a40 h35 x1).bind fun i43 =>
      if i43 = (8 : Int32) then
        f_T_tellPair_113 rec this x6 (some a21) i43 h35
      else
      if i43 = (9 : Int32) then
        f_T_tellPair_113 rec this x6 (some a21) i43 h35
      else
      (gI h35 x6 1 2).bind fun i44 =>
      if i44 = 0 then
        (gI h35 a21 1 2).bind fun i46 =>
        if i46 = 0 then
          if i43 = (7 : Int32) then
            (gL h35 a21 1 0).bind fun l53 =>
            (gL h35 a21 1 1).bind fun l55 =>
            (f_F_addAndShare x6 l53 l55 (2 : Int32) h35).bind fun h58 =>
            some h58
          else
          (f_F_multiply x6 a21 h35).bind fun h49 =>
          (gI h49 x6 1 3).bind fun i50 =>
          if i50 = 0 then
            f_T_tellPair_243 rec this x6 (1 : Int32) h49
          else
          f_T_tellPair_243 rec this x6 (0 : Int32) h49
        else
        f_T_tellPair_184 rec this x6 h35
      else
      f_T_tellPair_184 rec this x6 h35
    else
    (gI h35 a21 1 3).bind fun i64 =>
    (f_F_refuse x6 i64 h35).bind fun h67 =>
    some h67
  else
  some h25
  else none
theorem o_T_tellPair {rec : Nat → Int32 → Int32 → Int32 → Int32 → Int32 → Nat → Hp → Option (Hp)} {this : Nat} {x1 : Int32} {x2 : Int32} {x3 : Int32} {x4 : Int32} {x5 : Int32} {x6 : Nat} {h : Hp} {h0 : Hp} (hf : f_T_tellPair rec this x1 x2 x3 x4 x5 x6 h = some h0) : isO h this 6 = true := by
  unfold f_T_tellPair at hf
  exact (z_gd hf).1
set_option maxRecDepth 100000 in
set_option maxHeartbeats 4000000 in
theorem c_T_tellPair {l : Launch} {N0 : Nat} {D : va_G} {cs : Nat → ClassId} (rec : Nat → Int32 → Int32 → Int32 → Int32 → Int32 → Nat → Hp → Option (Hp)) {n0 : Nat} (hn0 : 8 ≤ n0) (hrec : ∀ {this : Nat} {x1 : Int32} {x2 : Int32} {x3 : Int32} {x4 : Int32} {x5 : Int32} {x6 : Nat} {h : Hp} {h0 : Hp}, rec this x1 x2 x3 x4 x5 x6 h = some h0 → Fn l N0 D cs y_T_tellTerm b_T_tellTerm 9 (none) n0 0 0 [.ref this, .int x1, .int x2, .int x3, .int x4, .int x5, .ref x6] h none h0 ∧ isO h this 6 = true) {this : Nat} {x1 : Int32} {x2 : Int32} {x3 : Int32} {x4 : Int32} {x5 : Int32} {x6 : Nat} {h : Hp} {h0 : Hp} (hf : f_T_tellPair rec this x1 x2 x3 x4 x5 x6 h = some h0) : Fn l N0 D cs y_T_tellPair b_T_tellPair 10 (none) (n0 + 1) 0 0 [.ref this, .int x1, .int x2, .int x3, .int x4, .int x5, .ref x6] h none h0 := by
  refine z_start (by decide) (Nat.le_of_ble_eq_true rfl) ?_
  intro p e s m args below meth c M hH hS ls hl
  unfold f_T_tellPair at hf
  obtain ⟨hO, hf⟩ := z_gd hf
  have hl : lv_has ls 10 [(0, .ref this), (1, .int x1), (2, .int x2), (3, .int x3), (4, .int x4), (5, .int x5), (6, .ref x6)] := hl
  obtain ⟨H, hHe⟩ : ∃ H, H = s.heap := ⟨_, rfl⟩
  obtain ⟨locs, hLe⟩ : ∃ locs : List Loc, locs = [] := ⟨_, rfl⟩
  have hS : va_S (zA N0) s.heap H locs := by rw [hHe, hLe]; exact hS
  have hH : HH N0 D cs h H := by rw [hHe]; exact hH
  suffices hg : W p l e (zrm (n0 + 1) 0 0) s m args below meth c H locs 0 0 (MQ below (zQ N0 D cs none h0) args s 0 0 (zA N0)) (F0 m 0 ls []) by rw [hHe, hLe] at hg; exact hg
  clear hHe hLe
  refine lv_aload_n M.x M.b d_T_tellPair_0 rfl (lv_at hl 0 rfl) ?_
  refine lv_iload M.x M.b d_T_tellPair_1 (lv_at hl 5 rfl) ?_
  replace hf := z_bind hf; obtain ⟨r20, e19, hf⟩ := hf
  refine zk_V (ci := 6) (st1 := [va_rf r20]) M hH hS (c_T_spareAt e19) rfl (o_T_spareAt e19) w_T_spareAt q_200 [] rfl (zR_n (by omega) (by decide)) hl.1 rfl rfl (Nat.le_of_ble_eq_true rfl) d_T_tellPair_3 (fun H locs hH hS => ?_)
  rcases r20 with _ | a21
  · replace hf := zm_n hf
    refine lv_astoreN (lv' := [(7, .null), (0, .ref this), (1, .int x1), (2, .int x2), (3, .int x3), (4, .int x4), (5, .int x5), (6, .ref x6)]) M.x M.b d_T_tellPair_6 hl (by decide) rfl (fun ls hl => ?_)
    refine lv_aloadN M.x M.b d_T_tellPair_8 (lv_at hl 0 rfl) ?_
    refine lv_ifnonnullN M.x M.b d_T_tellPair_10 ?_
    refine lv_aload M.x M.b d_T_tellPair_13 (lv_at hl 7 rfl) ?_
    refine lv_sipush (v := (-1003 : Int32)) M.x M.b d_T_tellPair_15 rfl ?_
    replace hf := z_bind hf; obtain ⟨h23, e22, hf⟩ := hf
    refine zk_V (ci := 1) (st1 := []) M hH hS (c_F_refuse e22) rfl (o_F_refuse e22) w_F_refuse q_173 [] rfl (zR_n (by omega) (by decide)) hl.1 rfl rfl (Nat.le_of_ble_eq_true rfl) d_T_tellPair_18 (fun H locs hH hS => ?_)
    obtain rfl := z_r1 hf
    exact z_vret M hH hS d_T_tellPair_21
  · replace hf := zm_s hf
    refine lv_astore (lv' := [(7, .ref a21), (0, .ref this), (1, .int x1), (2, .int x2), (3, .int x3), (4, .int x4), (5, .int x5), (6, .ref x6)]) M.x M.b d_T_tellPair_6 hl (by decide) rfl (fun ls hl => ?_)
    refine lv_aload M.x M.b d_T_tellPair_8 (lv_at hl 0 rfl) ?_
    refine lv_ifnonnull (tgt := 22) M.x M.b d_T_tellPair_10 (by decide) ?_
    refine lv_aload_n M.x M.b d_T_tellPair_22 rfl (lv_at hl 1 rfl) ?_
    refine lv_iload_n M.x M.b d_T_tellPair_23 rfl (lv_at hl 2 rfl) ?_
    refine lv_iconst (v := (1 : Int32)) M.x M.b d_T_tellPair_24 rfl ?_
    refine lv_iadd M.x M.b d_T_tellPair_25 ?_
    refine lv_iload_n M.x M.b d_T_tellPair_26 rfl (lv_at hl 3 rfl) ?_
    refine lv_iload_n M.x M.b d_T_tellPair_27 rfl (lv_at hl 4 rfl) ?_
    refine lv_iload M.x M.b d_T_tellPair_28 (lv_at hl 5 rfl) ?_
    refine lv_iload M.x M.b d_T_tellPair_30 (lv_at hl 6 rfl) ?_
    refine lv_iconst (v := (1 : Int32)) M.x M.b d_T_tellPair_32 rfl ?_
    refine lv_iadd M.x M.b d_T_tellPair_33 ?_
    refine lv_aload M.x M.b d_T_tellPair_34 (lv_at hl 7 rfl) ?_
    replace hf := z_bind hf; obtain ⟨h25, e24, hf⟩ := hf
    refine zk_V (ci := 6) (st1 := []) M hH hS (hrec e24).1 rfl (hrec e24).2 w_T_tellTerm q_198 [] rfl (zR_n (by omega) (by decide)) hl.1 rfl rfl (Nat.le_of_ble_eq_true rfl) d_T_tellPair_36 (fun H locs hH hS => ?_)
    refine lv_aload M.x M.b d_T_tellPair_39 (lv_at hl 7 rfl) ?_
    replace hf := z_bind hf; obtain ⟨i26, e27, hf⟩ := hf
    refine z_getN (ci := 1) (k := 3) M hH rfl (by decide) zinF q_183 (gI_spec e27) d_T_tellPair_41 ?_
    refine lv_if_eq (tgt := 48) M.x M.b d_T_tellPair_44 (by decide) (fun c69 => ?_) (fun c69 => ?_)
    · replace hf := z_t c69 hf
      refine lv_aload_n M.x M.b d_T_tellPair_48 rfl (lv_at hl 1 rfl) ?_
      refine lv_aload_n M.x M.b d_T_tellPair_49 rfl (lv_at hl 1 rfl) ?_
      replace hf := z_bind hf; obtain ⟨r28, e29, hf⟩ := hf
      refine z_get (ci := 6) (k := 2) M hH rfl (by decide) zinT q_176 (gA_spec e29) d_T_tellPair_50 ?_
      refine lv_iload_n M.x M.b d_T_tellPair_53 rfl (lv_at hl 2 rfl) ?_
      rcases r28 with _ | a30
      · exact absurd hf z_nb0
      replace hf := z_sb hf
      replace hf := z_bind hf; obtain ⟨i33, e32, hf⟩ := hf
      refine zk_V (ci := 4) (st1 := [.int i33, .ref this]) M hH hS (c_P_markAt e32) rfl (o_P_markAt e32) w_P_markAt q_199 [.ref this] rfl (zR_n (by omega) (by decide)) hl.1 rfl rfl (Nat.le_of_ble_eq_true rfl) d_T_tellPair_54 (fun H locs hH hS => ?_)
      refine lv_iload_n M.x M.b d_T_tellPair_57 rfl (lv_at hl 3 rfl) ?_
      refine lv_iload_n M.x M.b d_T_tellPair_58 rfl (lv_at hl 4 rfl) ?_
      refine lv_iload M.x M.b d_T_tellPair_59 (lv_at hl 5 rfl) ?_
      refine lv_iload M.x M.b d_T_tellPair_61 (lv_at hl 6 rfl) ?_
      refine lv_iconst (v := (1 : Int32)) M.x M.b d_T_tellPair_63 rfl ?_
      refine lv_iadd M.x M.b d_T_tellPair_64 ?_
      refine lv_aload M.x M.b d_T_tellPair_65 (lv_at hl 0 rfl) ?_
      replace hf := z_bind hf; obtain ⟨h35, e34, hf⟩ := hf
      refine zk_V (ci := 6) (st1 := []) M hH hS (hrec e34).1 rfl (hrec e34).2 w_T_tellTerm q_198 [] rfl (zR_n (by omega) (by decide)) hl.1 rfl rfl (Nat.le_of_ble_eq_true rfl) d_T_tellPair_67 (fun H locs hH hS => ?_)
      refine lv_aload M.x M.b d_T_tellPair_70 (lv_at hl 0 rfl) ?_
      replace hf := z_bind hf; obtain ⟨i36, e37, hf⟩ := hf
      refine z_getN (ci := 1) (k := 3) M hH rfl (by decide) zinF q_183 (gI_spec e37) d_T_tellPair_72 ?_
      refine lv_if_eq (tgt := 89) M.x M.b d_T_tellPair_75 (by decide) (fun c68 => ?_) (fun c68 => ?_)
      · replace hf := z_t c68 hf
        refine lv_aload_n M.x M.b d_T_tellPair_89 rfl (lv_at hl 1 rfl) ?_
        replace hf := z_bind hf; obtain ⟨r38, e39, hf⟩ := hf
        refine z_get (ci := 6) (k := 2) M hH rfl (by decide) zinT q_176 (gA_spec e39) d_T_tellPair_90 ?_
        refine lv_iload_n M.x M.b d_T_tellPair_93 rfl (lv_at hl 2 rfl) ?_
        rcases r38 with _ | a40
        · exact absurd hf z_nb0
        replace hf := z_sb hf
        replace hf := z_bind hf; obtain ⟨i43, e42, hf⟩ := hf
        refine zk_V (ci := 4) (st1 := [.int i43]) M hH hS (c_P_wordAt e42) rfl (o_P_wordAt e42) w_P_wordAt q_197 [] rfl (zR_n (by omega) (by decide)) hl.1 rfl rfl (Nat.le_of_ble_eq_true rfl) d_T_tellPair_94 (fun H locs hH hS => ?_)
        refine lv_istore (lv' := [(8, .int i43), (7, .ref a21), (0, .ref this), (1, .int x1), (2, .int x2), (3, .int x3), (4, .int x4), (5, .int x5), (6, .ref x6)]) M.x M.b d_T_tellPair_97 hl (by decide) rfl (fun ls hl => ?_)
        refine lv_iload M.x M.b d_T_tellPair_99 (lv_at hl 0 rfl) ?_
        refine lv_bipush (v := (8 : Int32)) M.x M.b d_T_tellPair_101 rfl ?_
        refine lv_icmp_eq (tgt := 113) M.x M.b d_T_tellPair_103 (by decide) (fun c63 => ?_) (fun c63 => ?_)
        · replace hf := z_t c63 hf
          exact w_T_tellPair_113 M rec hn0 hrec this _ _ _ _ hf H locs ls hH hS (lv_sub hl [8, 1, 0] rfl)
        · replace hf := z_f c63 hf
          refine lv_iload M.x M.b d_T_tellPair_106 (lv_at hl 0 rfl) ?_
          refine lv_bipush (v := (9 : Int32)) M.x M.b d_T_tellPair_108 rfl ?_
          refine lv_icmp_ne (tgt := 168) M.x M.b d_T_tellPair_110 (by decide) (fun c62 => ?_) (fun c62 => ?_)
          · replace hf := z_f c62 hf
            refine lv_aload M.x M.b d_T_tellPair_168 (lv_at hl 8 rfl) ?_
            replace hf := z_bind hf; obtain ⟨i44, e45, hf⟩ := hf
            refine z_getN (ci := 1) (k := 2) M hH rfl (by decide) zinF q_193 (gI_spec e45) d_T_tellPair_170 ?_
            refine lv_if_ne (tgt := 184) M.x M.b d_T_tellPair_173 (by decide) (fun c61 => ?_) (fun c61 => ?_)
            · replace hf := z_f c61 hf
              exact w_T_tellPair_184 M rec hn0 hrec this _ _ hf H locs ls hH hS (lv_sub hl [8] rfl)
            · replace hf := z_t c61 hf
              refine lv_aload M.x M.b d_T_tellPair_176 (lv_at hl 1 rfl) ?_
              replace hf := z_bind hf; obtain ⟨i46, e47, hf⟩ := hf
              refine z_getN (ci := 1) (k := 2) M hH rfl (by decide) zinF q_193 (gI_spec e47) d_T_tellPair_178 ?_
              refine lv_if_eq (tgt := 195) M.x M.b d_T_tellPair_181 (by decide) (fun c60 => ?_) (fun c60 => ?_)
              · replace hf := z_t c60 hf
                refine lv_iload M.x M.b d_T_tellPair_195 (lv_at hl 0 rfl) ?_
                refine lv_bipush (v := (7 : Int32)) M.x M.b d_T_tellPair_197 rfl ?_
                refine lv_icmp_ne (tgt := 221) M.x M.b d_T_tellPair_199 (by decide) (fun c59 => ?_) (fun c59 => ?_)
                · replace hf := z_f c59 hf
                  refine lv_aload M.x M.b d_T_tellPair_221 (lv_at hl 8 rfl) ?_
                  refine lv_aload M.x M.b d_T_tellPair_223 (lv_at hl 1 rfl) ?_
                  replace hf := z_bind hf; obtain ⟨h49, e48, hf⟩ := hf
                  refine zk_V (ci := 1) (st1 := []) M hH hS (c_F_multiply e48) rfl (o_F_multiply e48) w_F_multiply q_196 [] rfl (zR_n (by omega) (by decide)) hl.1 rfl rfl (Nat.le_of_ble_eq_true rfl) d_T_tellPair_225 (fun H locs hH hS => ?_)
                  refine lv_aload M.x M.b d_T_tellPair_228 (lv_at hl 8 rfl) ?_
                  refine lv_aload M.x M.b d_T_tellPair_230 (lv_at hl 8 rfl) ?_
                  replace hf := z_bind hf; obtain ⟨i50, e51, hf⟩ := hf
                  refine z_getN (ci := 1) (k := 3) M hH rfl (by decide) zinF q_183 (gI_spec e51) d_T_tellPair_232 ?_
                  refine lv_if_ne (tgt := 242) M.x M.b d_T_tellPair_235 (by decide) (fun c52 => ?_) (fun c52 => ?_)
                  · replace hf := z_f c52 hf
                    refine lv_iconst (v := (0 : Int32)) M.x M.b d_T_tellPair_242 rfl ?_
                    exact w_T_tellPair_243 M rec hn0 hrec this _ _ _ hf H locs ls hH hS (lv_sub hl [] rfl)
                  · replace hf := z_t c52 hf
                    refine lv_iconst (v := (1 : Int32)) M.x M.b d_T_tellPair_238 rfl ?_
                    refine lv_goto (tgt := 243) M.x M.b d_T_tellPair_239 (by decide) ?_
                    exact w_T_tellPair_243 M rec hn0 hrec this _ _ _ hf H locs ls hH hS (lv_sub hl [] rfl)
                · replace hf := z_t c59 hf
                  refine lv_aload M.x M.b d_T_tellPair_202 (lv_at hl 8 rfl) ?_
                  refine lv_aload M.x M.b d_T_tellPair_204 (lv_at hl 1 rfl) ?_
                  replace hf := z_bind hf; obtain ⟨l53, e54, hf⟩ := hf
                  refine z_getN (ci := 1) (k := 0) M hH rfl (by decide) zinF q_182 (gL_spec e54) d_T_tellPair_206 ?_
                  refine lv_aload M.x M.b d_T_tellPair_209 (lv_at hl 1 rfl) ?_
                  replace hf := z_bind hf; obtain ⟨l55, e56, hf⟩ := hf
                  refine z_getN (ci := 1) (k := 1) M hH rfl (by decide) zinF q_181 (gL_spec e56) d_T_tellPair_211 ?_
                  refine lv_iconst (v := (2 : Int32)) M.x M.b d_T_tellPair_214 rfl ?_
                  replace hf := z_bind hf; obtain ⟨h58, e57, hf⟩ := hf
                  refine zk_V (ci := 1) (st1 := []) M hH hS (c_F_addAndShare e57) rfl (o_F_addAndShare e57) w_F_addAndShare q_184 [] rfl (zR_n (by omega) (by decide)) hl.1 rfl rfl (Nat.le_of_ble_eq_true rfl) d_T_tellPair_215 (fun H locs hH hS => ?_)
                  refine lv_goto (tgt := 246) M.x M.b d_T_tellPair_218 (by decide) ?_
                  obtain rfl := z_r1 hf
                  exact z_vret M hH hS d_T_tellPair_246
              · replace hf := z_f c60 hf
                exact w_T_tellPair_184 M rec hn0 hrec this _ _ hf H locs ls hH hS (lv_sub hl [8] rfl)
          · replace hf := z_t c62 hf
            exact w_T_tellPair_113 M rec hn0 hrec this _ _ _ _ hf H locs ls hH hS (lv_sub hl [8, 1, 0] rfl)
      · replace hf := z_f c68 hf
        refine lv_aload M.x M.b d_T_tellPair_78 (lv_at hl 7 rfl) ?_
        refine lv_aload M.x M.b d_T_tellPair_80 (lv_at hl 0 rfl) ?_
        replace hf := z_bind hf; obtain ⟨i64, e65, hf⟩ := hf
        refine z_getN (ci := 1) (k := 3) M hH rfl (by decide) zinF q_183 (gI_spec e65) d_T_tellPair_82 ?_
        replace hf := z_bind hf; obtain ⟨h67, e66, hf⟩ := hf
        refine zk_V (ci := 1) (st1 := []) M hH hS (c_F_refuse e66) rfl (o_F_refuse e66) w_F_refuse q_173 [] rfl (zR_n (by omega) (by decide)) hl.1 rfl rfl (Nat.le_of_ble_eq_true rfl) d_T_tellPair_85 (fun H locs hH hS => ?_)
        obtain rfl := z_r1 hf
        exact z_vret M hH hS d_T_tellPair_88
    · replace hf := z_f c69 hf
      obtain rfl := z_r1 hf
      exact z_vret M hH hS d_T_tellPair_47
def f_T_tellLink_117 (rec : Nat → Int32 → Int32 → Int32 → Int32 → Int32 → Nat → Hp → Option (Hp)) (this : Nat) (k52 : Int32 → Int32 → Int32 → Int32 → Nat → Option Nat → Int32 → Int32 → Int32 → Hp → Option (Hp)) (x1 : Int32) (x2 : Int32) (x4 : Int32) (x5 : Int32) (x6 : Nat) (x7 : Option Nat) (x8 : Int32) (x9 : Int32) (x10 : Int32) (h : Hp) : Option (Hp) :=
  zm x7 (
    (gI h x6 1 3).bind fun i2 =>
    if i2 = 0 then
      k52 x1 x2 x4 x5 x6 none x8 x9 (x10 + (1 : Int32)) h
    else
    some h
  ) fun a1 =>
  (gI h x6 1 3).bind fun i5 =>
  if i5 = 0 then
    k52 x1 x2 x4 x5 x6 (some a1) x8 x9 (x10 + (1 : Int32)) h
  else
  some h
set_option maxRecDepth 100000 in
set_option maxHeartbeats 4000000 in
theorem w_T_tellLink_117 {p : Program} {l : Launch} {e : Env} {s : State} {m : MethodId} {args : Array Value} {below : List Frame} {meth : Method} {c : Code} {N0 : Nat} {D : va_G} {cs : Nat → ClassId} (M : ZC p s m args meth c "YearBaskets$Teller" "tellLink" b_T_tellLink 12 (none) N0 D cs) (rec : Nat → Int32 → Int32 → Int32 → Int32 → Int32 → Nat → Hp → Option (Hp)) {n0 : Nat} (hn0 : 8 ≤ n0) (hrec : ∀ {this : Nat} {x1 : Int32} {x2 : Int32} {x3 : Int32} {x4 : Int32} {x5 : Int32} {x6 : Nat} {h : Hp} {h0 : Hp}, rec this x1 x2 x3 x4 x5 x6 h = some h0 → Fn l N0 D cs y_T_tellTerm b_T_tellTerm 9 (none) n0 0 0 [.ref this, .int x1, .int x2, .int x3, .int x4, .int x5, .ref x6] h none h0 ∧ isO h this 6 = true) (this : Nat) (k52 : Int32 → Int32 → Int32 → Int32 → Nat → Option Nat → Int32 → Int32 → Int32 → Hp → Option (Hp)) {h0 : Hp} (hk52 : ∀ (x1 : Int32) (x2 : Int32) (x4 : Int32) (x5 : Int32) (x6 : Nat) (x7 : Option Nat) (x8 : Int32) (x9 : Int32) (x10 : Int32) (h : Hp), k52 x1 x2 x4 x5 x6 x7 x8 x9 x10 h = some h0 → ZG p l e (zrm (n0 + 1) 0 0) s m args below meth c N0 D cs none h0 h 12 [(0, .ref this), (1, .int x1), (2, .int x2), (4, .int x4), (5, .int x5), (6, .ref x6), (7, va_rf x7), (8, .int x8), (9, .int x9), (10, .int x10)] 52 []) (x1 : Int32) (x2 : Int32) (x4 : Int32) (x5 : Int32) (x6 : Nat) (x7 : Option Nat) (x8 : Int32) (x9 : Int32) (x10 : Int32) (h : Hp) (hf : f_T_tellLink_117 rec this k52 x1 x2 x4 x5 x6 x7 x8 x9 x10 h = some h0) : ZG p l e (zrm (n0 + 1) 0 0) s m args below meth c N0 D cs none h0 h 12 [(0, .ref this), (1, .int x1), (2, .int x2), (4, .int x4), (5, .int x5), (6, .ref x6), (7, va_rf x7), (8, .int x8), (9, .int x9), (10, .int x10)] 117 [] := by
  intro H locs ls hH hS hl
  unfold f_T_tellLink_117 at hf
  rcases x7 with _ | a1
  · replace hf := zm_n hf
    refine lv_aload M.x M.b d_T_tellLink_117 (lv_at hl 5 rfl) ?_
    replace hf := z_bind hf; obtain ⟨i2, e3, hf⟩ := hf
    refine z_getN (ci := 1) (k := 3) M hH rfl (by decide) zinF q_183 (gI_spec e3) d_T_tellLink_119 ?_
    refine lv_if_eq (tgt := 126) M.x M.b d_T_tellLink_122 (by decide) (fun c4 => ?_) (fun c4 => ?_)
    · replace hf := z_t c4 hf
      refine lv_iinc (v := (x10 + (1 : Int32))) (lv' := [(10, .int (x10 + (1 : Int32))), (0, .ref this), (1, .int x1), (2, .int x2), (4, .int x4), (5, .int x5), (6, .ref x6), (7, .null), (8, .int x8), (9, .int x9)]) M.x M.b d_T_tellLink_126 hl (k := 9) rfl rfl (by decide) rfl (fun ls hl => ?_)
      refine lv_goto (tgt := 52) M.x M.b d_T_tellLink_129 (by decide) ?_
      exact hk52 _ _ _ _ _ _ _ _ _ _ hf H locs ls hH hS (lv_sub hl [1, 2, 3, 4, 5, 6, 7, 8, 9, 0] rfl)
    · replace hf := z_f c4 hf
      obtain rfl := z_r1 hf
      exact z_vret M hH hS d_T_tellLink_125
  · replace hf := zm_s hf
    refine lv_aload M.x M.b d_T_tellLink_117 (lv_at hl 5 rfl) ?_
    replace hf := z_bind hf; obtain ⟨i5, e6, hf⟩ := hf
    refine z_getN (ci := 1) (k := 3) M hH rfl (by decide) zinF q_183 (gI_spec e6) d_T_tellLink_119 ?_
    refine lv_if_eq (tgt := 126) M.x M.b d_T_tellLink_122 (by decide) (fun c7 => ?_) (fun c7 => ?_)
    · replace hf := z_t c7 hf
      refine lv_iinc (v := (x10 + (1 : Int32))) (lv' := [(10, .int (x10 + (1 : Int32))), (0, .ref this), (1, .int x1), (2, .int x2), (4, .int x4), (5, .int x5), (6, .ref x6), (7, .ref a1), (8, .int x8), (9, .int x9)]) M.x M.b d_T_tellLink_126 hl (k := 9) rfl rfl (by decide) rfl (fun ls hl => ?_)
      refine lv_goto (tgt := 52) M.x M.b d_T_tellLink_129 (by decide) ?_
      exact hk52 _ _ _ _ _ _ _ _ _ _ hf H locs ls hH hS (lv_sub hl [1, 2, 3, 4, 5, 6, 7, 8, 9, 0] rfl)
    · replace hf := z_f c7 hf
      obtain rfl := z_r1 hf
      exact z_vret M hH hS d_T_tellLink_125
def f_T_tellLink_102 (rec : Nat → Int32 → Int32 → Int32 → Int32 → Int32 → Nat → Hp → Option (Hp)) (this : Nat) (k52 : Int32 → Int32 → Int32 → Int32 → Nat → Option Nat → Int32 → Int32 → Int32 → Hp → Option (Hp)) (s1 : Int32) (s2 : Int32) (s3 : Int32) (s4 : Int32) (s5 : Int32) (s6 : Option Nat) (x1 : Int32) (x2 : Int32) (x4 : Int32) (x5 : Int32) (x6 : Nat) (x7 : Option Nat) (x8 : Int32) (x9 : Int32) (x10 : Int32) (h : Hp) : Option (Hp) :=
  zm x7 (
    (s6).bind fun a9 =>
    (rec this s1 s2 s3 s4 s5 a9 h).bind fun h12 =>
    if x10 ≤ 0 then
      f_T_tellLink_117 rec this k52 x1 x2 x4 x5 x6 none x8 x9 x10 h12
    else
    none
  ) fun a8 =>
  (s6).bind fun a14 =>
  (rec this s1 s2 s3 s4 s5 a14 h).bind fun h17 =>
  if x10 ≤ 0 then
    f_T_tellLink_117 rec this k52 x1 x2 x4 x5 x6 (some a8) x8 x9 x10 h17
  else
  (f_F_multiply x6 a8 h17).bind fun h19 =>
  f_T_tellLink_117 rec this k52 x1 x2 x4 x5 x6 (some a8) x8 x9 x10 h19
set_option maxRecDepth 100000 in
set_option maxHeartbeats 4000000 in
theorem w_T_tellLink_102 {p : Program} {l : Launch} {e : Env} {s : State} {m : MethodId} {args : Array Value} {below : List Frame} {meth : Method} {c : Code} {N0 : Nat} {D : va_G} {cs : Nat → ClassId} (M : ZC p s m args meth c "YearBaskets$Teller" "tellLink" b_T_tellLink 12 (none) N0 D cs) (rec : Nat → Int32 → Int32 → Int32 → Int32 → Int32 → Nat → Hp → Option (Hp)) {n0 : Nat} (hn0 : 8 ≤ n0) (hrec : ∀ {this : Nat} {x1 : Int32} {x2 : Int32} {x3 : Int32} {x4 : Int32} {x5 : Int32} {x6 : Nat} {h : Hp} {h0 : Hp}, rec this x1 x2 x3 x4 x5 x6 h = some h0 → Fn l N0 D cs y_T_tellTerm b_T_tellTerm 9 (none) n0 0 0 [.ref this, .int x1, .int x2, .int x3, .int x4, .int x5, .ref x6] h none h0 ∧ isO h this 6 = true) (this : Nat) (k52 : Int32 → Int32 → Int32 → Int32 → Nat → Option Nat → Int32 → Int32 → Int32 → Hp → Option (Hp)) {h0 : Hp} (hk52 : ∀ (x1 : Int32) (x2 : Int32) (x4 : Int32) (x5 : Int32) (x6 : Nat) (x7 : Option Nat) (x8 : Int32) (x9 : Int32) (x10 : Int32) (h : Hp), k52 x1 x2 x4 x5 x6 x7 x8 x9 x10 h = some h0 → ZG p l e (zrm (n0 + 1) 0 0) s m args below meth c N0 D cs none h0 h 12 [(0, .ref this), (1, .int x1), (2, .int x2), (4, .int x4), (5, .int x5), (6, .ref x6), (7, va_rf x7), (8, .int x8), (9, .int x9), (10, .int x10)] 52 []) (s1 : Int32) (s2 : Int32) (s3 : Int32) (s4 : Int32) (s5 : Int32) (s6 : Option Nat) (x1 : Int32) (x2 : Int32) (x4 : Int32) (x5 : Int32) (x6 : Nat) (x7 : Option Nat) (x8 : Int32) (x9 : Int32) (x10 : Int32) (h : Hp) (hf : f_T_tellLink_102 rec this k52 s1 s2 s3 s4 s5 s6 x1 x2 x4 x5 x6 x7 x8 x9 x10 h = some h0) : ZG p l e (zrm (n0 + 1) 0 0) s m args below meth c N0 D cs none h0 h 12 [(0, .ref this), (1, .int x1), (2, .int x2), (4, .int x4), (5, .int x5), (6, .ref x6), (7, va_rf x7), (8, .int x8), (9, .int x9), (10, .int x10)] 102 [va_rf s6, .int s5, .int s4, .int s3, .int s2, .int s1, .ref this] := by
  intro H locs ls hH hS hl
  unfold f_T_tellLink_102 at hf
  rcases x7 with _ | a8
  · replace hf := zm_n hf
    rcases s6 with _ | a9
    · exact absurd hf z_nb0
    replace hf := z_sb hf
    replace hf := z_bind hf; obtain ⟨h12, e11, hf⟩ := hf
    refine zk_V (ci := 6) (st1 := []) M hH hS (hrec e11).1 rfl (hrec e11).2 w_T_tellTerm q_198 [] rfl (zR_n (by omega) (by decide)) hl.1 rfl rfl (Nat.le_of_ble_eq_true rfl) d_T_tellLink_102 (fun H locs hH hS => ?_)
    refine lv_iload M.x M.b d_T_tellLink_105 (lv_at hl 9 rfl) ?_
    refine lv_if_le (tgt := 117) M.x M.b d_T_tellLink_107 (by decide) (fun c13 => ?_) (fun c13 => ?_)
    · replace hf := z_t c13 hf
      exact w_T_tellLink_117 M rec hn0 hrec this k52 hk52 _ _ _ _ _ _ _ _ _ _ hf H locs ls hH hS (lv_sub hl [0, 1, 2, 3, 4, 5, 6, 7, 8, 9] rfl)
    · replace hf := z_f c13 hf
      refine lv_aload M.x M.b d_T_tellLink_110 (lv_at hl 5 rfl) ?_
      refine lv_aloadN M.x M.b d_T_tellLink_112 (lv_at hl 6 rfl) ?_
      cases hf
  · replace hf := zm_s hf
    rcases s6 with _ | a14
    · exact absurd hf z_nb0
    replace hf := z_sb hf
    replace hf := z_bind hf; obtain ⟨h17, e16, hf⟩ := hf
    refine zk_V (ci := 6) (st1 := []) M hH hS (hrec e16).1 rfl (hrec e16).2 w_T_tellTerm q_198 [] rfl (zR_n (by omega) (by decide)) hl.1 rfl rfl (Nat.le_of_ble_eq_true rfl) d_T_tellLink_102 (fun H locs hH hS => ?_)
    refine lv_iload M.x M.b d_T_tellLink_105 (lv_at hl 9 rfl) ?_
    refine lv_if_le (tgt := 117) M.x M.b d_T_tellLink_107 (by decide) (fun c20 => ?_) (fun c20 => ?_)
    · replace hf := z_t c20 hf
      exact w_T_tellLink_117 M rec hn0 hrec this k52 hk52 _ _ _ _ _ _ _ _ _ _ hf H locs ls hH hS (lv_sub hl [0, 1, 2, 3, 4, 5, 6, 7, 8, 9] rfl)
    · replace hf := z_f c20 hf
      refine lv_aload M.x M.b d_T_tellLink_110 (lv_at hl 5 rfl) ?_
      refine lv_aload M.x M.b d_T_tellLink_112 (lv_at hl 6 rfl) ?_
      replace hf := z_bind hf; obtain ⟨h19, e18, hf⟩ := hf
      refine zk_V (ci := 1) (st1 := []) M hH hS (c_F_multiply e18) rfl (o_F_multiply e18) w_F_multiply q_196 [] rfl (zR_n (by omega) (by decide)) hl.1 rfl rfl (Nat.le_of_ble_eq_true rfl) d_T_tellLink_114 (fun H locs hH hS => ?_)
      exact w_T_tellLink_117 M rec hn0 hrec this k52 hk52 _ _ _ _ _ _ _ _ _ _ hf H locs ls hH hS (lv_sub hl [0, 1, 2, 3, 4, 5, 6, 7, 8, 9] rfl)
def t_T_tellLink_52 (rec : Nat → Int32 → Int32 → Int32 → Int32 → Int32 → Nat → Hp → Option (Hp)) (this : Nat) (k52 : Int32 → Int32 → Int32 → Int32 → Nat → Option Nat → Int32 → Int32 → Int32 → Hp → Option (Hp)) (x1 : Int32) (x2 : Int32) (x4 : Int32) (x5 : Int32) (x6 : Nat) (x7 : Option Nat) (x8 : Int32) (x9 : Int32) (x10 : Int32) (h : Hp) : Option (Hp) :=
  zm x7 (
    if x9 ≤ x10 then
      some h
    else
    if (8 : Int32) ≤ x10 then
      some h
    else
    if x10 = 0 then
      f_T_tellLink_102 rec this k52 x1 (x2 + (x10 * x8)) ((x2 + (x10 * x8)) + x8) x4 (x5 + (1 : Int32)) (some x6) x1 x2 x4 x5 x6 none x8 x9 x10 h
    else
    f_T_tellLink_102 rec this k52 x1 (x2 + (x10 * x8)) ((x2 + (x10 * x8)) + x8) x4 (x5 + (1 : Int32)) none x1 x2 x4 x5 x6 none x8 x9 x10 h
  ) fun a21 =>
  if x9 ≤ x10 then
    some h
  else
  if (8 : Int32) ≤ x10 then
    some h
  else
  if x10 = 0 then
    f_T_tellLink_102 rec this k52 x1 (x2 + (x10 * x8)) ((x2 + (x10 * x8)) + x8) x4 (x5 + (1 : Int32)) (some x6) x1 x2 x4 x5 x6 (some a21) x8 x9 x10 h
  else
  f_T_tellLink_102 rec this k52 x1 (x2 + (x10 * x8)) ((x2 + (x10 * x8)) + x8) x4 (x5 + (1 : Int32)) (some a21) x1 x2 x4 x5 x6 (some a21) x8 x9 x10 h
set_option maxRecDepth 100000 in
set_option maxHeartbeats 4000000 in
theorem v_T_tellLink_52 {p : Program} {l : Launch} {e : Env} {s : State} {m : MethodId} {args : Array Value} {below : List Frame} {meth : Method} {c : Code} {N0 : Nat} {D : va_G} {cs : Nat → ClassId} (M : ZC p s m args meth c "YearBaskets$Teller" "tellLink" b_T_tellLink 12 (none) N0 D cs) (rec : Nat → Int32 → Int32 → Int32 → Int32 → Int32 → Nat → Hp → Option (Hp)) {n0 : Nat} (hn0 : 8 ≤ n0) (hrec : ∀ {this : Nat} {x1 : Int32} {x2 : Int32} {x3 : Int32} {x4 : Int32} {x5 : Int32} {x6 : Nat} {h : Hp} {h0 : Hp}, rec this x1 x2 x3 x4 x5 x6 h = some h0 → Fn l N0 D cs y_T_tellTerm b_T_tellTerm 9 (none) n0 0 0 [.ref this, .int x1, .int x2, .int x3, .int x4, .int x5, .ref x6] h none h0 ∧ isO h this 6 = true) (this : Nat) (k52 : Int32 → Int32 → Int32 → Int32 → Nat → Option Nat → Int32 → Int32 → Int32 → Hp → Option (Hp)) {h0 : Hp} (hk52 : ∀ (x1 : Int32) (x2 : Int32) (x4 : Int32) (x5 : Int32) (x6 : Nat) (x7 : Option Nat) (x8 : Int32) (x9 : Int32) (x10 : Int32) (h : Hp), k52 x1 x2 x4 x5 x6 x7 x8 x9 x10 h = some h0 → ZG p l e (zrm (n0 + 1) 0 0) s m args below meth c N0 D cs none h0 h 12 [(0, .ref this), (1, .int x1), (2, .int x2), (4, .int x4), (5, .int x5), (6, .ref x6), (7, va_rf x7), (8, .int x8), (9, .int x9), (10, .int x10)] 52 []) (x1 : Int32) (x2 : Int32) (x4 : Int32) (x5 : Int32) (x6 : Nat) (x7 : Option Nat) (x8 : Int32) (x9 : Int32) (x10 : Int32) (h : Hp) (hf : t_T_tellLink_52 rec this k52 x1 x2 x4 x5 x6 x7 x8 x9 x10 h = some h0) : ZG p l e (zrm (n0 + 1) 0 0) s m args below meth c N0 D cs none h0 h 12 [(0, .ref this), (1, .int x1), (2, .int x2), (4, .int x4), (5, .int x5), (6, .ref x6), (7, va_rf x7), (8, .int x8), (9, .int x9), (10, .int x10)] 52 [] := by
  intro H locs ls hH hS hl
  unfold t_T_tellLink_52 at hf
  rcases x7 with _ | a21
  · replace hf := zm_n hf
    refine lv_iload M.x M.b d_T_tellLink_52 (lv_at hl 9 rfl) ?_
    refine lv_iload M.x M.b d_T_tellLink_54 (lv_at hl 8 rfl) ?_
    refine lv_icmp_ge (tgt := 132) M.x M.b d_T_tellLink_56 (by decide) (fun c24 => ?_) (fun c24 => ?_)
    · replace hf := z_t c24 hf
      obtain rfl := z_r1 hf
      exact z_vret M hH hS d_T_tellLink_132
    · replace hf := z_f c24 hf
      refine lv_iload M.x M.b d_T_tellLink_59 (lv_at hl 9 rfl) ?_
      refine lv_bipush (v := (8 : Int32)) M.x M.b d_T_tellLink_61 rfl ?_
      refine lv_icmp_ge (tgt := 132) M.x M.b d_T_tellLink_63 (by decide) (fun c23 => ?_) (fun c23 => ?_)
      · replace hf := z_t c23 hf
        obtain rfl := z_r1 hf
        exact z_vret M hH hS d_T_tellLink_132
      · replace hf := z_f c23 hf
        refine lv_iload_n M.x M.b d_T_tellLink_66 rfl (lv_at hl 2 rfl) ?_
        refine lv_iload M.x M.b d_T_tellLink_67 (lv_at hl 9 rfl) ?_
        refine lv_iload M.x M.b d_T_tellLink_69 (lv_at hl 7 rfl) ?_
        refine lv_imul M.x M.b d_T_tellLink_71 ?_
        refine lv_iadd M.x M.b d_T_tellLink_72 ?_
        refine lv_istore (lv' := [(11, .int (x2 + (x10 * x8))), (0, .ref this), (1, .int x1), (2, .int x2), (4, .int x4), (5, .int x5), (6, .ref x6), (7, .null), (8, .int x8), (9, .int x9), (10, .int x10)]) M.x M.b d_T_tellLink_73 hl (by decide) rfl (fun ls hl => ?_)
        refine lv_aload_n M.x M.b d_T_tellLink_75 rfl (lv_at hl 1 rfl) ?_
        refine lv_iload_n M.x M.b d_T_tellLink_76 rfl (lv_at hl 2 rfl) ?_
        refine lv_iload M.x M.b d_T_tellLink_77 (lv_at hl 0 rfl) ?_
        refine lv_iload M.x M.b d_T_tellLink_79 (lv_at hl 0 rfl) ?_
        refine lv_iload M.x M.b d_T_tellLink_81 (lv_at hl 8 rfl) ?_
        refine lv_iadd M.x M.b d_T_tellLink_83 ?_
        refine lv_iload M.x M.b d_T_tellLink_84 (lv_at hl 4 rfl) ?_
        refine lv_iload M.x M.b d_T_tellLink_86 (lv_at hl 5 rfl) ?_
        refine lv_iconst (v := (1 : Int32)) M.x M.b d_T_tellLink_88 rfl ?_
        refine lv_iadd M.x M.b d_T_tellLink_89 ?_
        refine lv_iload M.x M.b d_T_tellLink_90 (lv_at hl 10 rfl) ?_
        refine lv_if_ne (tgt := 100) M.x M.b d_T_tellLink_92 (by decide) (fun c22 => ?_) (fun c22 => ?_)
        · replace hf := z_f c22 hf
          refine lv_aloadN M.x M.b d_T_tellLink_100 (lv_at hl 7 rfl) ?_
          exact w_T_tellLink_102 M rec hn0 hrec this k52 hk52 _ _ _ _ _ _ _ _ _ _ _ _ _ _ _ _ hf H locs ls hH hS (lv_sub hl [1, 2, 3, 4, 5, 6, 7, 8, 9, 10] rfl)
        · replace hf := z_t c22 hf
          refine lv_aload M.x M.b d_T_tellLink_95 (lv_at hl 6 rfl) ?_
          refine lv_goto (tgt := 102) M.x M.b d_T_tellLink_97 (by decide) ?_
          exact w_T_tellLink_102 M rec hn0 hrec this k52 hk52 _ _ _ _ _ _ _ _ _ _ _ _ _ _ _ _ hf H locs ls hH hS (lv_sub hl [1, 2, 3, 4, 5, 6, 7, 8, 9, 10] rfl)
  · replace hf := zm_s hf
    refine lv_iload M.x M.b d_T_tellLink_52 (lv_at hl 9 rfl) ?_
    refine lv_iload M.x M.b d_T_tellLink_54 (lv_at hl 8 rfl) ?_
    refine lv_icmp_ge (tgt := 132) M.x M.b d_T_tellLink_56 (by decide) (fun c27 => ?_) (fun c27 => ?_)
    · replace hf := z_t c27 hf
      obtain rfl := z_r1 hf
      exact z_vret M hH hS d_T_tellLink_132
    · replace hf := z_f c27 hf
      refine lv_iload M.x M.b d_T_tellLink_59 (lv_at hl 9 rfl) ?_
      refine lv_bipush (v := (8 : Int32)) M.x M.b d_T_tellLink_61 rfl ?_
      refine lv_icmp_ge (tgt := 132) M.x M.b d_T_tellLink_63 (by decide) (fun c26 => ?_) (fun c26 => ?_)
      · replace hf := z_t c26 hf
        obtain rfl := z_r1 hf
        exact z_vret M hH hS d_T_tellLink_132
      · replace hf := z_f c26 hf
        refine lv_iload_n M.x M.b d_T_tellLink_66 rfl (lv_at hl 2 rfl) ?_
        refine lv_iload M.x M.b d_T_tellLink_67 (lv_at hl 9 rfl) ?_
        refine lv_iload M.x M.b d_T_tellLink_69 (lv_at hl 7 rfl) ?_
        refine lv_imul M.x M.b d_T_tellLink_71 ?_
        refine lv_iadd M.x M.b d_T_tellLink_72 ?_
        refine lv_istore (lv' := [(11, .int (x2 + (x10 * x8))), (0, .ref this), (1, .int x1), (2, .int x2), (4, .int x4), (5, .int x5), (6, .ref x6), (7, .ref a21), (8, .int x8), (9, .int x9), (10, .int x10)]) M.x M.b d_T_tellLink_73 hl (by decide) rfl (fun ls hl => ?_)
        refine lv_aload_n M.x M.b d_T_tellLink_75 rfl (lv_at hl 1 rfl) ?_
        refine lv_iload_n M.x M.b d_T_tellLink_76 rfl (lv_at hl 2 rfl) ?_
        refine lv_iload M.x M.b d_T_tellLink_77 (lv_at hl 0 rfl) ?_
        refine lv_iload M.x M.b d_T_tellLink_79 (lv_at hl 0 rfl) ?_
        refine lv_iload M.x M.b d_T_tellLink_81 (lv_at hl 8 rfl) ?_
        refine lv_iadd M.x M.b d_T_tellLink_83 ?_
        refine lv_iload M.x M.b d_T_tellLink_84 (lv_at hl 4 rfl) ?_
        refine lv_iload M.x M.b d_T_tellLink_86 (lv_at hl 5 rfl) ?_
        refine lv_iconst (v := (1 : Int32)) M.x M.b d_T_tellLink_88 rfl ?_
        refine lv_iadd M.x M.b d_T_tellLink_89 ?_
        refine lv_iload M.x M.b d_T_tellLink_90 (lv_at hl 10 rfl) ?_
        refine lv_if_ne (tgt := 100) M.x M.b d_T_tellLink_92 (by decide) (fun c25 => ?_) (fun c25 => ?_)
        · replace hf := z_f c25 hf
          refine lv_aload M.x M.b d_T_tellLink_100 (lv_at hl 7 rfl) ?_
          exact w_T_tellLink_102 M rec hn0 hrec this k52 hk52 _ _ _ _ _ _ _ _ _ _ _ _ _ _ _ _ hf H locs ls hH hS (lv_sub hl [1, 2, 3, 4, 5, 6, 7, 8, 9, 10] rfl)
        · replace hf := z_t c25 hf
          refine lv_aload M.x M.b d_T_tellLink_95 (lv_at hl 6 rfl) ?_
          refine lv_goto (tgt := 102) M.x M.b d_T_tellLink_97 (by decide) ?_
          exact w_T_tellLink_102 M rec hn0 hrec this k52 hk52 _ _ _ _ _ _ _ _ _ _ _ _ _ _ _ _ hf H locs ls hH hS (lv_sub hl [1, 2, 3, 4, 5, 6, 7, 8, 9, 10] rfl)
def f_T_tellLink_52 (rec : Nat → Int32 → Int32 → Int32 → Int32 → Int32 → Nat → Hp → Option (Hp)) (this : Nat) : Nat → Int32 → Int32 → Int32 → Int32 → Nat → Option Nat → Int32 → Int32 → Int32 → Hp → Option (Hp)
  | 0, _, _, _, _, _, _, _, _, _, _ => none
  | n + 1, x1, x2, x4, x5, x6, x7, x8, x9, x10, h => t_T_tellLink_52 rec this (f_T_tellLink_52 rec this n) x1 x2 x4 x5 x6 x7 x8 x9 x10 h
theorem w_T_tellLink_52 {p : Program} {l : Launch} {e : Env} {s : State} {m : MethodId} {args : Array Value} {below : List Frame} {meth : Method} {c : Code} {N0 : Nat} {D : va_G} {cs : Nat → ClassId} (M : ZC p s m args meth c "YearBaskets$Teller" "tellLink" b_T_tellLink 12 (none) N0 D cs) (rec : Nat → Int32 → Int32 → Int32 → Int32 → Int32 → Nat → Hp → Option (Hp)) {n0 : Nat} (hn0 : 8 ≤ n0) (hrec : ∀ {this : Nat} {x1 : Int32} {x2 : Int32} {x3 : Int32} {x4 : Int32} {x5 : Int32} {x6 : Nat} {h : Hp} {h0 : Hp}, rec this x1 x2 x3 x4 x5 x6 h = some h0 → Fn l N0 D cs y_T_tellTerm b_T_tellTerm 9 (none) n0 0 0 [.ref this, .int x1, .int x2, .int x3, .int x4, .int x5, .ref x6] h none h0 ∧ isO h this 6 = true) (this : Nat)  {h0 : Hp}  : ∀ (n : Nat) (x1 : Int32) (x2 : Int32) (x4 : Int32) (x5 : Int32) (x6 : Nat) (x7 : Option Nat) (x8 : Int32) (x9 : Int32) (x10 : Int32) (h : Hp), f_T_tellLink_52 rec this n x1 x2 x4 x5 x6 x7 x8 x9 x10 h = some h0 → ZG p l e (zrm (n0 + 1) 0 0) s m args below meth c N0 D cs none h0 h 12 [(0, .ref this), (1, .int x1), (2, .int x2), (4, .int x4), (5, .int x5), (6, .ref x6), (7, va_rf x7), (8, .int x8), (9, .int x9), (10, .int x10)] 52 [] := by
  intro n
  induction n with
  | zero => intro x1 x2 x4 x5 x6 x7 x8 x9 x10 h hf; exact absurd (show none = some _ from hf) (fun q => by cases q)
  | succ n ih => intro x1 x2 x4 x5 x6 x7 x8 x9 x10 h hf; exact v_T_tellLink_52 M rec hn0 hrec this (f_T_tellLink_52 rec this n)  ih _ _ _ _ _ _ _ _ _ _ hf
def f_T_tellLink_39 (rec : Nat → Int32 → Int32 → Int32 → Int32 → Int32 → Nat → Hp → Option (Hp)) (this : Nat) (s0 : Int32) (x1 : Int32) (x2 : Int32) (x3 : Int32) (x4 : Int32) (x5 : Int32) (x6 : Nat) (x7 : Option Nat) (h : Hp) : Option (Hp) :=
  zm x7 (
    f_T_tellLink_52 rec this FU x1 x2 x4 x5 x6 none s0 (if 0 ≤ (x3 - x2) then (x3 - x2) else 0 - (x3 - x2)) (0 : Int32) h
  ) fun a28 =>
  f_T_tellLink_52 rec this FU x1 x2 x4 x5 x6 (some a28) s0 (if 0 ≤ (x3 - x2) then (x3 - x2) else 0 - (x3 - x2)) (0 : Int32) h
set_option maxRecDepth 100000 in
set_option maxHeartbeats 4000000 in
theorem w_T_tellLink_39 {p : Program} {l : Launch} {e : Env} {s : State} {m : MethodId} {args : Array Value} {below : List Frame} {meth : Method} {c : Code} {N0 : Nat} {D : va_G} {cs : Nat → ClassId} (M : ZC p s m args meth c "YearBaskets$Teller" "tellLink" b_T_tellLink 12 (none) N0 D cs) (rec : Nat → Int32 → Int32 → Int32 → Int32 → Int32 → Nat → Hp → Option (Hp)) {n0 : Nat} (hn0 : 8 ≤ n0) (hrec : ∀ {this : Nat} {x1 : Int32} {x2 : Int32} {x3 : Int32} {x4 : Int32} {x5 : Int32} {x6 : Nat} {h : Hp} {h0 : Hp}, rec this x1 x2 x3 x4 x5 x6 h = some h0 → Fn l N0 D cs y_T_tellTerm b_T_tellTerm 9 (none) n0 0 0 [.ref this, .int x1, .int x2, .int x3, .int x4, .int x5, .ref x6] h none h0 ∧ isO h this 6 = true) (this : Nat)  {h0 : Hp}  (s0 : Int32) (x1 : Int32) (x2 : Int32) (x3 : Int32) (x4 : Int32) (x5 : Int32) (x6 : Nat) (x7 : Option Nat) (h : Hp) (hf : f_T_tellLink_39 rec this s0 x1 x2 x3 x4 x5 x6 x7 h = some h0) : ZG p l e (zrm (n0 + 1) 0 0) s m args below meth c N0 D cs none h0 h 12 [(0, .ref this), (1, .int x1), (2, .int x2), (3, .int x3), (4, .int x4), (5, .int x5), (6, .ref x6), (7, va_rf x7)] 39 [.int s0] := by
  intro H locs ls hH hS hl
  unfold f_T_tellLink_39 at hf
  rcases x7 with _ | a28
  · replace hf := zm_n hf
    refine lv_istore (lv' := [(8, .int s0), (0, .ref this), (1, .int x1), (2, .int x2), (3, .int x3), (4, .int x4), (5, .int x5), (6, .ref x6), (7, .null)]) M.x M.b d_T_tellLink_39 hl (by decide) rfl (fun ls hl => ?_)
    refine lv_iload_n M.x M.b d_T_tellLink_41 rfl (lv_at hl 4 rfl) ?_
    refine lv_iload_n M.x M.b d_T_tellLink_42 rfl (lv_at hl 3 rfl) ?_
    refine lv_isub M.x M.b d_T_tellLink_43 ?_
    refine z_mabs M q_204 q_164 q_165 q_166 hl.1 (Nat.le_add_left _ _) (by show _ ≤ 60 * _; simp; omega) d_T_tellLink_44 ?_
    refine lv_istore (lv' := [(9, .int (if 0 ≤ (x3 - x2) then (x3 - x2) else 0 - (x3 - x2))), (8, .int s0), (0, .ref this), (1, .int x1), (2, .int x2), (3, .int x3), (4, .int x4), (5, .int x5), (6, .ref x6), (7, .null)]) M.x M.b d_T_tellLink_47 hl (by decide) rfl (fun ls hl => ?_)
    refine lv_iconst (v := (0 : Int32)) M.x M.b d_T_tellLink_49 rfl ?_
    refine lv_istore (lv' := [(10, .int (0 : Int32)), (9, .int (if 0 ≤ (x3 - x2) then (x3 - x2) else 0 - (x3 - x2))), (8, .int s0), (0, .ref this), (1, .int x1), (2, .int x2), (3, .int x3), (4, .int x4), (5, .int x5), (6, .ref x6), (7, .null)]) M.x M.b d_T_tellLink_50 hl (by decide) rfl (fun ls hl => ?_)
    exact w_T_tellLink_52 M rec hn0 hrec this FU _ _ _ _ _ _ _ _ _ _ hf H locs ls hH hS (lv_sub hl [3, 4, 5, 7, 8, 9, 10, 2, 1, 0] rfl)
  · replace hf := zm_s hf
    refine lv_istore (lv' := [(8, .int s0), (0, .ref this), (1, .int x1), (2, .int x2), (3, .int x3), (4, .int x4), (5, .int x5), (6, .ref x6), (7, .ref a28)]) M.x M.b d_T_tellLink_39 hl (by decide) rfl (fun ls hl => ?_)
    refine lv_iload_n M.x M.b d_T_tellLink_41 rfl (lv_at hl 4 rfl) ?_
    refine lv_iload_n M.x M.b d_T_tellLink_42 rfl (lv_at hl 3 rfl) ?_
    refine lv_isub M.x M.b d_T_tellLink_43 ?_
    refine z_mabs M q_204 q_164 q_165 q_166 hl.1 (Nat.le_add_left _ _) (by show _ ≤ 60 * _; simp; omega) d_T_tellLink_44 ?_
    refine lv_istore (lv' := [(9, .int (if 0 ≤ (x3 - x2) then (x3 - x2) else 0 - (x3 - x2))), (8, .int s0), (0, .ref this), (1, .int x1), (2, .int x2), (3, .int x3), (4, .int x4), (5, .int x5), (6, .ref x6), (7, .ref a28)]) M.x M.b d_T_tellLink_47 hl (by decide) rfl (fun ls hl => ?_)
    refine lv_iconst (v := (0 : Int32)) M.x M.b d_T_tellLink_49 rfl ?_
    refine lv_istore (lv' := [(10, .int (0 : Int32)), (9, .int (if 0 ≤ (x3 - x2) then (x3 - x2) else 0 - (x3 - x2))), (8, .int s0), (0, .ref this), (1, .int x1), (2, .int x2), (3, .int x3), (4, .int x4), (5, .int x5), (6, .ref x6), (7, .ref a28)]) M.x M.b d_T_tellLink_50 hl (by decide) rfl (fun ls hl => ?_)
    exact w_T_tellLink_52 M rec hn0 hrec this FU _ _ _ _ _ _ _ _ _ _ hf H locs ls hH hS (lv_sub hl [3, 4, 5, 7, 8, 9, 10, 2, 1, 0] rfl)
def f_T_tellLink (rec : Nat → Int32 → Int32 → Int32 → Int32 → Int32 → Nat → Hp → Option (Hp)) (this : Nat) (x1 : Int32) (x2 : Int32) (x3 : Int32) (x4 : Int32) (x5 : Int32) (x6 : Nat) (h : Hp) : Option (Hp) :=
  if isO h this 6 = true then
  (f_T_spareAt this h x5).bind fun r30 =>
  zm r30 (
    (f_F_refuse x6 (-1003 : Int32) h).bind fun h33 =>
    some h33
  ) fun a31 =>
  (f_F_put x6 (1 : Int64) (1 : Int64) h).bind fun h35 =>
  if x3 ≤ x2 then
    f_T_tellLink_39 rec this (-1 : Int32) x1 x2 x3 x4 x5 x6 (some a31) h35
  else
  f_T_tellLink_39 rec this (1 : Int32) x1 x2 x3 x4 x5 x6 (some a31) h35
  else none
theorem o_T_tellLink {rec : Nat → Int32 → Int32 → Int32 → Int32 → Int32 → Nat → Hp → Option (Hp)} {this : Nat} {x1 : Int32} {x2 : Int32} {x3 : Int32} {x4 : Int32} {x5 : Int32} {x6 : Nat} {h : Hp} {h0 : Hp} (hf : f_T_tellLink rec this x1 x2 x3 x4 x5 x6 h = some h0) : isO h this 6 = true := by
  unfold f_T_tellLink at hf
  exact (z_gd hf).1
set_option maxRecDepth 100000 in
set_option maxHeartbeats 4000000 in
theorem c_T_tellLink {l : Launch} {N0 : Nat} {D : va_G} {cs : Nat → ClassId} (rec : Nat → Int32 → Int32 → Int32 → Int32 → Int32 → Nat → Hp → Option (Hp)) {n0 : Nat} (hn0 : 8 ≤ n0) (hrec : ∀ {this : Nat} {x1 : Int32} {x2 : Int32} {x3 : Int32} {x4 : Int32} {x5 : Int32} {x6 : Nat} {h : Hp} {h0 : Hp}, rec this x1 x2 x3 x4 x5 x6 h = some h0 → Fn l N0 D cs y_T_tellTerm b_T_tellTerm 9 (none) n0 0 0 [.ref this, .int x1, .int x2, .int x3, .int x4, .int x5, .ref x6] h none h0 ∧ isO h this 6 = true) {this : Nat} {x1 : Int32} {x2 : Int32} {x3 : Int32} {x4 : Int32} {x5 : Int32} {x6 : Nat} {h : Hp} {h0 : Hp} (hf : f_T_tellLink rec this x1 x2 x3 x4 x5 x6 h = some h0) : Fn l N0 D cs y_T_tellLink b_T_tellLink 12 (none) (n0 + 1) 0 0 [.ref this, .int x1, .int x2, .int x3, .int x4, .int x5, .ref x6] h none h0 := by
  refine z_start (by decide) (Nat.le_of_ble_eq_true rfl) ?_
  intro p e s m args below meth c M hH hS ls hl
  unfold f_T_tellLink at hf
  obtain ⟨hO, hf⟩ := z_gd hf
  have hl : lv_has ls 12 [(0, .ref this), (1, .int x1), (2, .int x2), (3, .int x3), (4, .int x4), (5, .int x5), (6, .ref x6)] := hl
  obtain ⟨H, hHe⟩ : ∃ H, H = s.heap := ⟨_, rfl⟩
  obtain ⟨locs, hLe⟩ : ∃ locs : List Loc, locs = [] := ⟨_, rfl⟩
  have hS : va_S (zA N0) s.heap H locs := by rw [hHe, hLe]; exact hS
  have hH : HH N0 D cs h H := by rw [hHe]; exact hH
  suffices hg : W p l e (zrm (n0 + 1) 0 0) s m args below meth c H locs 0 0 (MQ below (zQ N0 D cs none h0) args s 0 0 (zA N0)) (F0 m 0 ls []) by rw [hHe, hLe] at hg; exact hg
  clear hHe hLe
  refine lv_aload_n M.x M.b d_T_tellLink_0 rfl (lv_at hl 0 rfl) ?_
  refine lv_iload M.x M.b d_T_tellLink_1 (lv_at hl 5 rfl) ?_
  replace hf := z_bind hf; obtain ⟨r30, e29, hf⟩ := hf
  refine zk_V (ci := 6) (st1 := [va_rf r30]) M hH hS (c_T_spareAt e29) rfl (o_T_spareAt e29) w_T_spareAt q_200 [] rfl (zR_n (by omega) (by decide)) hl.1 rfl rfl (Nat.le_of_ble_eq_true rfl) d_T_tellLink_3 (fun H locs hH hS => ?_)
  rcases r30 with _ | a31
  · replace hf := zm_n hf
    refine lv_astoreN (lv' := [(7, .null), (0, .ref this), (1, .int x1), (2, .int x2), (3, .int x3), (4, .int x4), (5, .int x5), (6, .ref x6)]) M.x M.b d_T_tellLink_6 hl (by decide) rfl (fun ls hl => ?_)
    refine lv_aloadN M.x M.b d_T_tellLink_8 (lv_at hl 0 rfl) ?_
    refine lv_ifnonnullN M.x M.b d_T_tellLink_10 ?_
    refine lv_aload M.x M.b d_T_tellLink_13 (lv_at hl 7 rfl) ?_
    refine lv_sipush (v := (-1003 : Int32)) M.x M.b d_T_tellLink_15 rfl ?_
    replace hf := z_bind hf; obtain ⟨h33, e32, hf⟩ := hf
    refine zk_V (ci := 1) (st1 := []) M hH hS (c_F_refuse e32) rfl (o_F_refuse e32) w_F_refuse q_173 [] rfl (zR_n (by omega) (by decide)) hl.1 rfl rfl (Nat.le_of_ble_eq_true rfl) d_T_tellLink_18 (fun H locs hH hS => ?_)
    obtain rfl := z_r1 hf
    exact z_vret M hH hS d_T_tellLink_21
  · replace hf := zm_s hf
    refine lv_astore (lv' := [(7, .ref a31), (0, .ref this), (1, .int x1), (2, .int x2), (3, .int x3), (4, .int x4), (5, .int x5), (6, .ref x6)]) M.x M.b d_T_tellLink_6 hl (by decide) rfl (fun ls hl => ?_)
    refine lv_aload M.x M.b d_T_tellLink_8 (lv_at hl 0 rfl) ?_
    refine lv_ifnonnull (tgt := 22) M.x M.b d_T_tellLink_10 (by decide) ?_
    refine lv_aload M.x M.b d_T_tellLink_22 (lv_at hl 7 rfl) ?_
    refine lv_lconst (v := (1 : Int64)) M.x M.b d_T_tellLink_24 rfl ?_
    refine lv_lconst (v := (1 : Int64)) M.x M.b d_T_tellLink_25 rfl ?_
    replace hf := z_bind hf; obtain ⟨h35, e34, hf⟩ := hf
    refine zk_V (ci := 1) (st1 := []) M hH hS (c_F_put e34) rfl (o_F_put e34) w_F_put q_180 [] rfl (zR_n (by omega) (by decide)) hl.1 rfl rfl (Nat.le_of_ble_eq_true rfl) d_T_tellLink_26 (fun H locs hH hS => ?_)
    refine lv_iload_n M.x M.b d_T_tellLink_29 rfl (lv_at hl 3 rfl) ?_
    refine lv_iload_n M.x M.b d_T_tellLink_30 rfl (lv_at hl 4 rfl) ?_
    refine lv_icmp_ge (tgt := 38) M.x M.b d_T_tellLink_31 (by decide) (fun c36 => ?_) (fun c36 => ?_)
    · replace hf := z_t c36 hf
      refine lv_iconst (v := (-1 : Int32)) M.x M.b d_T_tellLink_38 rfl ?_
      exact w_T_tellLink_39 M rec hn0 hrec this _ _ _ _ _ _ _ _ _ hf H locs ls hH hS (lv_sub hl [1, 2, 3, 4, 5, 6, 7, 0] rfl)
    · replace hf := z_f c36 hf
      refine lv_iconst (v := (1 : Int32)) M.x M.b d_T_tellLink_34 rfl ?_
      refine lv_goto (tgt := 39) M.x M.b d_T_tellLink_35 (by decide) ?_
      exact w_T_tellLink_39 M rec hn0 hrec this _ _ _ _ _ _ _ _ _ hf H locs ls hH hS (lv_sub hl [1, 2, 3, 4, 5, 6, 7, 0] rfl)
def f_T_together (x0 : Int32) (x1 : Int32) : Option (Int32) :=
  if x0 = (-1 : Int32) then
    some (-1 : Int32)
  else
  if x1 = (-1 : Int32) then
    some (-1 : Int32)
  else
  some (x0 + x1)
set_option maxRecDepth 100000 in
set_option maxHeartbeats 4000000 in
theorem c_T_together {l : Launch} {N0 : Nat} {D : va_G} {cs : Nat → ClassId} {x0 : Int32} {x1 : Int32} {r0 : Int32} {h : Hp} (hf : f_T_together x0 x1 = some r0) : Fn l N0 D cs y_T_together b_T_together 2 (some .int) 1 0 0 [.int x0, .int x1] h (some (.int r0)) h := by
  refine z_start (by decide) (Nat.le_of_ble_eq_true rfl) ?_
  intro p e s m args below meth c M hH hS ls hl
  unfold f_T_together at hf
  have hl : lv_has ls 2 [(0, .int x0), (1, .int x1)] := hl
  obtain ⟨H, hHe⟩ : ∃ H, H = s.heap := ⟨_, rfl⟩
  obtain ⟨locs, hLe⟩ : ∃ locs : List Loc, locs = [] := ⟨_, rfl⟩
  have hS : va_S (zA N0) s.heap H locs := by rw [hHe, hLe]; exact hS
  have hH : HH N0 D cs h H := by rw [hHe]; exact hH
  suffices hg : W p l e (zrm 1 0 0) s m args below meth c H locs 0 0 (MQ below (zQ N0 D cs (some (.int r0)) h) args s 0 0 (zA N0)) (F0 m 0 ls []) by rw [hHe, hLe] at hg; exact hg
  clear hHe hLe
  refine lv_iload_n M.x M.b d_T_together_0 rfl (lv_at hl 0 rfl) ?_
  refine lv_iconst (v := (-1 : Int32)) M.x M.b d_T_together_1 rfl ?_
  refine lv_icmp_eq (tgt := 10) M.x M.b d_T_together_2 (by decide) (fun c2 => ?_) (fun c2 => ?_)
  · replace hf := z_t c2 hf
    refine lv_iconst (v := (-1 : Int32)) M.x M.b d_T_together_10 rfl ?_
    refine lv_goto (tgt := 17) M.x M.b d_T_together_11 (by decide) ?_
    obtain rfl := z_r1 hf
    exact z_iret M hH hS d_T_together_17
  · replace hf := z_f c2 hf
    refine lv_iload_n M.x M.b d_T_together_5 rfl (lv_at hl 1 rfl) ?_
    refine lv_iconst (v := (-1 : Int32)) M.x M.b d_T_together_6 rfl ?_
    refine lv_icmp_ne (tgt := 14) M.x M.b d_T_together_7 (by decide) (fun c1 => ?_) (fun c1 => ?_)
    · replace hf := z_f c1 hf
      refine lv_iload_n M.x M.b d_T_together_14 rfl (lv_at hl 0 rfl) ?_
      refine lv_iload_n M.x M.b d_T_together_15 rfl (lv_at hl 1 rfl) ?_
      refine lv_iadd M.x M.b d_T_together_16 ?_
      obtain rfl := z_r1 hf
      exact z_iret M hH hS d_T_together_17
    · replace hf := z_t c1 hf
      refine lv_iconst (v := (-1 : Int32)) M.x M.b d_T_together_10 rfl ?_
      refine lv_goto (tgt := 17) M.x M.b d_T_together_11 (by decide) ?_
      obtain rfl := z_r1 hf
      exact z_iret M hH hS d_T_together_17
def f_T_tellCosts_277 (this : Nat) (x5 : Nat) (x6 : Int32) (x7 : Int32) (h : Hp) : Option (Hp) :=
  (f_F_put x5 (x6).toInt64 (x7).toInt64 h).bind fun h2 =>
  some h2
set_option maxRecDepth 100000 in
set_option maxHeartbeats 4000000 in
theorem w_T_tellCosts_277 {p : Program} {l : Launch} {e : Env} {s : State} {m : MethodId} {args : Array Value} {below : List Frame} {meth : Method} {c : Code} {N0 : Nat} {D : va_G} {cs : Nat → ClassId} (M : ZC p s m args meth c "YearBaskets$Teller" "tellCosts" b_T_tellCosts 8 (none) N0 D cs) (this : Nat)  {h0 : Hp}  (x5 : Nat) (x6 : Int32) (x7 : Int32) (h : Hp) (hf : f_T_tellCosts_277 this x5 x6 x7 h = some h0) : ZG p l e (zrm 3 0 0) s m args below meth c N0 D cs none h0 h 8 [(5, .ref x5), (6, .int x6), (7, .int x7)] 277 [] := by
  intro H locs ls hH hS hl
  unfold f_T_tellCosts_277 at hf
  refine lv_aload M.x M.b d_T_tellCosts_277 (lv_at hl 0 rfl) ?_
  refine lv_iload M.x M.b d_T_tellCosts_279 (lv_at hl 1 rfl) ?_
  refine lv_i2l M.x M.b d_T_tellCosts_281 rfl ?_
  refine lv_iload M.x M.b d_T_tellCosts_282 (lv_at hl 2 rfl) ?_
  refine lv_i2l M.x M.b d_T_tellCosts_284 rfl ?_
  replace hf := z_bind hf; obtain ⟨h2, e1, hf⟩ := hf
  refine zk_V (ci := 1) (st1 := []) M hH hS (c_F_put e1) rfl (o_F_put e1) w_F_put q_180 [] rfl ⟨Nat.le_of_ble_eq_true rfl, Nat.le_of_ble_eq_true rfl⟩ hl.1 rfl rfl (Nat.le_of_ble_eq_true rfl) d_T_tellCosts_285 (fun H locs hH hS => ?_)
  obtain rfl := z_r1 hf
  exact z_vret M hH hS d_T_tellCosts_288
def f_T_tellCosts (this : Nat) (x1 : Int32) (x2 : Int32) (x3 : Int32) (x4 : Int32) (x5 : Nat) (h : Hp) : Option (Hp) :=
  if isO h this 6 = true then
  (gA h this 6 2).bind fun r3 =>
  (r3).bind fun a5 =>
  (f_P_wordAt a5 h x1).bind fun i8 =>
  if i8 = (0 : Int32) then
    (gA h this 6 1).bind fun r10 =>
    (gI h this 6 3).bind fun i12 =>
    (r10).bind fun a14 =>
    (f_B_costOver a14 h x4 i12 x3 x2).bind fun i17 =>
    (gA h this 6 1).bind fun r18 =>
    (gI h this 6 3).bind fun i20 =>
    (r18).bind fun a22 =>
    (f_B_costOver a22 h x4 i20 x2 x2).bind fun i25 =>
    f_T_tellCosts_277 this x5 i17 i25 h
  else
  if i8 = (1 : Int32) then
    (gA h this 6 1).bind fun r27 =>
    (gI h this 6 3).bind fun i29 =>
    (r27).bind fun a31 =>
    (f_B_costOver a31 h x4 i29 x3 x3).bind fun i34 =>
    (gA h this 6 1).bind fun r35 =>
    (gI h this 6 3).bind fun i37 =>
    (r35).bind fun a39 =>
    (f_B_costOver a39 h x4 i37 x2 x3).bind fun i42 =>
    f_T_tellCosts_277 this x5 i34 i42 h
  else
  if i8 = (2 : Int32) then
    (gA h this 6 1).bind fun r44 =>
    (gI h this 6 3).bind fun i46 =>
    (r44).bind fun a48 =>
    (f_B_costOver a48 h x4 i46 x3 x2).bind fun i51 =>
    (gA h this 6 1).bind fun r52 =>
    (gI h this 6 3).bind fun i54 =>
    (r52).bind fun a56 =>
    (f_B_costOver a56 h x4 i54 x3 x3).bind fun i59 =>
    (f_T_together i51 i59).bind fun i61 =>
    (gA h this 6 1).bind fun r62 =>
    (gI h this 6 3).bind fun i64 =>
    (r62).bind fun a66 =>
    (f_B_costOver a66 h x4 i64 x2 x2).bind fun i69 =>
    (gA h this 6 1).bind fun r70 =>
    (gI h this 6 3).bind fun i72 =>
    (r70).bind fun a74 =>
    (f_B_costOver a74 h x4 i72 x2 x3).bind fun i77 =>
    (f_T_together i69 i77).bind fun i79 =>
    f_T_tellCosts_277 this x5 i61 i79 h
  else
  if i8 = (3 : Int32) then
    (gA h this 6 1).bind fun r81 =>
    (gI h this 6 3).bind fun i83 =>
    (gA h this 6 2).bind fun r85 =>
    (r85).bind fun a87 =>
    (r81).bind fun a89 =>
    (f_P_markAt a87 h x1).bind fun i92 =>
    (f_B_costOver a89 h x4 i83 x3 i92).bind fun i94 =>
    (gA h this 6 1).bind fun r95 =>
    (gI h this 6 3).bind fun i97 =>
    (gA h this 6 2).bind fun r99 =>
    (r99).bind fun a101 =>
    (r95).bind fun a103 =>
    (f_P_markAt a101 h x1).bind fun i106 =>
    (f_B_costOver a103 h x4 i97 x2 i106).bind fun i108 =>
    f_T_tellCosts_277 this x5 i94 i108 h
  else
  if i8 = (4 : Int32) then
    f_T_tellCosts_277 this x5 (-1 : Int32) (-1 : Int32) h
  else
  if i8 = (5 : Int32) then
    (gA h this 6 1).bind fun r111 =>
    (r111).bind fun a113 =>
    (f_B_pricesOver a113 h x4 x3).bind fun i116 =>
    (gA h this 6 1).bind fun r117 =>
    (r117).bind fun a119 =>
    (f_B_pricesOver a119 h x4 x2).bind fun i122 =>
    f_T_tellCosts_277 this x5 i116 i122 h
  else
  f_T_tellCosts_277 this x5 (-1 : Int32) (-1 : Int32) h
  else none
theorem o_T_tellCosts {this : Nat} {x1 : Int32} {x2 : Int32} {x3 : Int32} {x4 : Int32} {x5 : Nat} {h : Hp} {h0 : Hp} (hf : f_T_tellCosts this x1 x2 x3 x4 x5 h = some h0) : isO h this 6 = true := by
  unfold f_T_tellCosts at hf
  exact (z_gd hf).1
set_option maxRecDepth 100000 in
set_option maxHeartbeats 4000000 in
theorem c_T_tellCosts {l : Launch} {N0 : Nat} {D : va_G} {cs : Nat → ClassId} {this : Nat} {x1 : Int32} {x2 : Int32} {x3 : Int32} {x4 : Int32} {x5 : Nat} {h : Hp} {h0 : Hp} (hf : f_T_tellCosts this x1 x2 x3 x4 x5 h = some h0) : Fn l N0 D cs y_T_tellCosts b_T_tellCosts 8 (none) 3 0 0 [.ref this, .int x1, .int x2, .int x3, .int x4, .ref x5] h none h0 := by
  refine z_start (by decide) (Nat.le_of_ble_eq_true rfl) ?_
  intro p e s m args below meth c M hH hS ls hl
  unfold f_T_tellCosts at hf
  obtain ⟨hO, hf⟩ := z_gd hf
  have hl : lv_has ls 8 [(0, .ref this), (1, .int x1), (2, .int x2), (3, .int x3), (4, .int x4), (5, .ref x5)] := hl
  obtain ⟨H, hHe⟩ : ∃ H, H = s.heap := ⟨_, rfl⟩
  obtain ⟨locs, hLe⟩ : ∃ locs : List Loc, locs = [] := ⟨_, rfl⟩
  have hS : va_S (zA N0) s.heap H locs := by rw [hHe, hLe]; exact hS
  have hH : HH N0 D cs h H := by rw [hHe]; exact hH
  suffices hg : W p l e (zrm 3 0 0) s m args below meth c H locs 0 0 (MQ below (zQ N0 D cs none h0) args s 0 0 (zA N0)) (F0 m 0 ls []) by rw [hHe, hLe] at hg; exact hg
  clear hHe hLe
  refine lv_iconst (v := (-1 : Int32)) M.x M.b d_T_tellCosts_0 rfl ?_
  refine lv_istore (lv' := [(6, .int (-1 : Int32)), (0, .ref this), (1, .int x1), (2, .int x2), (3, .int x3), (4, .int x4), (5, .ref x5)]) M.x M.b d_T_tellCosts_1 hl (by decide) rfl (fun ls hl => ?_)
  refine lv_iconst (v := (-1 : Int32)) M.x M.b d_T_tellCosts_3 rfl ?_
  refine lv_istore (lv' := [(7, .int (-1 : Int32)), (6, .int (-1 : Int32)), (0, .ref this), (1, .int x1), (2, .int x2), (3, .int x3), (4, .int x4), (5, .ref x5)]) M.x M.b d_T_tellCosts_4 hl (by decide) rfl (fun ls hl => ?_)
  refine lv_aload_n M.x M.b d_T_tellCosts_6 rfl (lv_at hl 2 rfl) ?_
  replace hf := z_bind hf; obtain ⟨r3, e4, hf⟩ := hf
  refine z_get (ci := 6) (k := 2) M hH rfl (by decide) zinT q_176 (gA_spec e4) d_T_tellCosts_7 ?_
  refine lv_iload_n M.x M.b d_T_tellCosts_10 rfl (lv_at hl 3 rfl) ?_
  rcases r3 with _ | a5
  · exact absurd hf z_nb0
  replace hf := z_sb hf
  replace hf := z_bind hf; obtain ⟨i8, e7, hf⟩ := hf
  refine zk_V (ci := 4) (st1 := [.int i8]) M hH hS (c_P_wordAt e7) rfl (o_P_wordAt e7) w_P_wordAt q_197 [] rfl ⟨Nat.le_of_ble_eq_true rfl, Nat.le_of_ble_eq_true rfl⟩ hl.1 rfl rfl (Nat.le_of_ble_eq_true rfl) d_T_tellCosts_11 (fun H locs hH hS => ?_)
  by_cases c9 : i8 = (0 : Int32)
  · replace hf := z_t c9 hf
    refine lv_tableIn (tgt := 52) (off := 38) M.x M.b d_T_tellCosts_14 (by rw [c9]; decide) (by rw [c9]; decide) (by rw [c9]; rfl) (by decide) ?_
    refine lv_aload_n M.x M.b d_T_tellCosts_52 rfl (lv_at hl 2 rfl) ?_
    replace hf := z_bind hf; obtain ⟨r10, e11, hf⟩ := hf
    refine z_get (ci := 6) (k := 1) M hH rfl (by decide) zinT q_175 (gA_spec e11) d_T_tellCosts_53 ?_
    refine lv_iload M.x M.b d_T_tellCosts_56 (lv_at hl 6 rfl) ?_
    refine lv_aload_n M.x M.b d_T_tellCosts_58 rfl (lv_at hl 2 rfl) ?_
    replace hf := z_bind hf; obtain ⟨i12, e13, hf⟩ := hf
    refine z_get (ci := 6) (k := 3) M hH rfl (by decide) zinT q_174 (gI_spec e13) d_T_tellCosts_59 ?_
    refine lv_iload_n M.x M.b d_T_tellCosts_62 rfl (lv_at hl 5 rfl) ?_
    refine lv_iload_n M.x M.b d_T_tellCosts_63 rfl (lv_at hl 4 rfl) ?_
    rcases r10 with _ | a14
    · exact absurd hf z_nb0
    replace hf := z_sb hf
    replace hf := z_bind hf; obtain ⟨i17, e16, hf⟩ := hf
    refine zk_V (ci := 0) (st1 := [.int i17]) M hH hS (c_B_costOver e16) rfl (o_B_costOver e16) w_B_costOver q_210 [] rfl ⟨Nat.le_of_ble_eq_true rfl, Nat.le_of_ble_eq_true rfl⟩ hl.1 rfl rfl (Nat.le_of_ble_eq_true rfl) d_T_tellCosts_64 (fun H locs hH hS => ?_)
    refine lv_istore (lv' := [(6, .int i17), (7, .int (-1 : Int32)), (0, .ref this), (1, .int x1), (2, .int x2), (3, .int x3), (4, .int x4), (5, .ref x5)]) M.x M.b d_T_tellCosts_67 hl (by decide) rfl (fun ls hl => ?_)
    refine lv_aload_n M.x M.b d_T_tellCosts_69 rfl (lv_at hl 2 rfl) ?_
    replace hf := z_bind hf; obtain ⟨r18, e19, hf⟩ := hf
    refine z_get (ci := 6) (k := 1) M hH rfl (by decide) zinT q_175 (gA_spec e19) d_T_tellCosts_70 ?_
    refine lv_iload M.x M.b d_T_tellCosts_73 (lv_at hl 6 rfl) ?_
    refine lv_aload_n M.x M.b d_T_tellCosts_75 rfl (lv_at hl 2 rfl) ?_
    replace hf := z_bind hf; obtain ⟨i20, e21, hf⟩ := hf
    refine z_get (ci := 6) (k := 3) M hH rfl (by decide) zinT q_174 (gI_spec e21) d_T_tellCosts_76 ?_
    refine lv_iload_n M.x M.b d_T_tellCosts_79 rfl (lv_at hl 4 rfl) ?_
    refine lv_iload_n M.x M.b d_T_tellCosts_80 rfl (lv_at hl 4 rfl) ?_
    rcases r18 with _ | a22
    · exact absurd hf z_nb0
    replace hf := z_sb hf
    replace hf := z_bind hf; obtain ⟨i25, e24, hf⟩ := hf
    refine zk_V (ci := 0) (st1 := [.int i25]) M hH hS (c_B_costOver e24) rfl (o_B_costOver e24) w_B_costOver q_210 [] rfl ⟨Nat.le_of_ble_eq_true rfl, Nat.le_of_ble_eq_true rfl⟩ hl.1 rfl rfl (Nat.le_of_ble_eq_true rfl) d_T_tellCosts_81 (fun H locs hH hS => ?_)
    refine lv_istore (lv' := [(7, .int i25), (6, .int i17), (0, .ref this), (1, .int x1), (2, .int x2), (3, .int x3), (4, .int x4), (5, .ref x5)]) M.x M.b d_T_tellCosts_84 hl (by decide) rfl (fun ls hl => ?_)
    refine lv_goto (tgt := 277) M.x M.b d_T_tellCosts_86 (by decide) ?_
    exact w_T_tellCosts_277 M this _ _ _ _ hf H locs ls hH hS (lv_sub hl [7, 1, 0] rfl)
  replace hf := z_f c9 hf
  by_cases c26 : i8 = (1 : Int32)
  · replace hf := z_t c26 hf
    refine lv_tableIn (tgt := 89) (off := 75) M.x M.b d_T_tellCosts_14 (by rw [c26]; decide) (by rw [c26]; decide) (by rw [c26]; rfl) (by decide) ?_
    refine lv_aload_n M.x M.b d_T_tellCosts_89 rfl (lv_at hl 2 rfl) ?_
    replace hf := z_bind hf; obtain ⟨r27, e28, hf⟩ := hf
    refine z_get (ci := 6) (k := 1) M hH rfl (by decide) zinT q_175 (gA_spec e28) d_T_tellCosts_90 ?_
    refine lv_iload M.x M.b d_T_tellCosts_93 (lv_at hl 6 rfl) ?_
    refine lv_aload_n M.x M.b d_T_tellCosts_95 rfl (lv_at hl 2 rfl) ?_
    replace hf := z_bind hf; obtain ⟨i29, e30, hf⟩ := hf
    refine z_get (ci := 6) (k := 3) M hH rfl (by decide) zinT q_174 (gI_spec e30) d_T_tellCosts_96 ?_
    refine lv_iload_n M.x M.b d_T_tellCosts_99 rfl (lv_at hl 5 rfl) ?_
    refine lv_iload_n M.x M.b d_T_tellCosts_100 rfl (lv_at hl 5 rfl) ?_
    rcases r27 with _ | a31
    · exact absurd hf z_nb0
    replace hf := z_sb hf
    replace hf := z_bind hf; obtain ⟨i34, e33, hf⟩ := hf
    refine zk_V (ci := 0) (st1 := [.int i34]) M hH hS (c_B_costOver e33) rfl (o_B_costOver e33) w_B_costOver q_210 [] rfl ⟨Nat.le_of_ble_eq_true rfl, Nat.le_of_ble_eq_true rfl⟩ hl.1 rfl rfl (Nat.le_of_ble_eq_true rfl) d_T_tellCosts_101 (fun H locs hH hS => ?_)
    refine lv_istore (lv' := [(6, .int i34), (7, .int (-1 : Int32)), (0, .ref this), (1, .int x1), (2, .int x2), (3, .int x3), (4, .int x4), (5, .ref x5)]) M.x M.b d_T_tellCosts_104 hl (by decide) rfl (fun ls hl => ?_)
    refine lv_aload_n M.x M.b d_T_tellCosts_106 rfl (lv_at hl 2 rfl) ?_
    replace hf := z_bind hf; obtain ⟨r35, e36, hf⟩ := hf
    refine z_get (ci := 6) (k := 1) M hH rfl (by decide) zinT q_175 (gA_spec e36) d_T_tellCosts_107 ?_
    refine lv_iload M.x M.b d_T_tellCosts_110 (lv_at hl 6 rfl) ?_
    refine lv_aload_n M.x M.b d_T_tellCosts_112 rfl (lv_at hl 2 rfl) ?_
    replace hf := z_bind hf; obtain ⟨i37, e38, hf⟩ := hf
    refine z_get (ci := 6) (k := 3) M hH rfl (by decide) zinT q_174 (gI_spec e38) d_T_tellCosts_113 ?_
    refine lv_iload_n M.x M.b d_T_tellCosts_116 rfl (lv_at hl 4 rfl) ?_
    refine lv_iload_n M.x M.b d_T_tellCosts_117 rfl (lv_at hl 5 rfl) ?_
    rcases r35 with _ | a39
    · exact absurd hf z_nb0
    replace hf := z_sb hf
    replace hf := z_bind hf; obtain ⟨i42, e41, hf⟩ := hf
    refine zk_V (ci := 0) (st1 := [.int i42]) M hH hS (c_B_costOver e41) rfl (o_B_costOver e41) w_B_costOver q_210 [] rfl ⟨Nat.le_of_ble_eq_true rfl, Nat.le_of_ble_eq_true rfl⟩ hl.1 rfl rfl (Nat.le_of_ble_eq_true rfl) d_T_tellCosts_118 (fun H locs hH hS => ?_)
    refine lv_istore (lv' := [(7, .int i42), (6, .int i34), (0, .ref this), (1, .int x1), (2, .int x2), (3, .int x3), (4, .int x4), (5, .ref x5)]) M.x M.b d_T_tellCosts_121 hl (by decide) rfl (fun ls hl => ?_)
    refine lv_goto (tgt := 277) M.x M.b d_T_tellCosts_123 (by decide) ?_
    exact w_T_tellCosts_277 M this _ _ _ _ hf H locs ls hH hS (lv_sub hl [7, 1, 0] rfl)
  replace hf := z_f c26 hf
  by_cases c43 : i8 = (2 : Int32)
  · replace hf := z_t c43 hf
    refine lv_tableIn (tgt := 126) (off := 112) M.x M.b d_T_tellCosts_14 (by rw [c43]; decide) (by rw [c43]; decide) (by rw [c43]; rfl) (by decide) ?_
    refine lv_aload_n M.x M.b d_T_tellCosts_126 rfl (lv_at hl 2 rfl) ?_
    replace hf := z_bind hf; obtain ⟨r44, e45, hf⟩ := hf
    refine z_get (ci := 6) (k := 1) M hH rfl (by decide) zinT q_175 (gA_spec e45) d_T_tellCosts_127 ?_
    refine lv_iload M.x M.b d_T_tellCosts_130 (lv_at hl 6 rfl) ?_
    refine lv_aload_n M.x M.b d_T_tellCosts_132 rfl (lv_at hl 2 rfl) ?_
    replace hf := z_bind hf; obtain ⟨i46, e47, hf⟩ := hf
    refine z_get (ci := 6) (k := 3) M hH rfl (by decide) zinT q_174 (gI_spec e47) d_T_tellCosts_133 ?_
    refine lv_iload_n M.x M.b d_T_tellCosts_136 rfl (lv_at hl 5 rfl) ?_
    refine lv_iload_n M.x M.b d_T_tellCosts_137 rfl (lv_at hl 4 rfl) ?_
    rcases r44 with _ | a48
    · exact absurd hf z_nb0
    replace hf := z_sb hf
    replace hf := z_bind hf; obtain ⟨i51, e50, hf⟩ := hf
    refine zk_V (ci := 0) (st1 := [.int i51]) M hH hS (c_B_costOver e50) rfl (o_B_costOver e50) w_B_costOver q_210 [] rfl ⟨Nat.le_of_ble_eq_true rfl, Nat.le_of_ble_eq_true rfl⟩ hl.1 rfl rfl (Nat.le_of_ble_eq_true rfl) d_T_tellCosts_138 (fun H locs hH hS => ?_)
    refine lv_aload_n M.x M.b d_T_tellCosts_141 rfl (lv_at hl 2 rfl) ?_
    replace hf := z_bind hf; obtain ⟨r52, e53, hf⟩ := hf
    refine z_get (ci := 6) (k := 1) M hH rfl (by decide) zinT q_175 (gA_spec e53) d_T_tellCosts_142 ?_
    refine lv_iload M.x M.b d_T_tellCosts_145 (lv_at hl 6 rfl) ?_
    refine lv_aload_n M.x M.b d_T_tellCosts_147 rfl (lv_at hl 2 rfl) ?_
    replace hf := z_bind hf; obtain ⟨i54, e55, hf⟩ := hf
    refine z_get (ci := 6) (k := 3) M hH rfl (by decide) zinT q_174 (gI_spec e55) d_T_tellCosts_148 ?_
    refine lv_iload_n M.x M.b d_T_tellCosts_151 rfl (lv_at hl 5 rfl) ?_
    refine lv_iload_n M.x M.b d_T_tellCosts_152 rfl (lv_at hl 5 rfl) ?_
    rcases r52 with _ | a56
    · exact absurd hf z_nb0
    replace hf := z_sb hf
    replace hf := z_bind hf; obtain ⟨i59, e58, hf⟩ := hf
    refine zk_V (ci := 0) (st1 := [.int i59, .int i51]) M hH hS (c_B_costOver e58) rfl (o_B_costOver e58) w_B_costOver q_210 [.int i51] rfl ⟨Nat.le_of_ble_eq_true rfl, Nat.le_of_ble_eq_true rfl⟩ hl.1 rfl rfl (Nat.le_of_ble_eq_true rfl) d_T_tellCosts_153 (fun H locs hH hS => ?_)
    replace hf := z_bind hf; obtain ⟨i61, e60, hf⟩ := hf
    refine zk_S (st1 := [.int i61]) M hH hS (c_T_together e60) w_T_together q_211 [] rfl ⟨Nat.le_of_ble_eq_true rfl, Nat.le_of_ble_eq_true rfl⟩ hl.1 rfl rfl (Nat.le_of_ble_eq_true rfl) d_T_tellCosts_156 (fun H locs hH hS => ?_)
    refine lv_istore (lv' := [(6, .int i61), (7, .int (-1 : Int32)), (0, .ref this), (1, .int x1), (2, .int x2), (3, .int x3), (4, .int x4), (5, .ref x5)]) M.x M.b d_T_tellCosts_159 hl (by decide) rfl (fun ls hl => ?_)
    refine lv_aload_n M.x M.b d_T_tellCosts_161 rfl (lv_at hl 2 rfl) ?_
    replace hf := z_bind hf; obtain ⟨r62, e63, hf⟩ := hf
    refine z_get (ci := 6) (k := 1) M hH rfl (by decide) zinT q_175 (gA_spec e63) d_T_tellCosts_162 ?_
    refine lv_iload M.x M.b d_T_tellCosts_165 (lv_at hl 6 rfl) ?_
    refine lv_aload_n M.x M.b d_T_tellCosts_167 rfl (lv_at hl 2 rfl) ?_
    replace hf := z_bind hf; obtain ⟨i64, e65, hf⟩ := hf
    refine z_get (ci := 6) (k := 3) M hH rfl (by decide) zinT q_174 (gI_spec e65) d_T_tellCosts_168 ?_
    refine lv_iload_n M.x M.b d_T_tellCosts_171 rfl (lv_at hl 4 rfl) ?_
    refine lv_iload_n M.x M.b d_T_tellCosts_172 rfl (lv_at hl 4 rfl) ?_
    rcases r62 with _ | a66
    · exact absurd hf z_nb0
    replace hf := z_sb hf
    replace hf := z_bind hf; obtain ⟨i69, e68, hf⟩ := hf
    refine zk_V (ci := 0) (st1 := [.int i69]) M hH hS (c_B_costOver e68) rfl (o_B_costOver e68) w_B_costOver q_210 [] rfl ⟨Nat.le_of_ble_eq_true rfl, Nat.le_of_ble_eq_true rfl⟩ hl.1 rfl rfl (Nat.le_of_ble_eq_true rfl) d_T_tellCosts_173 (fun H locs hH hS => ?_)
    refine lv_aload_n M.x M.b d_T_tellCosts_176 rfl (lv_at hl 2 rfl) ?_
    replace hf := z_bind hf; obtain ⟨r70, e71, hf⟩ := hf
    refine z_get (ci := 6) (k := 1) M hH rfl (by decide) zinT q_175 (gA_spec e71) d_T_tellCosts_177 ?_
    refine lv_iload M.x M.b d_T_tellCosts_180 (lv_at hl 6 rfl) ?_
    refine lv_aload_n M.x M.b d_T_tellCosts_182 rfl (lv_at hl 2 rfl) ?_
    replace hf := z_bind hf; obtain ⟨i72, e73, hf⟩ := hf
    refine z_get (ci := 6) (k := 3) M hH rfl (by decide) zinT q_174 (gI_spec e73) d_T_tellCosts_183 ?_
    refine lv_iload_n M.x M.b d_T_tellCosts_186 rfl (lv_at hl 4 rfl) ?_
    refine lv_iload_n M.x M.b d_T_tellCosts_187 rfl (lv_at hl 5 rfl) ?_
    rcases r70 with _ | a74
    · exact absurd hf z_nb0
    replace hf := z_sb hf
    replace hf := z_bind hf; obtain ⟨i77, e76, hf⟩ := hf
    refine zk_V (ci := 0) (st1 := [.int i77, .int i69]) M hH hS (c_B_costOver e76) rfl (o_B_costOver e76) w_B_costOver q_210 [.int i69] rfl ⟨Nat.le_of_ble_eq_true rfl, Nat.le_of_ble_eq_true rfl⟩ hl.1 rfl rfl (Nat.le_of_ble_eq_true rfl) d_T_tellCosts_188 (fun H locs hH hS => ?_)
    replace hf := z_bind hf; obtain ⟨i79, e78, hf⟩ := hf
    refine zk_S (st1 := [.int i79]) M hH hS (c_T_together e78) w_T_together q_211 [] rfl ⟨Nat.le_of_ble_eq_true rfl, Nat.le_of_ble_eq_true rfl⟩ hl.1 rfl rfl (Nat.le_of_ble_eq_true rfl) d_T_tellCosts_191 (fun H locs hH hS => ?_)
    refine lv_istore (lv' := [(7, .int i79), (6, .int i61), (0, .ref this), (1, .int x1), (2, .int x2), (3, .int x3), (4, .int x4), (5, .ref x5)]) M.x M.b d_T_tellCosts_194 hl (by decide) rfl (fun ls hl => ?_)
    refine lv_goto (tgt := 277) M.x M.b d_T_tellCosts_196 (by decide) ?_
    exact w_T_tellCosts_277 M this _ _ _ _ hf H locs ls hH hS (lv_sub hl [7, 1, 0] rfl)
  replace hf := z_f c43 hf
  by_cases c80 : i8 = (3 : Int32)
  · replace hf := z_t c80 hf
    refine lv_tableIn (tgt := 199) (off := 185) M.x M.b d_T_tellCosts_14 (by rw [c80]; decide) (by rw [c80]; decide) (by rw [c80]; rfl) (by decide) ?_
    refine lv_aload_n M.x M.b d_T_tellCosts_199 rfl (lv_at hl 2 rfl) ?_
    replace hf := z_bind hf; obtain ⟨r81, e82, hf⟩ := hf
    refine z_get (ci := 6) (k := 1) M hH rfl (by decide) zinT q_175 (gA_spec e82) d_T_tellCosts_200 ?_
    refine lv_iload M.x M.b d_T_tellCosts_203 (lv_at hl 6 rfl) ?_
    refine lv_aload_n M.x M.b d_T_tellCosts_205 rfl (lv_at hl 2 rfl) ?_
    replace hf := z_bind hf; obtain ⟨i83, e84, hf⟩ := hf
    refine z_get (ci := 6) (k := 3) M hH rfl (by decide) zinT q_174 (gI_spec e84) d_T_tellCosts_206 ?_
    refine lv_iload_n M.x M.b d_T_tellCosts_209 rfl (lv_at hl 5 rfl) ?_
    refine lv_aload_n M.x M.b d_T_tellCosts_210 rfl (lv_at hl 2 rfl) ?_
    replace hf := z_bind hf; obtain ⟨r85, e86, hf⟩ := hf
    refine z_get (ci := 6) (k := 2) M hH rfl (by decide) zinT q_176 (gA_spec e86) d_T_tellCosts_211 ?_
    refine lv_iload_n M.x M.b d_T_tellCosts_214 rfl (lv_at hl 3 rfl) ?_
    rcases r85 with _ | a87
    · exact absurd hf z_nb0
    replace hf := z_sb hf
    rcases r81 with _ | a89
    · exact absurd hf z_nb0
    replace hf := z_sb hf
    replace hf := z_bind hf; obtain ⟨i92, e91, hf⟩ := hf
    refine zk_V (ci := 4) (st1 := [.int i92, .int x3, .int i83, .int x4, .ref a89]) M hH hS (c_P_markAt e91) rfl (o_P_markAt e91) w_P_markAt q_199 [.int x3, .int i83, .int x4, .ref a89] rfl ⟨Nat.le_of_ble_eq_true rfl, Nat.le_of_ble_eq_true rfl⟩ hl.1 rfl rfl (Nat.le_of_ble_eq_true rfl) d_T_tellCosts_215 (fun H locs hH hS => ?_)
    replace hf := z_bind hf; obtain ⟨i94, e93, hf⟩ := hf
    refine zk_V (ci := 0) (st1 := [.int i94]) M hH hS (c_B_costOver e93) rfl (o_B_costOver e93) w_B_costOver q_210 [] rfl ⟨Nat.le_of_ble_eq_true rfl, Nat.le_of_ble_eq_true rfl⟩ hl.1 rfl rfl (Nat.le_of_ble_eq_true rfl) d_T_tellCosts_218 (fun H locs hH hS => ?_)
    refine lv_istore (lv' := [(6, .int i94), (7, .int (-1 : Int32)), (0, .ref this), (1, .int x1), (2, .int x2), (3, .int x3), (4, .int x4), (5, .ref x5)]) M.x M.b d_T_tellCosts_221 hl (by decide) rfl (fun ls hl => ?_)
    refine lv_aload_n M.x M.b d_T_tellCosts_223 rfl (lv_at hl 2 rfl) ?_
    replace hf := z_bind hf; obtain ⟨r95, e96, hf⟩ := hf
    refine z_get (ci := 6) (k := 1) M hH rfl (by decide) zinT q_175 (gA_spec e96) d_T_tellCosts_224 ?_
    refine lv_iload M.x M.b d_T_tellCosts_227 (lv_at hl 6 rfl) ?_
    refine lv_aload_n M.x M.b d_T_tellCosts_229 rfl (lv_at hl 2 rfl) ?_
    replace hf := z_bind hf; obtain ⟨i97, e98, hf⟩ := hf
    refine z_get (ci := 6) (k := 3) M hH rfl (by decide) zinT q_174 (gI_spec e98) d_T_tellCosts_230 ?_
    refine lv_iload_n M.x M.b d_T_tellCosts_233 rfl (lv_at hl 4 rfl) ?_
    refine lv_aload_n M.x M.b d_T_tellCosts_234 rfl (lv_at hl 2 rfl) ?_
    replace hf := z_bind hf; obtain ⟨r99, e100, hf⟩ := hf
    refine z_get (ci := 6) (k := 2) M hH rfl (by decide) zinT q_176 (gA_spec e100) d_T_tellCosts_235 ?_
    refine lv_iload_n M.x M.b d_T_tellCosts_238 rfl (lv_at hl 3 rfl) ?_
    rcases r99 with _ | a101
    · exact absurd hf z_nb0
    replace hf := z_sb hf
    rcases r95 with _ | a103
    · exact absurd hf z_nb0
    replace hf := z_sb hf
    replace hf := z_bind hf; obtain ⟨i106, e105, hf⟩ := hf
    refine zk_V (ci := 4) (st1 := [.int i106, .int x2, .int i97, .int x4, .ref a103]) M hH hS (c_P_markAt e105) rfl (o_P_markAt e105) w_P_markAt q_199 [.int x2, .int i97, .int x4, .ref a103] rfl ⟨Nat.le_of_ble_eq_true rfl, Nat.le_of_ble_eq_true rfl⟩ hl.1 rfl rfl (Nat.le_of_ble_eq_true rfl) d_T_tellCosts_239 (fun H locs hH hS => ?_)
    replace hf := z_bind hf; obtain ⟨i108, e107, hf⟩ := hf
    refine zk_V (ci := 0) (st1 := [.int i108]) M hH hS (c_B_costOver e107) rfl (o_B_costOver e107) w_B_costOver q_210 [] rfl ⟨Nat.le_of_ble_eq_true rfl, Nat.le_of_ble_eq_true rfl⟩ hl.1 rfl rfl (Nat.le_of_ble_eq_true rfl) d_T_tellCosts_242 (fun H locs hH hS => ?_)
    refine lv_istore (lv' := [(7, .int i108), (6, .int i94), (0, .ref this), (1, .int x1), (2, .int x2), (3, .int x3), (4, .int x4), (5, .ref x5)]) M.x M.b d_T_tellCosts_245 hl (by decide) rfl (fun ls hl => ?_)
    refine lv_goto (tgt := 277) M.x M.b d_T_tellCosts_247 (by decide) ?_
    exact w_T_tellCosts_277 M this _ _ _ _ hf H locs ls hH hS (lv_sub hl [7, 1, 0] rfl)
  replace hf := z_f c80 hf
  by_cases c109 : i8 = (4 : Int32)
  · replace hf := z_t c109 hf
    refine lv_tableIn (tgt := 277) (off := 263) M.x M.b d_T_tellCosts_14 (by rw [c109]; decide) (by rw [c109]; decide) (by rw [c109]; rfl) (by decide) ?_
    exact w_T_tellCosts_277 M this _ _ _ _ hf H locs ls hH hS (lv_sub hl [7, 1, 0] rfl)
  replace hf := z_f c109 hf
  by_cases c110 : i8 = (5 : Int32)
  · replace hf := z_t c110 hf
    refine lv_tableIn (tgt := 250) (off := 236) M.x M.b d_T_tellCosts_14 (by rw [c110]; decide) (by rw [c110]; decide) (by rw [c110]; rfl) (by decide) ?_
    refine lv_aload_n M.x M.b d_T_tellCosts_250 rfl (lv_at hl 2 rfl) ?_
    replace hf := z_bind hf; obtain ⟨r111, e112, hf⟩ := hf
    refine z_get (ci := 6) (k := 1) M hH rfl (by decide) zinT q_175 (gA_spec e112) d_T_tellCosts_251 ?_
    refine lv_iload M.x M.b d_T_tellCosts_254 (lv_at hl 6 rfl) ?_
    refine lv_iload_n M.x M.b d_T_tellCosts_256 rfl (lv_at hl 5 rfl) ?_
    rcases r111 with _ | a113
    · exact absurd hf z_nb0
    replace hf := z_sb hf
    replace hf := z_bind hf; obtain ⟨i116, e115, hf⟩ := hf
    refine zk_V (ci := 0) (st1 := [.int i116]) M hH hS (c_B_pricesOver e115) rfl (o_B_pricesOver e115) w_B_pricesOver q_212 [] rfl ⟨Nat.le_of_ble_eq_true rfl, Nat.le_of_ble_eq_true rfl⟩ hl.1 rfl rfl (Nat.le_of_ble_eq_true rfl) d_T_tellCosts_257 (fun H locs hH hS => ?_)
    refine lv_istore (lv' := [(6, .int i116), (7, .int (-1 : Int32)), (0, .ref this), (1, .int x1), (2, .int x2), (3, .int x3), (4, .int x4), (5, .ref x5)]) M.x M.b d_T_tellCosts_260 hl (by decide) rfl (fun ls hl => ?_)
    refine lv_aload_n M.x M.b d_T_tellCosts_262 rfl (lv_at hl 2 rfl) ?_
    replace hf := z_bind hf; obtain ⟨r117, e118, hf⟩ := hf
    refine z_get (ci := 6) (k := 1) M hH rfl (by decide) zinT q_175 (gA_spec e118) d_T_tellCosts_263 ?_
    refine lv_iload M.x M.b d_T_tellCosts_266 (lv_at hl 6 rfl) ?_
    refine lv_iload_n M.x M.b d_T_tellCosts_268 rfl (lv_at hl 4 rfl) ?_
    rcases r117 with _ | a119
    · exact absurd hf z_nb0
    replace hf := z_sb hf
    replace hf := z_bind hf; obtain ⟨i122, e121, hf⟩ := hf
    refine zk_V (ci := 0) (st1 := [.int i122]) M hH hS (c_B_pricesOver e121) rfl (o_B_pricesOver e121) w_B_pricesOver q_212 [] rfl ⟨Nat.le_of_ble_eq_true rfl, Nat.le_of_ble_eq_true rfl⟩ hl.1 rfl rfl (Nat.le_of_ble_eq_true rfl) d_T_tellCosts_269 (fun H locs hH hS => ?_)
    refine lv_istore (lv' := [(7, .int i122), (6, .int i116), (0, .ref this), (1, .int x1), (2, .int x2), (3, .int x3), (4, .int x4), (5, .ref x5)]) M.x M.b d_T_tellCosts_272 hl (by decide) rfl (fun ls hl => ?_)
    refine lv_goto (tgt := 277) M.x M.b d_T_tellCosts_274 (by decide) ?_
    exact w_T_tellCosts_277 M this _ _ _ _ hf H locs ls hH hS (lv_sub hl [7, 1, 0] rfl)
  replace hf := z_f c110 hf
  refine lv_tableOut (tgt := 277) M.x M.b d_T_tellCosts_14 (by have tc9 := lv_neT (a := 0) c9 (by decide); have tc26 := lv_neT (a := 1) c26 (by decide); have tc43 := lv_neT (a := 2) c43 (by decide); have tc80 := lv_neT (a := 3) c80 (by decide); have tc109 := lv_neT (a := 4) c109 (by decide); have tc110 := lv_neT (a := 5) c110 (by decide); omega) (by decide) ?_
  exact w_T_tellCosts_277 M this _ _ _ _ hf H locs ls hH hS (lv_sub hl [7, 1, 0] rfl)
def f_T_tellTerm_21 (rec : Nat → Int32 → Int32 → Int32 → Int32 → Int32 → Nat → Hp → Option (Hp)) (this : Nat) (x6 : Nat) (h : Hp) : Option (Hp) :=
  (f_F_refuse x6 (-1003 : Int32) h).bind fun h2 =>
  some h2
set_option maxRecDepth 100000 in
set_option maxHeartbeats 4000000 in
theorem w_T_tellTerm_21 {p : Program} {l : Launch} {e : Env} {s : State} {m : MethodId} {args : Array Value} {below : List Frame} {meth : Method} {c : Code} {N0 : Nat} {D : va_G} {cs : Nat → ClassId} (M : ZC p s m args meth c "YearBaskets$Teller" "tellTerm" b_T_tellTerm 9 (none) N0 D cs) (rec : Nat → Int32 → Int32 → Int32 → Int32 → Int32 → Nat → Hp → Option (Hp)) {n0 : Nat} (hn0 : 8 ≤ n0) (hrec : ∀ {this : Nat} {x1 : Int32} {x2 : Int32} {x3 : Int32} {x4 : Int32} {x5 : Int32} {x6 : Nat} {h : Hp} {h0 : Hp}, rec this x1 x2 x3 x4 x5 x6 h = some h0 → Fn l N0 D cs y_T_tellTerm b_T_tellTerm 9 (none) n0 0 0 [.ref this, .int x1, .int x2, .int x3, .int x4, .int x5, .ref x6] h none h0 ∧ isO h this 6 = true) (this : Nat)  {h0 : Hp}  (x6 : Nat) (h : Hp) (hf : f_T_tellTerm_21 rec this x6 h = some h0) : ZG p l e (zrm (n0 + 2) 0 0) s m args below meth c N0 D cs none h0 h 9 [(6, .ref x6)] 21 [] := by
  intro H locs ls hH hS hl
  unfold f_T_tellTerm_21 at hf
  refine lv_aload M.x M.b d_T_tellTerm_21 (lv_at hl 0 rfl) ?_
  refine lv_sipush (v := (-1003 : Int32)) M.x M.b d_T_tellTerm_23 rfl ?_
  replace hf := z_bind hf; obtain ⟨h2, e1, hf⟩ := hf
  refine zk_V (ci := 1) (st1 := []) M hH hS (c_F_refuse e1) rfl (o_F_refuse e1) w_F_refuse q_173 [] rfl (zR_n (by omega) (by decide)) hl.1 rfl rfl (Nat.le_of_ble_eq_true rfl) d_T_tellTerm_26 (fun H locs hH hS => ?_)
  obtain rfl := z_r1 hf
  exact z_vret M hH hS d_T_tellTerm_29
def t_T_tellTerm (rec : Nat → Int32 → Int32 → Int32 → Int32 → Int32 → Nat → Hp → Option (Hp)) (this : Nat) (x1 : Int32) (x2 : Int32) (x3 : Int32) (x4 : Int32) (x5 : Int32) (x6 : Nat) (h : Hp) : Option (Hp) :=
  if isO h this 6 = true then
  if (8 : Int32) < x5 then
    f_T_tellTerm_21 rec this x6 h
  else
  (gA h this 6 2).bind fun r3 =>
  zm r3 (
    f_T_tellTerm_21 rec this x6 h
  ) fun a5 =>
  (gA h this 6 1).bind fun r6 =>
  zm r6 (
    f_T_tellTerm_21 rec this x6 h
  ) fun a8 =>
  (gA h this 6 2).bind fun r9 =>
  (r9).bind fun a11 =>
  (f_P_wordAt a11 h x1).bind fun i14 =>
  if i14 = (4 : Int32) then
    (f_T_tellPlain this x2 x3 x4 x6 h).bind fun h17 =>
    some h17
  else
  if i14 = (5 : Int32) then
    (f_T_tellCosts this x1 x2 x3 x4 x6 h).bind fun h20 =>
    some h20
  else
  if i14 = (6 : Int32) then
    (f_T_tellPair rec this x1 x2 x3 x4 x5 x6 h).bind fun h23 =>
    some h23
  else
  if i14 = (7 : Int32) then
    (f_T_tellPair rec this x1 x2 x3 x4 x5 x6 h).bind fun h26 =>
    some h26
  else
  if i14 = (8 : Int32) then
    (f_T_tellPair rec this x1 x2 x3 x4 x5 x6 h).bind fun h29 =>
    some h29
  else
  if i14 = (9 : Int32) then
    (f_T_tellPair rec this x1 x2 x3 x4 x5 x6 h).bind fun h32 =>
    some h32
  else
  if i14 = (10 : Int32) then
    (rec this (x1 + (1 : Int32)) x3 x2 x4 (x5 + (1 : Int32)) x6 h).bind fun h35 =>
    (f_F_turnOver x6 h35).bind fun h37 =>
    some h37
  else
  if i14 = (11 : Int32) then
    (f_T_tellLink rec this (x1 + (1 : Int32)) x2 x3 x4 x5 x6 h).bind fun h40 =>
    some h40
  else
  if i14 = (12 : Int32) then
    (gA h this 6 1).bind fun r42 =>
    (r42).bind fun a44 =>
    (f_B_goodsPricedIn a44 h x2).bind fun i47 =>
    (gA h this 6 1).bind fun r48 =>
    (r48).bind fun a50 =>
    (f_B_goodsPricedIn a50 h x3).bind fun i53 =>
    (rec this (x1 + (1 : Int32)) x2 x3 ((x4 &&& i47) &&& i53) (x5 + (1 : Int32)) x6 h).bind fun h55 =>
    some h55
  else
  (f_T_tellCosts this x1 x2 x3 x4 x6 h).bind fun h57 =>
  some h57
  else none
theorem ot_T_tellTerm {rec : Nat → Int32 → Int32 → Int32 → Int32 → Int32 → Nat → Hp → Option (Hp)} {this : Nat} {x1 : Int32} {x2 : Int32} {x3 : Int32} {x4 : Int32} {x5 : Int32} {x6 : Nat} {h : Hp} {h0 : Hp} (hf : t_T_tellTerm rec this x1 x2 x3 x4 x5 x6 h = some h0) : isO h this 6 = true := by
  unfold t_T_tellTerm at hf
  exact (z_gd hf).1
set_option maxRecDepth 100000 in
set_option maxHeartbeats 4000000 in
theorem ct_T_tellTerm {l : Launch} {N0 : Nat} {D : va_G} {cs : Nat → ClassId} (rec : Nat → Int32 → Int32 → Int32 → Int32 → Int32 → Nat → Hp → Option (Hp)) {n0 : Nat} (hn0 : 8 ≤ n0) (hrec : ∀ {this : Nat} {x1 : Int32} {x2 : Int32} {x3 : Int32} {x4 : Int32} {x5 : Int32} {x6 : Nat} {h : Hp} {h0 : Hp}, rec this x1 x2 x3 x4 x5 x6 h = some h0 → Fn l N0 D cs y_T_tellTerm b_T_tellTerm 9 (none) n0 0 0 [.ref this, .int x1, .int x2, .int x3, .int x4, .int x5, .ref x6] h none h0 ∧ isO h this 6 = true) {this : Nat} {x1 : Int32} {x2 : Int32} {x3 : Int32} {x4 : Int32} {x5 : Int32} {x6 : Nat} {h : Hp} {h0 : Hp} (hf : t_T_tellTerm rec this x1 x2 x3 x4 x5 x6 h = some h0) : Fn l N0 D cs y_T_tellTerm b_T_tellTerm 9 (none) (n0 + 2) 0 0 [.ref this, .int x1, .int x2, .int x3, .int x4, .int x5, .ref x6] h none h0 := by
  refine z_start (by decide) (Nat.le_of_ble_eq_true rfl) ?_
  intro p e s m args below meth c M hH hS ls hl
  unfold t_T_tellTerm at hf
  obtain ⟨hO, hf⟩ := z_gd hf
  have hl : lv_has ls 9 [(0, .ref this), (1, .int x1), (2, .int x2), (3, .int x3), (4, .int x4), (5, .int x5), (6, .ref x6)] := hl
  obtain ⟨H, hHe⟩ : ∃ H, H = s.heap := ⟨_, rfl⟩
  obtain ⟨locs, hLe⟩ : ∃ locs : List Loc, locs = [] := ⟨_, rfl⟩
  have hS : va_S (zA N0) s.heap H locs := by rw [hHe, hLe]; exact hS
  have hH : HH N0 D cs h H := by rw [hHe]; exact hH
  suffices hg : W p l e (zrm (n0 + 2) 0 0) s m args below meth c H locs 0 0 (MQ below (zQ N0 D cs none h0) args s 0 0 (zA N0)) (F0 m 0 ls []) by rw [hHe, hLe] at hg; exact hg
  clear hHe hLe
  refine lv_iload M.x M.b d_T_tellTerm_0 (lv_at hl 5 rfl) ?_
  refine lv_bipush (v := (8 : Int32)) M.x M.b d_T_tellTerm_2 rfl ?_
  refine lv_icmp_gt (tgt := 21) M.x M.b d_T_tellTerm_4 (by decide) (fun c58 => ?_) (fun c58 => ?_)
  · replace hf := z_t c58 hf
    exact w_T_tellTerm_21 M rec hn0 hrec this _ _ hf H locs ls hH hS (lv_sub hl [6] rfl)
  · replace hf := z_f c58 hf
    refine lv_aload_n M.x M.b d_T_tellTerm_7 rfl (lv_at hl 0 rfl) ?_
    replace hf := z_bind hf; obtain ⟨r3, e4, hf⟩ := hf
    refine z_get (ci := 6) (k := 2) M hH rfl (by decide) zinT q_176 (gA_spec e4) d_T_tellTerm_8 ?_
    rcases r3 with _ | a5
    · replace hf := zm_n hf
      refine lv_ifnullN (tgt := 21) M.x M.b d_T_tellTerm_11 (by decide) ?_
      exact w_T_tellTerm_21 M rec hn0 hrec this _ _ hf H locs ls hH hS (lv_sub hl [6] rfl)
    · replace hf := zm_s hf
      refine lv_ifnull M.x M.b d_T_tellTerm_11 ?_
      refine lv_aload_n M.x M.b d_T_tellTerm_14 rfl (lv_at hl 0 rfl) ?_
      replace hf := z_bind hf; obtain ⟨r6, e7, hf⟩ := hf
      refine z_get (ci := 6) (k := 1) M hH rfl (by decide) zinT q_175 (gA_spec e7) d_T_tellTerm_15 ?_
      rcases r6 with _ | a8
      · replace hf := zm_n hf
        refine lv_ifnonnullN M.x M.b d_T_tellTerm_18 ?_
        exact w_T_tellTerm_21 M rec hn0 hrec this _ _ hf H locs ls hH hS (lv_sub hl [6] rfl)
      · replace hf := zm_s hf
        refine lv_ifnonnull (tgt := 30) M.x M.b d_T_tellTerm_18 (by decide) ?_
        refine lv_aload_n M.x M.b d_T_tellTerm_30 rfl (lv_at hl 0 rfl) ?_
        replace hf := z_bind hf; obtain ⟨r9, e10, hf⟩ := hf
        refine z_get (ci := 6) (k := 2) M hH rfl (by decide) zinT q_176 (gA_spec e10) d_T_tellTerm_31 ?_
        refine lv_iload_n M.x M.b d_T_tellTerm_34 rfl (lv_at hl 1 rfl) ?_
        rcases r9 with _ | a11
        · exact absurd hf z_nb0
        replace hf := z_sb hf
        replace hf := z_bind hf; obtain ⟨i14, e13, hf⟩ := hf
        refine zk_V (ci := 4) (st1 := [.int i14]) M hH hS (c_P_wordAt e13) rfl (o_P_wordAt e13) w_P_wordAt q_197 [] rfl (zR_n (by omega) (by decide)) hl.1 rfl rfl (Nat.le_of_ble_eq_true rfl) d_T_tellTerm_35 (fun H locs hH hS => ?_)
        refine lv_istore (lv' := [(7, .int i14), (0, .ref this), (1, .int x1), (2, .int x2), (3, .int x3), (4, .int x4), (5, .int x5), (6, .ref x6)]) M.x M.b d_T_tellTerm_38 hl (by decide) rfl (fun ls hl => ?_)
        refine lv_iload M.x M.b d_T_tellTerm_40 (lv_at hl 0 rfl) ?_
        by_cases c15 : i14 = (4 : Int32)
        · replace hf := z_t c15 hf
          refine lv_tableIn (tgt := 92) (off := 50) M.x M.b d_T_tellTerm_42 (by rw [c15]; decide) (by rw [c15]; decide) (by rw [c15]; rfl) (by decide) ?_
          refine lv_aload_n M.x M.b d_T_tellTerm_92 rfl (lv_at hl 1 rfl) ?_
          refine lv_iload_n M.x M.b d_T_tellTerm_93 rfl (lv_at hl 3 rfl) ?_
          refine lv_iload_n M.x M.b d_T_tellTerm_94 rfl (lv_at hl 4 rfl) ?_
          refine lv_iload M.x M.b d_T_tellTerm_95 (lv_at hl 5 rfl) ?_
          refine lv_aload M.x M.b d_T_tellTerm_97 (lv_at hl 7 rfl) ?_
          replace hf := z_bind hf; obtain ⟨h17, e16, hf⟩ := hf
          refine zk_V (ci := 6) (st1 := []) M hH hS (c_T_tellPlain e16) rfl (o_T_tellPlain e16) w_T_tellPlain q_216 [] rfl (zR_n (by omega) (by decide)) hl.1 rfl rfl (Nat.le_of_ble_eq_true rfl) d_T_tellTerm_99 (fun H locs hH hS => ?_)
          refine lv_goto (tgt := 217) M.x M.b d_T_tellTerm_102 (by decide) ?_
          obtain rfl := z_r1 hf
          exact z_vret M hH hS d_T_tellTerm_217
        replace hf := z_f c15 hf
        by_cases c18 : i14 = (5 : Int32)
        · replace hf := z_t c18 hf
          refine lv_tableIn (tgt := 206) (off := 164) M.x M.b d_T_tellTerm_42 (by rw [c18]; decide) (by rw [c18]; decide) (by rw [c18]; rfl) (by decide) ?_
          refine lv_aload_n M.x M.b d_T_tellTerm_206 rfl (lv_at hl 1 rfl) ?_
          refine lv_iload_n M.x M.b d_T_tellTerm_207 rfl (lv_at hl 2 rfl) ?_
          refine lv_iload_n M.x M.b d_T_tellTerm_208 rfl (lv_at hl 3 rfl) ?_
          refine lv_iload_n M.x M.b d_T_tellTerm_209 rfl (lv_at hl 4 rfl) ?_
          refine lv_iload M.x M.b d_T_tellTerm_210 (lv_at hl 5 rfl) ?_
          refine lv_aload M.x M.b d_T_tellTerm_212 (lv_at hl 7 rfl) ?_
          replace hf := z_bind hf; obtain ⟨h20, e19, hf⟩ := hf
          refine zk_V (ci := 6) (st1 := []) M hH hS (c_T_tellCosts e19) rfl (o_T_tellCosts e19) w_T_tellCosts q_217 [] rfl (zR_n (by omega) (by decide)) hl.1 rfl rfl (Nat.le_of_ble_eq_true rfl) d_T_tellTerm_214 (fun H locs hH hS => ?_)
          obtain rfl := z_r1 hf
          exact z_vret M hH hS d_T_tellTerm_217
        replace hf := z_f c18 hf
        by_cases c21 : i14 = (6 : Int32)
        · replace hf := z_t c21 hf
          refine lv_tableIn (tgt := 105) (off := 63) M.x M.b d_T_tellTerm_42 (by rw [c21]; decide) (by rw [c21]; decide) (by rw [c21]; rfl) (by decide) ?_
          refine lv_aload_n M.x M.b d_T_tellTerm_105 rfl (lv_at hl 1 rfl) ?_
          refine lv_iload_n M.x M.b d_T_tellTerm_106 rfl (lv_at hl 2 rfl) ?_
          refine lv_iload_n M.x M.b d_T_tellTerm_107 rfl (lv_at hl 3 rfl) ?_
          refine lv_iload_n M.x M.b d_T_tellTerm_108 rfl (lv_at hl 4 rfl) ?_
          refine lv_iload M.x M.b d_T_tellTerm_109 (lv_at hl 5 rfl) ?_
          refine lv_iload M.x M.b d_T_tellTerm_111 (lv_at hl 6 rfl) ?_
          refine lv_aload M.x M.b d_T_tellTerm_113 (lv_at hl 7 rfl) ?_
          replace hf := z_bind hf; obtain ⟨h23, e22, hf⟩ := hf
          refine zk_V (ci := 6) (st1 := []) M hH hS (c_T_tellPair rec hn0 hrec e22) rfl (o_T_tellPair e22) w_T_tellPair q_218 [] rfl (zR_n (by omega) (by decide)) hl.1 rfl rfl (Nat.le_of_ble_eq_true rfl) d_T_tellTerm_115 (fun H locs hH hS => ?_)
          refine lv_goto (tgt := 217) M.x M.b d_T_tellTerm_118 (by decide) ?_
          obtain rfl := z_r1 hf
          exact z_vret M hH hS d_T_tellTerm_217
        replace hf := z_f c21 hf
        by_cases c24 : i14 = (7 : Int32)
        · replace hf := z_t c24 hf
          refine lv_tableIn (tgt := 105) (off := 63) M.x M.b d_T_tellTerm_42 (by rw [c24]; decide) (by rw [c24]; decide) (by rw [c24]; rfl) (by decide) ?_
          refine lv_aload_n M.x M.b d_T_tellTerm_105 rfl (lv_at hl 1 rfl) ?_
          refine lv_iload_n M.x M.b d_T_tellTerm_106 rfl (lv_at hl 2 rfl) ?_
          refine lv_iload_n M.x M.b d_T_tellTerm_107 rfl (lv_at hl 3 rfl) ?_
          refine lv_iload_n M.x M.b d_T_tellTerm_108 rfl (lv_at hl 4 rfl) ?_
          refine lv_iload M.x M.b d_T_tellTerm_109 (lv_at hl 5 rfl) ?_
          refine lv_iload M.x M.b d_T_tellTerm_111 (lv_at hl 6 rfl) ?_
          refine lv_aload M.x M.b d_T_tellTerm_113 (lv_at hl 7 rfl) ?_
          replace hf := z_bind hf; obtain ⟨h26, e25, hf⟩ := hf
          refine zk_V (ci := 6) (st1 := []) M hH hS (c_T_tellPair rec hn0 hrec e25) rfl (o_T_tellPair e25) w_T_tellPair q_218 [] rfl (zR_n (by omega) (by decide)) hl.1 rfl rfl (Nat.le_of_ble_eq_true rfl) d_T_tellTerm_115 (fun H locs hH hS => ?_)
          refine lv_goto (tgt := 217) M.x M.b d_T_tellTerm_118 (by decide) ?_
          obtain rfl := z_r1 hf
          exact z_vret M hH hS d_T_tellTerm_217
        replace hf := z_f c24 hf
        by_cases c27 : i14 = (8 : Int32)
        · replace hf := z_t c27 hf
          refine lv_tableIn (tgt := 105) (off := 63) M.x M.b d_T_tellTerm_42 (by rw [c27]; decide) (by rw [c27]; decide) (by rw [c27]; rfl) (by decide) ?_
          refine lv_aload_n M.x M.b d_T_tellTerm_105 rfl (lv_at hl 1 rfl) ?_
          refine lv_iload_n M.x M.b d_T_tellTerm_106 rfl (lv_at hl 2 rfl) ?_
          refine lv_iload_n M.x M.b d_T_tellTerm_107 rfl (lv_at hl 3 rfl) ?_
          refine lv_iload_n M.x M.b d_T_tellTerm_108 rfl (lv_at hl 4 rfl) ?_
          refine lv_iload M.x M.b d_T_tellTerm_109 (lv_at hl 5 rfl) ?_
          refine lv_iload M.x M.b d_T_tellTerm_111 (lv_at hl 6 rfl) ?_
          refine lv_aload M.x M.b d_T_tellTerm_113 (lv_at hl 7 rfl) ?_
          replace hf := z_bind hf; obtain ⟨h29, e28, hf⟩ := hf
          refine zk_V (ci := 6) (st1 := []) M hH hS (c_T_tellPair rec hn0 hrec e28) rfl (o_T_tellPair e28) w_T_tellPair q_218 [] rfl (zR_n (by omega) (by decide)) hl.1 rfl rfl (Nat.le_of_ble_eq_true rfl) d_T_tellTerm_115 (fun H locs hH hS => ?_)
          refine lv_goto (tgt := 217) M.x M.b d_T_tellTerm_118 (by decide) ?_
          obtain rfl := z_r1 hf
          exact z_vret M hH hS d_T_tellTerm_217
        replace hf := z_f c27 hf
        by_cases c30 : i14 = (9 : Int32)
        · replace hf := z_t c30 hf
          refine lv_tableIn (tgt := 105) (off := 63) M.x M.b d_T_tellTerm_42 (by rw [c30]; decide) (by rw [c30]; decide) (by rw [c30]; rfl) (by decide) ?_
          refine lv_aload_n M.x M.b d_T_tellTerm_105 rfl (lv_at hl 1 rfl) ?_
          refine lv_iload_n M.x M.b d_T_tellTerm_106 rfl (lv_at hl 2 rfl) ?_
          refine lv_iload_n M.x M.b d_T_tellTerm_107 rfl (lv_at hl 3 rfl) ?_
          refine lv_iload_n M.x M.b d_T_tellTerm_108 rfl (lv_at hl 4 rfl) ?_
          refine lv_iload M.x M.b d_T_tellTerm_109 (lv_at hl 5 rfl) ?_
          refine lv_iload M.x M.b d_T_tellTerm_111 (lv_at hl 6 rfl) ?_
          refine lv_aload M.x M.b d_T_tellTerm_113 (lv_at hl 7 rfl) ?_
          replace hf := z_bind hf; obtain ⟨h32, e31, hf⟩ := hf
          refine zk_V (ci := 6) (st1 := []) M hH hS (c_T_tellPair rec hn0 hrec e31) rfl (o_T_tellPair e31) w_T_tellPair q_218 [] rfl (zR_n (by omega) (by decide)) hl.1 rfl rfl (Nat.le_of_ble_eq_true rfl) d_T_tellTerm_115 (fun H locs hH hS => ?_)
          refine lv_goto (tgt := 217) M.x M.b d_T_tellTerm_118 (by decide) ?_
          obtain rfl := z_r1 hf
          exact z_vret M hH hS d_T_tellTerm_217
        replace hf := z_f c30 hf
        by_cases c33 : i14 = (10 : Int32)
        · replace hf := z_t c33 hf
          refine lv_tableIn (tgt := 121) (off := 79) M.x M.b d_T_tellTerm_42 (by rw [c33]; decide) (by rw [c33]; decide) (by rw [c33]; rfl) (by decide) ?_
          refine lv_aload_n M.x M.b d_T_tellTerm_121 rfl (lv_at hl 1 rfl) ?_
          refine lv_iload_n M.x M.b d_T_tellTerm_122 rfl (lv_at hl 2 rfl) ?_
          refine lv_iconst (v := (1 : Int32)) M.x M.b d_T_tellTerm_123 rfl ?_
          refine lv_iadd M.x M.b d_T_tellTerm_124 ?_
          refine lv_iload_n M.x M.b d_T_tellTerm_125 rfl (lv_at hl 4 rfl) ?_
          refine lv_iload_n M.x M.b d_T_tellTerm_126 rfl (lv_at hl 3 rfl) ?_
          refine lv_iload M.x M.b d_T_tellTerm_127 (lv_at hl 5 rfl) ?_
          refine lv_iload M.x M.b d_T_tellTerm_129 (lv_at hl 6 rfl) ?_
          refine lv_iconst (v := (1 : Int32)) M.x M.b d_T_tellTerm_131 rfl ?_
          refine lv_iadd M.x M.b d_T_tellTerm_132 ?_
          refine lv_aload M.x M.b d_T_tellTerm_133 (lv_at hl 7 rfl) ?_
          replace hf := z_bind hf; obtain ⟨h35, e34, hf⟩ := hf
          refine zk_V (ci := 6) (st1 := []) M hH hS (hrec e34).1 rfl (hrec e34).2 w_T_tellTerm q_198 [] rfl (zR_n (by omega) (by decide)) hl.1 rfl rfl (Nat.le_of_ble_eq_true rfl) d_T_tellTerm_135 (fun H locs hH hS => ?_)
          refine lv_aload M.x M.b d_T_tellTerm_138 (lv_at hl 7 rfl) ?_
          replace hf := z_bind hf; obtain ⟨h37, e36, hf⟩ := hf
          refine zk_V (ci := 1) (st1 := []) M hH hS (c_F_turnOver e36) rfl (o_F_turnOver e36) w_F_turnOver q_219 [] rfl (zR_n (by omega) (by decide)) hl.1 rfl rfl (Nat.le_of_ble_eq_true rfl) d_T_tellTerm_140 (fun H locs hH hS => ?_)
          refine lv_goto (tgt := 217) M.x M.b d_T_tellTerm_143 (by decide) ?_
          obtain rfl := z_r1 hf
          exact z_vret M hH hS d_T_tellTerm_217
        replace hf := z_f c33 hf
        by_cases c38 : i14 = (11 : Int32)
        · replace hf := z_t c38 hf
          refine lv_tableIn (tgt := 146) (off := 104) M.x M.b d_T_tellTerm_42 (by rw [c38]; decide) (by rw [c38]; decide) (by rw [c38]; rfl) (by decide) ?_
          refine lv_aload_n M.x M.b d_T_tellTerm_146 rfl (lv_at hl 1 rfl) ?_
          refine lv_iload_n M.x M.b d_T_tellTerm_147 rfl (lv_at hl 2 rfl) ?_
          refine lv_iconst (v := (1 : Int32)) M.x M.b d_T_tellTerm_148 rfl ?_
          refine lv_iadd M.x M.b d_T_tellTerm_149 ?_
          refine lv_iload_n M.x M.b d_T_tellTerm_150 rfl (lv_at hl 3 rfl) ?_
          refine lv_iload_n M.x M.b d_T_tellTerm_151 rfl (lv_at hl 4 rfl) ?_
          refine lv_iload M.x M.b d_T_tellTerm_152 (lv_at hl 5 rfl) ?_
          refine lv_iload M.x M.b d_T_tellTerm_154 (lv_at hl 6 rfl) ?_
          refine lv_aload M.x M.b d_T_tellTerm_156 (lv_at hl 7 rfl) ?_
          replace hf := z_bind hf; obtain ⟨h40, e39, hf⟩ := hf
          refine zk_V (ci := 6) (st1 := []) M hH hS (c_T_tellLink rec hn0 hrec e39) rfl (o_T_tellLink e39) w_T_tellLink q_220 [] rfl (zR_n (by omega) (by decide)) hl.1 rfl rfl (Nat.le_of_ble_eq_true rfl) d_T_tellTerm_158 (fun H locs hH hS => ?_)
          refine lv_goto (tgt := 217) M.x M.b d_T_tellTerm_161 (by decide) ?_
          obtain rfl := z_r1 hf
          exact z_vret M hH hS d_T_tellTerm_217
        replace hf := z_f c38 hf
        by_cases c41 : i14 = (12 : Int32)
        · replace hf := z_t c41 hf
          refine lv_tableIn (tgt := 164) (off := 122) M.x M.b d_T_tellTerm_42 (by rw [c41]; decide) (by rw [c41]; decide) (by rw [c41]; rfl) (by decide) ?_
          refine lv_iload M.x M.b d_T_tellTerm_164 (lv_at hl 5 rfl) ?_
          refine lv_aload_n M.x M.b d_T_tellTerm_166 rfl (lv_at hl 1 rfl) ?_
          replace hf := z_bind hf; obtain ⟨r42, e43, hf⟩ := hf
          refine z_get (ci := 6) (k := 1) M hH rfl (by decide) zinT q_175 (gA_spec e43) d_T_tellTerm_167 ?_
          refine lv_iload_n M.x M.b d_T_tellTerm_170 rfl (lv_at hl 3 rfl) ?_
          rcases r42 with _ | a44
          · exact absurd hf z_nb0
          replace hf := z_sb hf
          replace hf := z_bind hf; obtain ⟨i47, e46, hf⟩ := hf
          refine zk_V (ci := 0) (st1 := [.int i47, .int x4]) M hH hS (c_B_goodsPricedIn e46) rfl (o_B_goodsPricedIn e46) w_B_goodsPricedIn q_221 [.int x4] rfl (zR_n (by omega) (by decide)) hl.1 rfl rfl (Nat.le_of_ble_eq_true rfl) d_T_tellTerm_171 (fun H locs hH hS => ?_)
          refine lv_iand M.x M.b d_T_tellTerm_174 ?_
          refine lv_aload_n M.x M.b d_T_tellTerm_175 rfl (lv_at hl 1 rfl) ?_
          replace hf := z_bind hf; obtain ⟨r48, e49, hf⟩ := hf
          refine z_get (ci := 6) (k := 1) M hH rfl (by decide) zinT q_175 (gA_spec e49) d_T_tellTerm_176 ?_
          refine lv_iload_n M.x M.b d_T_tellTerm_179 rfl (lv_at hl 4 rfl) ?_
          rcases r48 with _ | a50
          · exact absurd hf z_nb0
          replace hf := z_sb hf
          replace hf := z_bind hf; obtain ⟨i53, e52, hf⟩ := hf
          refine zk_V (ci := 0) (st1 := [.int i53, .int (x4 &&& i47)]) M hH hS (c_B_goodsPricedIn e52) rfl (o_B_goodsPricedIn e52) w_B_goodsPricedIn q_221 [.int (x4 &&& i47)] rfl (zR_n (by omega) (by decide)) hl.1 rfl rfl (Nat.le_of_ble_eq_true rfl) d_T_tellTerm_180 (fun H locs hH hS => ?_)
          refine lv_iand M.x M.b d_T_tellTerm_183 ?_
          refine lv_istore (lv' := [(8, .int ((x4 &&& i47) &&& i53)), (7, .int i14), (0, .ref this), (1, .int x1), (2, .int x2), (3, .int x3), (4, .int x4), (5, .int x5), (6, .ref x6)]) M.x M.b d_T_tellTerm_184 hl (by decide) rfl (fun ls hl => ?_)
          refine lv_aload_n M.x M.b d_T_tellTerm_186 rfl (lv_at hl 2 rfl) ?_
          refine lv_iload_n M.x M.b d_T_tellTerm_187 rfl (lv_at hl 3 rfl) ?_
          refine lv_iconst (v := (1 : Int32)) M.x M.b d_T_tellTerm_188 rfl ?_
          refine lv_iadd M.x M.b d_T_tellTerm_189 ?_
          refine lv_iload_n M.x M.b d_T_tellTerm_190 rfl (lv_at hl 4 rfl) ?_
          refine lv_iload_n M.x M.b d_T_tellTerm_191 rfl (lv_at hl 5 rfl) ?_
          refine lv_iload M.x M.b d_T_tellTerm_192 (lv_at hl 0 rfl) ?_
          refine lv_iload M.x M.b d_T_tellTerm_194 (lv_at hl 7 rfl) ?_
          refine lv_iconst (v := (1 : Int32)) M.x M.b d_T_tellTerm_196 rfl ?_
          refine lv_iadd M.x M.b d_T_tellTerm_197 ?_
          refine lv_aload M.x M.b d_T_tellTerm_198 (lv_at hl 8 rfl) ?_
          replace hf := z_bind hf; obtain ⟨h55, e54, hf⟩ := hf
          refine zk_V (ci := 6) (st1 := []) M hH hS (hrec e54).1 rfl (hrec e54).2 w_T_tellTerm q_198 [] rfl (zR_n (by omega) (by decide)) hl.1 rfl rfl (Nat.le_of_ble_eq_true rfl) d_T_tellTerm_200 (fun H locs hH hS => ?_)
          refine lv_goto (tgt := 217) M.x M.b d_T_tellTerm_203 (by decide) ?_
          obtain rfl := z_r1 hf
          exact z_vret M hH hS d_T_tellTerm_217
        replace hf := z_f c41 hf
        refine lv_tableOut (tgt := 206) M.x M.b d_T_tellTerm_42 (by have tc15 := lv_neT (a := 4) c15 (by decide); have tc18 := lv_neT (a := 5) c18 (by decide); have tc21 := lv_neT (a := 6) c21 (by decide); have tc24 := lv_neT (a := 7) c24 (by decide); have tc27 := lv_neT (a := 8) c27 (by decide); have tc30 := lv_neT (a := 9) c30 (by decide); have tc33 := lv_neT (a := 10) c33 (by decide); have tc38 := lv_neT (a := 11) c38 (by decide); have tc41 := lv_neT (a := 12) c41 (by decide); omega) (by decide) ?_
        refine lv_aload_n M.x M.b d_T_tellTerm_206 rfl (lv_at hl 1 rfl) ?_
        refine lv_iload_n M.x M.b d_T_tellTerm_207 rfl (lv_at hl 2 rfl) ?_
        refine lv_iload_n M.x M.b d_T_tellTerm_208 rfl (lv_at hl 3 rfl) ?_
        refine lv_iload_n M.x M.b d_T_tellTerm_209 rfl (lv_at hl 4 rfl) ?_
        refine lv_iload M.x M.b d_T_tellTerm_210 (lv_at hl 5 rfl) ?_
        refine lv_aload M.x M.b d_T_tellTerm_212 (lv_at hl 7 rfl) ?_
        replace hf := z_bind hf; obtain ⟨h57, e56, hf⟩ := hf
        refine zk_V (ci := 6) (st1 := []) M hH hS (c_T_tellCosts e56) rfl (o_T_tellCosts e56) w_T_tellCosts q_217 [] rfl (zR_n (by omega) (by decide)) hl.1 rfl rfl (Nat.le_of_ble_eq_true rfl) d_T_tellTerm_214 (fun H locs hH hS => ?_)
        obtain rfl := z_r1 hf
        exact z_vret M hH hS d_T_tellTerm_217
def f_T_tellTerm : Nat → Nat → Int32 → Int32 → Int32 → Int32 → Int32 → Nat → Hp → Option (Hp)
  | 0, _, _, _, _, _, _, _, _ => none
  | n + 1, this, x1, x2, x3, x4, x5, x6, h => t_T_tellTerm (f_T_tellTerm n) this x1 x2 x3 x4 x5 x6 h
theorem o_T_tellTerm : ∀ {k : Nat} {this : Nat} {x1 : Int32} {x2 : Int32} {x3 : Int32} {x4 : Int32} {x5 : Int32} {x6 : Nat} {h : Hp} {h0 : Hp}, f_T_tellTerm k this x1 x2 x3 x4 x5 x6 h = some h0 → isO h this 6 = true := by
  intro k
  cases k with
  | zero => intros; rename_i hf; exact absurd (show none = some _ from hf) (fun q => by cases q)
  | succ k => intros; rename_i hf; exact ot_T_tellTerm hf
theorem c_T_tellTerm {l : Launch} {N0 : Nat} {D : va_G} {cs : Nat → ClassId} : ∀ {k : Nat} {this : Nat} {x1 : Int32} {x2 : Int32} {x3 : Int32} {x4 : Int32} {x5 : Int32} {x6 : Nat} {h : Hp} {h0 : Hp}, f_T_tellTerm k this x1 x2 x3 x4 x5 x6 h = some h0 → Fn l N0 D cs y_T_tellTerm b_T_tellTerm 9 (none) (8 + 2 * k) 0 0 [.ref this, .int x1, .int x2, .int x3, .int x4, .int x5, .ref x6] h none h0 := by
  intro k
  induction k with
  | zero => intros; rename_i hf; exact absurd (show none = some _ from hf) (fun q => by cases q)
  | succ k ih => intros; rename_i hf; exact ct_T_tellTerm (n0 := 8 + 2 * k) (f_T_tellTerm k) (Nat.le_add_right _ _) (fun hf => ⟨ih hf, o_T_tellTerm hf⟩) hf
def f_T_tell (this : Nat) (x1 : Nat) (x2 : Nat) (x3 : Int32) (x4 : Int32) (x5 : Int32) (x6 : Nat) (h : Hp) : Option (Hp) :=
  if isO h this 6 = true then
  zb2 (f_T_isReady this x1 x2 x3 x6 h) fun i2 h3 =>
  if i2 = 0 then
    some h3
  else
  (f_B_goodsThere x2 h3).bind fun i5 =>
  (f_T_tellTerm 12 this (0 : Int32) x4 x5 i5 (0 : Int32) x6 h3).bind fun h7 =>
  some h7
  else none
theorem o_T_tell {this : Nat} {x1 : Nat} {x2 : Nat} {x3 : Int32} {x4 : Int32} {x5 : Int32} {x6 : Nat} {h : Hp} {h0 : Hp} (hf : f_T_tell this x1 x2 x3 x4 x5 x6 h = some h0) : isO h this 6 = true := by
  unfold f_T_tell at hf
  exact (z_gd hf).1
set_option maxRecDepth 100000 in
set_option maxHeartbeats 4000000 in
theorem c_T_tell {l : Launch} {N0 : Nat} {D : va_G} {cs : Nat → ClassId} {this : Nat} {x1 : Nat} {x2 : Nat} {x3 : Int32} {x4 : Int32} {x5 : Int32} {x6 : Nat} {h : Hp} {h0 : Hp} (hf : f_T_tell this x1 x2 x3 x4 x5 x6 h = some h0) : Fn l N0 D cs y_T_tell b_T_tell 7 (none) 33 0 0 [.ref this, .ref x1, .ref x2, .int x3, .int x4, .int x5, .ref x6] h none h0 := by
  refine z_start (by decide) (Nat.le_of_ble_eq_true rfl) ?_
  intro p e s m args below meth c M hH hS ls hl
  unfold f_T_tell at hf
  obtain ⟨hO, hf⟩ := z_gd hf
  have hl : lv_has ls 7 [(0, .ref this), (1, .ref x1), (2, .ref x2), (3, .int x3), (4, .int x4), (5, .int x5), (6, .ref x6)] := hl
  obtain ⟨H, hHe⟩ : ∃ H, H = s.heap := ⟨_, rfl⟩
  obtain ⟨locs, hLe⟩ : ∃ locs : List Loc, locs = [] := ⟨_, rfl⟩
  have hS : va_S (zA N0) s.heap H locs := by rw [hHe, hLe]; exact hS
  have hH : HH N0 D cs h H := by rw [hHe]; exact hH
  suffices hg : W p l e (zrm 33 0 0) s m args below meth c H locs 0 0 (MQ below (zQ N0 D cs none h0) args s 0 0 (zA N0)) (F0 m 0 ls []) by rw [hHe, hLe] at hg; exact hg
  clear hHe hLe
  refine lv_aload_n M.x M.b d_T_tell_0 rfl (lv_at hl 0 rfl) ?_
  refine lv_aload_n M.x M.b d_T_tell_1 rfl (lv_at hl 1 rfl) ?_
  refine lv_aload_n M.x M.b d_T_tell_2 rfl (lv_at hl 2 rfl) ?_
  refine lv_iload_n M.x M.b d_T_tell_3 rfl (lv_at hl 3 rfl) ?_
  refine lv_aload M.x M.b d_T_tell_4 (lv_at hl 6 rfl) ?_
  replace hf := z_bind2 hf; obtain ⟨i2, h3, e1, hf⟩ := hf
  refine zk_V (ci := 6) (st1 := [.int i2]) M hH hS (c_T_isReady e1) rfl (o_T_isReady e1) w_T_isReady q_226 [] rfl ⟨Nat.le_of_ble_eq_true rfl, Nat.le_of_ble_eq_true rfl⟩ hl.1 rfl rfl (Nat.le_of_ble_eq_true rfl) d_T_tell_6 (fun H locs hH hS => ?_)
  refine lv_if_eq (tgt := 28) M.x M.b d_T_tell_9 (by decide) (fun c8 => ?_) (fun c8 => ?_)
  · replace hf := z_t c8 hf
    obtain rfl := z_r1 hf
    exact z_vret M hH hS d_T_tell_28
  · replace hf := z_f c8 hf
    refine lv_aload_n M.x M.b d_T_tell_12 rfl (lv_at hl 0 rfl) ?_
    refine lv_iconst (v := (0 : Int32)) M.x M.b d_T_tell_13 rfl ?_
    refine lv_iload M.x M.b d_T_tell_14 (lv_at hl 4 rfl) ?_
    refine lv_iload M.x M.b d_T_tell_16 (lv_at hl 5 rfl) ?_
    refine lv_aload_n M.x M.b d_T_tell_18 rfl (lv_at hl 2 rfl) ?_
    replace hf := z_bind hf; obtain ⟨i5, e4, hf⟩ := hf
    refine zk_V (ci := 0) (st1 := [.int i5, .int x5, .int x4, .int (0 : Int32), .ref this]) M hH hS (c_B_goodsThere e4) rfl (o_B_goodsThere e4) w_B_goodsThere q_225 [.int x5, .int x4, .int (0 : Int32), .ref this] rfl ⟨Nat.le_of_ble_eq_true rfl, Nat.le_of_ble_eq_true rfl⟩ hl.1 rfl rfl (Nat.le_of_ble_eq_true rfl) d_T_tell_19 (fun H locs hH hS => ?_)
    refine lv_iconst (v := (0 : Int32)) M.x M.b d_T_tell_22 rfl ?_
    refine lv_aload M.x M.b d_T_tell_23 (lv_at hl 6 rfl) ?_
    replace hf := z_bind hf; obtain ⟨h7, e6, hf⟩ := hf
    refine zk_V (ci := 6) (st1 := []) M hH hS (c_T_tellTerm e6) rfl (o_T_tellTerm e6) w_T_tellTerm q_198 [] rfl ⟨Nat.le_of_ble_eq_true rfl, Nat.le_of_ble_eq_true rfl⟩ hl.1 rfl rfl (Nat.le_of_ble_eq_true rfl) d_T_tell_25 (fun H locs hH hS => ?_)
    obtain rfl := z_r1 hf
    exact z_vret M hH hS d_T_tell_28
def f_T_tellLinked (this : Nat) (x1 : Nat) (x2 : Nat) (x3 : Int32) (x4 : Int32) (x5 : Int32) (x6 : Nat) (h : Hp) : Option (Hp) :=
  if isO h this 6 = true then
  zb2 (f_T_isReady this x1 x2 x3 x6 h) fun i2 h3 =>
  if i2 = 0 then
    some h3
  else
  (f_B_goodsThere x2 h3).bind fun i5 =>
  (f_T_tellLink (f_T_tellTerm 12) this (0 : Int32) x4 x5 i5 (0 : Int32) x6 h3).bind fun h7 =>
  some h7
  else none
theorem o_T_tellLinked {this : Nat} {x1 : Nat} {x2 : Nat} {x3 : Int32} {x4 : Int32} {x5 : Int32} {x6 : Nat} {h : Hp} {h0 : Hp} (hf : f_T_tellLinked this x1 x2 x3 x4 x5 x6 h = some h0) : isO h this 6 = true := by
  unfold f_T_tellLinked at hf
  exact (z_gd hf).1
set_option maxRecDepth 100000 in
set_option maxHeartbeats 4000000 in
theorem c_T_tellLinked {l : Launch} {N0 : Nat} {D : va_G} {cs : Nat → ClassId} {this : Nat} {x1 : Nat} {x2 : Nat} {x3 : Int32} {x4 : Int32} {x5 : Int32} {x6 : Nat} {h : Hp} {h0 : Hp} (hf : f_T_tellLinked this x1 x2 x3 x4 x5 x6 h = some h0) : Fn l N0 D cs y_T_tellLinked b_T_tellLinked 7 (none) 34 0 0 [.ref this, .ref x1, .ref x2, .int x3, .int x4, .int x5, .ref x6] h none h0 := by
  refine z_start (by decide) (Nat.le_of_ble_eq_true rfl) ?_
  intro p e s m args below meth c M hH hS ls hl
  unfold f_T_tellLinked at hf
  obtain ⟨hO, hf⟩ := z_gd hf
  have hl : lv_has ls 7 [(0, .ref this), (1, .ref x1), (2, .ref x2), (3, .int x3), (4, .int x4), (5, .int x5), (6, .ref x6)] := hl
  obtain ⟨H, hHe⟩ : ∃ H, H = s.heap := ⟨_, rfl⟩
  obtain ⟨locs, hLe⟩ : ∃ locs : List Loc, locs = [] := ⟨_, rfl⟩
  have hS : va_S (zA N0) s.heap H locs := by rw [hHe, hLe]; exact hS
  have hH : HH N0 D cs h H := by rw [hHe]; exact hH
  suffices hg : W p l e (zrm 34 0 0) s m args below meth c H locs 0 0 (MQ below (zQ N0 D cs none h0) args s 0 0 (zA N0)) (F0 m 0 ls []) by rw [hHe, hLe] at hg; exact hg
  clear hHe hLe
  refine lv_aload_n M.x M.b d_T_tellLinked_0 rfl (lv_at hl 0 rfl) ?_
  refine lv_aload_n M.x M.b d_T_tellLinked_1 rfl (lv_at hl 1 rfl) ?_
  refine lv_aload_n M.x M.b d_T_tellLinked_2 rfl (lv_at hl 2 rfl) ?_
  refine lv_iload_n M.x M.b d_T_tellLinked_3 rfl (lv_at hl 3 rfl) ?_
  refine lv_aload M.x M.b d_T_tellLinked_4 (lv_at hl 6 rfl) ?_
  replace hf := z_bind2 hf; obtain ⟨i2, h3, e1, hf⟩ := hf
  refine zk_V (ci := 6) (st1 := [.int i2]) M hH hS (c_T_isReady e1) rfl (o_T_isReady e1) w_T_isReady q_226 [] rfl ⟨Nat.le_of_ble_eq_true rfl, Nat.le_of_ble_eq_true rfl⟩ hl.1 rfl rfl (Nat.le_of_ble_eq_true rfl) d_T_tellLinked_6 (fun H locs hH hS => ?_)
  refine lv_if_eq (tgt := 28) M.x M.b d_T_tellLinked_9 (by decide) (fun c8 => ?_) (fun c8 => ?_)
  · replace hf := z_t c8 hf
    obtain rfl := z_r1 hf
    exact z_vret M hH hS d_T_tellLinked_28
  · replace hf := z_f c8 hf
    refine lv_aload_n M.x M.b d_T_tellLinked_12 rfl (lv_at hl 0 rfl) ?_
    refine lv_iconst (v := (0 : Int32)) M.x M.b d_T_tellLinked_13 rfl ?_
    refine lv_iload M.x M.b d_T_tellLinked_14 (lv_at hl 4 rfl) ?_
    refine lv_iload M.x M.b d_T_tellLinked_16 (lv_at hl 5 rfl) ?_
    refine lv_aload_n M.x M.b d_T_tellLinked_18 rfl (lv_at hl 2 rfl) ?_
    replace hf := z_bind hf; obtain ⟨i5, e4, hf⟩ := hf
    refine zk_V (ci := 0) (st1 := [.int i5, .int x5, .int x4, .int (0 : Int32), .ref this]) M hH hS (c_B_goodsThere e4) rfl (o_B_goodsThere e4) w_B_goodsThere q_225 [.int x5, .int x4, .int (0 : Int32), .ref this] rfl ⟨Nat.le_of_ble_eq_true rfl, Nat.le_of_ble_eq_true rfl⟩ hl.1 rfl rfl (Nat.le_of_ble_eq_true rfl) d_T_tellLinked_19 (fun H locs hH hS => ?_)
    refine lv_iconst (v := (0 : Int32)) M.x M.b d_T_tellLinked_22 rfl ?_
    refine lv_aload M.x M.b d_T_tellLinked_23 (lv_at hl 6 rfl) ?_
    replace hf := z_bind hf; obtain ⟨h7, e6, hf⟩ := hf
    refine zk_V (ci := 6) (st1 := []) M hH hS (c_T_tellLink (f_T_tellTerm 12) (n0 := 8 + 2 * 12) (Nat.le_add_right _ _) (fun hf => ⟨c_T_tellTerm hf, o_T_tellTerm hf⟩) e6) rfl (o_T_tellLink e6) w_T_tellLink q_220 [] rfl ⟨Nat.le_of_ble_eq_true rfl, Nat.le_of_ble_eq_true rfl⟩ hl.1 rfl rfl (Nat.le_of_ble_eq_true rfl) d_T_tellLinked_25 (fun H locs hH hS => ?_)
    obtain rfl := z_r1 hf
    exact z_vret M hH hS d_T_tellLinked_28
