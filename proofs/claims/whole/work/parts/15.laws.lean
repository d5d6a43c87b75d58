/-! ===== Laws: printed by wip/whole/drive.py out of the bytecode ===== -/
theorem q_230 : (Jvm.Cond.instanceMethod ({ cls := "YearBaskets$Laws", name := "forget", desc := "()V" } : Jvm.MethodName)) ∈ zG := zt_2 (List.mem_of_getElem? (i := 20) rfl) rfl
theorem q_231 : (Jvm.Cond.selects "YearBaskets$Laws" ({ cls := "YearBaskets$Laws", name := "forget", desc := "()V" } : Jvm.MethodName) ({ cls := "YearBaskets$Laws", name := "forget", desc := "()V" } : Jvm.MethodName)) ∈ zG := zt_2 (List.mem_of_getElem? (i := 21) rfl) rfl
theorem q_232 : (Jvm.Cond.code ({ cls := "YearBaskets$Laws", name := "forget", desc := "()V" } : Jvm.MethodName) prog_4_method_2_code (2 : Nat) (Option.none : Option Jvm.ClassFile.FieldType)) ∈ zG := zt_2 (List.mem_of_getElem? (i := 22) rfl) rfl
theorem q_233 : (Jvm.Cond.initialized "YearBaskets$Laws") ∈ zG := zt_1 (List.mem_of_getElem? (i := 7) rfl) rfl
theorem q_234 : (Jvm.Cond.fieldLink "YearBaskets$Laws" (46 : Nat) "YearBaskets$Laws" "told" "I") ∈ zG := zt_1 (List.mem_of_getElem? (i := 156) rfl) rfl
theorem q_235 : (Jvm.Cond.fieldLink "YearBaskets$Laws" (22 : Nat) "YearBaskets$Laws" "found" "[I") ∈ zG := zt_1 (List.mem_of_getElem? (i := 150) rfl) rfl
theorem q_236 : (Jvm.Cond.static ({ cls := "YearBaskets$Laws", name := "partOfBreach", desc := "(II)I" } : Jvm.MethodName)) ∈ zG := zt_3 (List.mem_of_getElem? (i := 166) rfl) rfl
theorem q_237 : (Jvm.Cond.code ({ cls := "YearBaskets$Laws", name := "partOfBreach", desc := "(II)I" } : Jvm.MethodName) prog_4_method_3_code (3 : Nat) (Option.some Jvm.ClassFile.FieldType.int)) ∈ zG := zt_3 (List.mem_of_getElem? (i := 167) rfl) rfl
theorem q_238 : (Jvm.Cond.instanceMethod ({ cls := "YearBaskets$Laws", name := "tellAllYears", desc := "()V" } : Jvm.MethodName)) ∈ zG := zt_3 (List.mem_of_getElem? (i := 101) rfl) rfl
theorem q_239 : (Jvm.Cond.selects "YearBaskets$Laws" ({ cls := "YearBaskets$Laws", name := "tellAllYears", desc := "()V" } : Jvm.MethodName) ({ cls := "YearBaskets$Laws", name := "tellAllYears", desc := "()V" } : Jvm.MethodName)) ∈ zG := zG_s (List.mem_of_getElem? (i := 19) rfl) rfl
theorem q_240 : (Jvm.Cond.code ({ cls := "YearBaskets$Laws", name := "tellAllYears", desc := "()V" } : Jvm.MethodName) prog_4_method_5_code (2 : Nat) (Option.none : Option Jvm.ClassFile.FieldType)) ∈ zG := zt_3 (List.mem_of_getElem? (i := 102) rfl) rfl
theorem q_241 : (Jvm.Cond.fieldLinkNest "YearBaskets$Laws" (89 : Nat) "YearBaskets$Fraction" "root" "Z" "YearBaskets") ∈ zNw := List.mem_of_getElem? (i := 14) rfl
theorem q_242 : (Jvm.Cond.fieldLink "YearBaskets$Laws" (31 : Nat) "YearBaskets$Laws" "left" "LYearBaskets$Fraction;") ∈ zG := zt_1 (List.mem_of_getElem? (i := 152) rfl) rfl
theorem q_243 : (Jvm.Cond.fieldLinkNest "YearBaskets$Laws" (86 : Nat) "YearBaskets$Fraction" "refusal" "I" "YearBaskets") ∈ zNw := List.mem_of_getElem? (i := 17) rfl
theorem q_244 : (Jvm.Cond.fieldLink "YearBaskets$Laws" (18 : Nat) "YearBaskets$Laws" "kinds" "[I") ∈ zG := zt_1 (List.mem_of_getElem? (i := 149) rfl) rfl
theorem q_245 : (Jvm.Cond.fieldLinkNest "YearBaskets$Laws" (83 : Nat) "YearBaskets$Fraction" "lower" "J" "YearBaskets") ∈ zNw := List.mem_of_getElem? (i := 11) rfl
theorem q_246 : (Jvm.Cond.fieldLink "YearBaskets$Laws" (15 : Nat) "YearBaskets$Laws" "lowers" "[J") ∈ zG := zt_1 (List.mem_of_getElem? (i := 148) rfl) rfl
theorem q_247 : (Jvm.Cond.fieldLinkNest "YearBaskets$Laws" (79 : Nat) "YearBaskets$Fraction" "upper" "J" "YearBaskets") ∈ zNw := List.mem_of_getElem? (i := 8) rfl
theorem q_248 : (Jvm.Cond.fieldLink "YearBaskets$Laws" (9 : Nat) "YearBaskets$Laws" "uppers" "[J") ∈ zG := zt_1 (List.mem_of_getElem? (i := 147) rfl) rfl
theorem q_249 : (Jvm.Cond.methodLink "YearBaskets$Laws" (73 : Nat) ({ cls := "YearBaskets$Teller", name := "tell", desc := "(LYearBaskets$Plan;LYearBaskets$Books;IIILYearBaskets$Fraction;)V" } : Jvm.MethodName)) ∈ zG := zt_3 (List.mem_of_getElem? (i := 103) rfl) rfl
theorem q_250 : (Jvm.Cond.fieldLink "YearBaskets$Laws" (42 : Nat) "YearBaskets$Laws" "who" "I") ∈ zG := zt_1 (List.mem_of_getElem? (i := 155) rfl) rfl
theorem q_251 : (Jvm.Cond.fieldLink "YearBaskets$Laws" (49 : Nat) "YearBaskets$Laws" "books" "LYearBaskets$Books;") ∈ zG := zt_1 (List.mem_of_getElem? (i := 144) rfl) rfl
theorem q_252 : (Jvm.Cond.fieldLink "YearBaskets$Laws" (38 : Nat) "YearBaskets$Laws" "plan" "LYearBaskets$Plan;") ∈ zG := zt_1 (List.mem_of_getElem? (i := 154) rfl) rfl
theorem q_253 : (Jvm.Cond.fieldLink "YearBaskets$Laws" (56 : Nat) "YearBaskets$Laws" "teller" "LYearBaskets$Teller;") ∈ zG := zt_1 (List.mem_of_getElem? (i := 146) rfl) rfl
theorem q_254 : (Jvm.Cond.instanceMethod ({ cls := "YearBaskets$Laws", name := "compareRatios", desc := "(IIII)I" } : Jvm.MethodName)) ∈ zG := zt_3 (List.mem_of_getElem? (i := 116) rfl) rfl
theorem q_255 : (Jvm.Cond.selects "YearBaskets$Laws" ({ cls := "YearBaskets$Laws", name := "compareRatios", desc := "(IIII)I" } : Jvm.MethodName) ({ cls := "YearBaskets$Laws", name := "compareRatios", desc := "(IIII)I" } : Jvm.MethodName)) ∈ zG := zG_s (List.mem_of_getElem? (i := 22) rfl) rfl
theorem q_256 : (Jvm.Cond.code ({ cls := "YearBaskets$Laws", name := "compareRatios", desc := "(IIII)I" } : Jvm.MethodName) prog_4_method_10_code (5 : Nat) (Option.some Jvm.ClassFile.FieldType.int)) ∈ zG := zt_3 (List.mem_of_getElem? (i := 117) rfl) rfl
theorem q_257 : (Jvm.Cond.methodLink "YearBaskets$Laws" (154 : Nat) ({ cls := "java/lang/Integer", name := "compare", desc := "(II)I" } : Jvm.MethodName)) ∈ zG := zt_3 (List.mem_of_getElem? (i := 118) rfl) rfl
theorem q_258 : (Jvm.Cond.methodLink "YearBaskets$Laws" (109 : Nat) ({ cls := "YearBaskets$Books", name := "priceOf", desc := "(II)I" } : Jvm.MethodName)) ∈ zG := zt_3 (List.mem_of_getElem? (i := 113) rfl) rfl
theorem q_259 : (Jvm.Cond.instanceMethod ({ cls := "YearBaskets$Laws", name := "recall", desc := "(IILYearBaskets$Fraction;)V" } : Jvm.MethodName)) ∈ zG := zt_3 (List.mem_of_getElem? (i := 123) rfl) rfl
theorem q_260 : (Jvm.Cond.selects "YearBaskets$Laws" ({ cls := "YearBaskets$Laws", name := "recall", desc := "(IILYearBaskets$Fraction;)V" } : Jvm.MethodName) ({ cls := "YearBaskets$Laws", name := "recall", desc := "(IILYearBaskets$Fraction;)V" } : Jvm.MethodName)) ∈ zG := zG_s (List.mem_of_getElem? (i := 23) rfl) rfl
theorem q_261 : (Jvm.Cond.code ({ cls := "YearBaskets$Laws", name := "recall", desc := "(IILYearBaskets$Fraction;)V" } : Jvm.MethodName) prog_4_method_6_code (5 : Nat) (Option.none : Option Jvm.ClassFile.FieldType)) ∈ zG := zt_3 (List.mem_of_getElem? (i := 124) rfl) rfl
theorem q_262 : (Jvm.Cond.methodLink "YearBaskets$Laws" (97 : Nat) ({ cls := "YearBaskets$Fraction", name := "refuse", desc := "(I)V" } : Jvm.MethodName)) ∈ zG := zt_3 (List.mem_of_getElem? (i := 126) rfl) rfl
theorem q_263 : (Jvm.Cond.methodLink "YearBaskets$Laws" (101 : Nat) ({ cls := "YearBaskets$Fraction", name := "put", desc := "(JJ)V" } : Jvm.MethodName)) ∈ zG := zt_3 (List.mem_of_getElem? (i := 127) rfl) rfl
theorem q_264 : (Jvm.Cond.methodLinkNest "YearBaskets$Laws" (93 : Nat) ({ cls := "YearBaskets", name := "isNoYear", desc := "(I)Z" } : Jvm.MethodName) "YearBaskets") ∈ zNw := List.mem_of_getElem? (i := 23) rfl
theorem q_265 : (Jvm.Cond.instanceMethod ({ cls := "YearBaskets$Laws", name := "isBeyondRatios", desc := "(II)Z" } : Jvm.MethodName)) ∈ zG := zt_3 (List.mem_of_getElem? (i := 111) rfl) rfl
theorem q_266 : (Jvm.Cond.selects "YearBaskets$Laws" ({ cls := "YearBaskets$Laws", name := "isBeyondRatios", desc := "(II)Z" } : Jvm.MethodName) ({ cls := "YearBaskets$Laws", name := "isBeyondRatios", desc := "(II)Z" } : Jvm.MethodName)) ∈ zG := zG_s (List.mem_of_getElem? (i := 21) rfl) rfl
theorem q_267 : (Jvm.Cond.code ({ cls := "YearBaskets$Laws", name := "isBeyondRatios", desc := "(II)Z" } : Jvm.MethodName) prog_4_method_9_code (6 : Nat) (Option.some Jvm.ClassFile.FieldType.boolean)) ∈ zG := zt_3 (List.mem_of_getElem? (i := 112) rfl) rfl
theorem q_268 : (Jvm.Cond.methodLink "YearBaskets$Laws" (150 : Nat) ({ cls := "YearBaskets$Laws", name := "compareRatios", desc := "(IIII)I" } : Jvm.MethodName)) ∈ zG := zt_3 (List.mem_of_getElem? (i := 114) rfl) rfl
theorem q_269 : (Jvm.Cond.methodLink "YearBaskets$Laws" (128 : Nat) ({ cls := "YearBaskets$Fraction", name := "orderOf", desc := "(LYearBaskets$Fraction;LYearBaskets$Fraction;)I" } : Jvm.MethodName)) ∈ zG := zt_3 (List.mem_of_getElem? (i := 128) rfl) rfl
theorem q_270 : (Jvm.Cond.fieldLink "YearBaskets$Laws" (35 : Nat) "YearBaskets$Laws" "right" "LYearBaskets$Fraction;") ∈ zG := zt_1 (List.mem_of_getElem? (i := 153) rfl) rfl
theorem q_271 : (Jvm.Cond.methodLink "YearBaskets$Laws" (113 : Nat) ({ cls := "YearBaskets$Laws", name := "recall", desc := "(IILYearBaskets$Fraction;)V" } : Jvm.MethodName)) ∈ zG := zt_3 (List.mem_of_getElem? (i := 121) rfl) rfl
theorem q_272 : (Jvm.Cond.instanceMethod ({ cls := "YearBaskets$Laws", name := "changeBooks", desc := "(IIII)V" } : Jvm.MethodName)) ∈ zG := zt_3 (List.mem_of_getElem? (i := 132) rfl) rfl
theorem q_273 : (Jvm.Cond.selects "YearBaskets$Laws" ({ cls := "YearBaskets$Laws", name := "changeBooks", desc := "(IIII)V" } : Jvm.MethodName) ({ cls := "YearBaskets$Laws", name := "changeBooks", desc := "(IIII)V" } : Jvm.MethodName)) ∈ zG := zG_s (List.mem_of_getElem? (i := 24) rfl) rfl
theorem q_274 : (Jvm.Cond.code ({ cls := "YearBaskets$Laws", name := "changeBooks", desc := "(IIII)V" } : Jvm.MethodName) prog_4_method_8_code (5 : Nat) (Option.none : Option Jvm.ClassFile.FieldType)) ∈ zG := zt_3 (List.mem_of_getElem? (i := 133) rfl) rfl
theorem q_275 : (Jvm.Cond.methodLink "YearBaskets$Laws" (136 : Nat) ({ cls := "YearBaskets$Books", name := "copyYear", desc := "(II)V" } : Jvm.MethodName)) ∈ zG := zt_3 (List.mem_of_getElem? (i := 141) rfl) rfl
theorem q_276 : (Jvm.Cond.fieldLink "YearBaskets$Laws" (53 : Nat) "YearBaskets$Laws" "tried" "LYearBaskets$Books;") ∈ zG := zt_1 (List.mem_of_getElem? (i := 145) rfl) rfl
theorem q_277 : (Jvm.Cond.methodLink "YearBaskets$Laws" (146 : Nat) ({ cls := "YearBaskets$Books", name := "setPrice", desc := "(III)V" } : Jvm.MethodName)) ∈ zG := zt_3 (List.mem_of_getElem? (i := 155) rfl) rfl
theorem q_278 : (Jvm.Cond.methodLink "YearBaskets$Laws" (140 : Nat) ({ cls := "YearBaskets$Books", name := "doubleYear", desc := "(I)V" } : Jvm.MethodName)) ∈ zG := zt_3 (List.mem_of_getElem? (i := 146) rfl) rfl
theorem q_279 : (Jvm.Cond.methodLink "YearBaskets$Laws" (143 : Nat) ({ cls := "YearBaskets$Books", name := "doubleUnit", desc := "(II)V" } : Jvm.MethodName)) ∈ zG := zt_3 (List.mem_of_getElem? (i := 150) rfl) rfl
theorem q_280 : (Jvm.Cond.methodLink "YearBaskets$Laws" (132 : Nat) ({ cls := "YearBaskets$Books", name := "copyFrom", desc := "(LYearBaskets$Books;)V" } : Jvm.MethodName)) ∈ zG := zt_3 (List.mem_of_getElem? (i := 134) rfl) rfl
theorem q_281 : (Jvm.Cond.instanceMethod ({ cls := "YearBaskets$Laws", name := "isBroken", desc := "(IIII)Z" } : Jvm.MethodName)) ∈ zG := zt_3 (List.mem_of_getElem? (i := 107) rfl) rfl
theorem q_282 : (Jvm.Cond.selects "YearBaskets$Laws" ({ cls := "YearBaskets$Laws", name := "isBroken", desc := "(IIII)Z" } : Jvm.MethodName) ({ cls := "YearBaskets$Laws", name := "isBroken", desc := "(IIII)Z" } : Jvm.MethodName)) ∈ zG := zG_s (List.mem_of_getElem? (i := 20) rfl) rfl
theorem q_283 : (Jvm.Cond.code ({ cls := "YearBaskets$Laws", name := "isBroken", desc := "(IIII)Z" } : Jvm.MethodName) prog_4_method_7_code (6 : Nat) (Option.some Jvm.ClassFile.FieldType.boolean)) ∈ zG := zt_3 (List.mem_of_getElem? (i := 108) rfl) rfl
theorem q_284 : (Jvm.Cond.methodLink "YearBaskets$Laws" (125 : Nat) ({ cls := "YearBaskets$Fraction", name := "doubleIt", desc := "()V" } : Jvm.MethodName)) ∈ zG := zt_3 (List.mem_of_getElem? (i := 156) rfl) rfl
theorem q_285 : (Jvm.Cond.methodLink "YearBaskets$Laws" (117 : Nat) ({ cls := "YearBaskets$Fraction", name := "multiply", desc := "(LYearBaskets$Fraction;)V" } : Jvm.MethodName)) ∈ zG := zt_3 (List.mem_of_getElem? (i := 129) rfl) rfl
theorem q_286 : (Jvm.Cond.methodLink "YearBaskets$Laws" (121 : Nat) ({ cls := "YearBaskets$Laws", name := "changeBooks", desc := "(IIII)V" } : Jvm.MethodName)) ∈ zG := zt_3 (List.mem_of_getElem? (i := 130) rfl) rfl
theorem q_287 : (Jvm.Cond.methodLink "YearBaskets$Laws" (105 : Nat) ({ cls := "YearBaskets$Laws", name := "isBeyondRatios", desc := "(II)Z" } : Jvm.MethodName)) ∈ zG := zt_3 (List.mem_of_getElem? (i := 109) rfl) rfl
theorem q_288 : (Jvm.Cond.instanceMethod ({ cls := "YearBaskets$Laws", name := "breachOf", desc := "(ILYearBaskets$Plan;II)I" } : Jvm.MethodName)) ∈ zG := zt_3 (List.mem_of_getElem? (i := 96) rfl) rfl
theorem q_289 : (Jvm.Cond.selects "YearBaskets$Laws" ({ cls := "YearBaskets$Laws", name := "breachOf", desc := "(ILYearBaskets$Plan;II)I" } : Jvm.MethodName) ({ cls := "YearBaskets$Laws", name := "breachOf", desc := "(ILYearBaskets$Plan;II)I" } : Jvm.MethodName)) ∈ zG := zt_3 (List.mem_of_getElem? (i := 97) rfl) rfl
theorem q_290 : (Jvm.Cond.code ({ cls := "YearBaskets$Laws", name := "breachOf", desc := "(ILYearBaskets$Plan;II)I" } : Jvm.MethodName) prog_4_method_4_code (13 : Nat) (Option.some Jvm.ClassFile.FieldType.int)) ∈ zG := zt_3 (List.mem_of_getElem? (i := 98) rfl) rfl
theorem q_291 : (Jvm.Cond.methodLink "YearBaskets$Laws" (69 : Nat) ({ cls := "YearBaskets$Laws", name := "isBroken", desc := "(IIII)Z" } : Jvm.MethodName)) ∈ zG := zt_3 (List.mem_of_getElem? (i := 105) rfl) rfl
theorem q_292 : (Jvm.Cond.methodLink "YearBaskets$Laws" (63 : Nat) ({ cls := "YearBaskets$Books", name := "goodsThere", desc := "()I" } : Jvm.MethodName)) ∈ zG := zt_3 (List.mem_of_getElem? (i := 104) rfl) rfl
theorem q_293 : (Jvm.Cond.methodLink "YearBaskets$Laws" (60 : Nat) ({ cls := "YearBaskets$Laws", name := "tellAllYears", desc := "()V" } : Jvm.MethodName)) ∈ zG := zt_3 (List.mem_of_getElem? (i := 99) rfl) rfl
theorem q_294 : (Jvm.Cond.instanceMethod ({ cls := "YearBaskets$Laws", name := "setKept", desc := "(II)V" } : Jvm.MethodName)) ∈ zG := zt_3 (List.mem_of_getElem? (i := 173) rfl) rfl
theorem q_295 : (Jvm.Cond.selects "YearBaskets$Laws" ({ cls := "YearBaskets$Laws", name := "setKept", desc := "(II)V" } : Jvm.MethodName) ({ cls := "YearBaskets$Laws", name := "setKept", desc := "(II)V" } : Jvm.MethodName)) ∈ zG := zt_3 (List.mem_of_getElem? (i := 174) rfl) rfl
theorem q_296 : (Jvm.Cond.code ({ cls := "YearBaskets$Laws", name := "setKept", desc := "(II)V" } : Jvm.MethodName) prog_4_method_11_code (3 : Nat) (Option.none : Option Jvm.ClassFile.FieldType)) ∈ zG := zt_3 (List.mem_of_getElem? (i := 175) rfl) rfl
theorem q_297 : (Jvm.Cond.fieldLink "YearBaskets$Laws" (25 : Nat) "YearBaskets$Laws" "kept" "[I") ∈ zG := zt_1 (List.mem_of_getElem? (i := 151) rfl) rfl
theorem q_298 : (Jvm.Cond.instanceMethod ({ cls := "YearBaskets$Laws", name := "isKeptByOne", desc := "(II)Z" } : Jvm.MethodName)) ∈ zG := zt_3 (List.mem_of_getElem? (i := 183) rfl) rfl
theorem q_299 : (Jvm.Cond.selects "YearBaskets$Laws" ({ cls := "YearBaskets$Laws", name := "isKeptByOne", desc := "(II)Z" } : Jvm.MethodName) ({ cls := "YearBaskets$Laws", name := "isKeptByOne", desc := "(II)Z" } : Jvm.MethodName)) ∈ zG := zG_s (List.mem_of_getElem? (i := 25) rfl) rfl
theorem q_300 : (Jvm.Cond.code ({ cls := "YearBaskets$Laws", name := "isKeptByOne", desc := "(II)Z" } : Jvm.MethodName) prog_4_method_13_code (4 : Nat) (Option.some Jvm.ClassFile.FieldType.boolean)) ∈ zG := zt_3 (List.mem_of_getElem? (i := 184) rfl) rfl
theorem q_301 : (Jvm.Cond.instanceMethod ({ cls := "YearBaskets$Laws", name := "leastKeptByNone", desc := "(I)I" } : Jvm.MethodName)) ∈ zG := zt_3 (List.mem_of_getElem? (i := 177) rfl) rfl
theorem q_302 : (Jvm.Cond.selects "YearBaskets$Laws" ({ cls := "YearBaskets$Laws", name := "leastKeptByNone", desc := "(I)I" } : Jvm.MethodName) ({ cls := "YearBaskets$Laws", name := "leastKeptByNone", desc := "(I)I" } : Jvm.MethodName)) ∈ zG := zt_3 (List.mem_of_getElem? (i := 178) rfl) rfl
theorem q_303 : (Jvm.Cond.code ({ cls := "YearBaskets$Laws", name := "leastKeptByNone", desc := "(I)I" } : Jvm.MethodName) prog_4_method_12_code (4 : Nat) (Option.some Jvm.ClassFile.FieldType.int)) ∈ zG := zt_3 (List.mem_of_getElem? (i := 179) rfl) rfl
theorem q_304 : (Jvm.Cond.methodLink "YearBaskets$Laws" (163 : Nat) ({ cls := "YearBaskets$Laws", name := "isKeptByOne", desc := "(II)Z" } : Jvm.MethodName)) ∈ zG := zt_3 (List.mem_of_getElem? (i := 181) rfl) rfl
theorem q_305 : (Jvm.Cond.methodLink "YearBaskets$Laws" (159 : Nat) ({ cls := "java/lang/Integer", name := "bitCount", desc := "(I)I" } : Jvm.MethodName)) ∈ zG := zt_3 (List.mem_of_getElem? (i := 180) rfl) rfl
abbrev b_L_forget : ByteArray := prog_4_method_2_code
abbrev y_L_forget : MethodName := ⟨"YearBaskets$Laws", "forget", "()V"⟩
abbrev b_L_partOfBreach : ByteArray := prog_4_method_3_code
abbrev y_L_partOfBreach : MethodName := ⟨"YearBaskets$Laws", "partOfBreach", "(II)I"⟩
abbrev b_L_tellAllYears : ByteArray := prog_4_method_5_code
abbrev y_L_tellAllYears : MethodName := ⟨"YearBaskets$Laws", "tellAllYears", "()V"⟩
abbrev b_L_compareRatios : ByteArray := prog_4_method_10_code
abbrev y_L_compareRatios : MethodName := ⟨"YearBaskets$Laws", "compareRatios", "(IIII)I"⟩
abbrev b_L_recall : ByteArray := prog_4_method_6_code
abbrev y_L_recall : MethodName := ⟨"YearBaskets$Laws", "recall", "(IILYearBaskets$Fraction;)V"⟩
abbrev b_L_isBeyondRatios : ByteArray := prog_4_method_9_code
abbrev y_L_isBeyondRatios : MethodName := ⟨"YearBaskets$Laws", "isBeyondRatios", "(II)Z"⟩
abbrev b_L_changeBooks : ByteArray := prog_4_method_8_code
abbrev y_L_changeBooks : MethodName := ⟨"YearBaskets$Laws", "changeBooks", "(IIII)V"⟩
abbrev b_L_isBroken : ByteArray := prog_4_method_7_code
abbrev y_L_isBroken : MethodName := ⟨"YearBaskets$Laws", "isBroken", "(IIII)Z"⟩
abbrev b_L_breachOf : ByteArray := prog_4_method_4_code
abbrev y_L_breachOf : MethodName := ⟨"YearBaskets$Laws", "breachOf", "(ILYearBaskets$Plan;II)I"⟩
abbrev b_L_setKept : ByteArray := prog_4_method_11_code
abbrev y_L_setKept : MethodName := ⟨"YearBaskets$Laws", "setKept", "(II)V"⟩
abbrev b_L_isKeptByOne : ByteArray := prog_4_method_13_code
abbrev y_L_isKeptByOne : MethodName := ⟨"YearBaskets$Laws", "isKeptByOne", "(II)Z"⟩
abbrev b_L_leastKeptByNone : ByteArray := prog_4_method_12_code
abbrev y_L_leastKeptByNone : MethodName := ⟨"YearBaskets$Laws", "leastKeptByNone", "(I)I"⟩
theorem w_L_forget : Cond.code y_L_forget b_L_forget 2 (none) ∈ zG ∧ (Cond.instanceMethod y_L_forget ∈ zG ∧ Cond.selects y_L_forget.cls y_L_forget y_L_forget ∈ zG) ∧ Cond.initialized y_L_forget.cls ∈ zG ∧ zY y_L_forget 0 := ⟨q_232, ⟨q_230, q_231⟩, q_233, by decide +kernel⟩
theorem w_L_partOfBreach : Cond.code y_L_partOfBreach b_L_partOfBreach 3 (some .int) ∈ zG ∧ Cond.static y_L_partOfBreach ∈ zG ∧ Cond.initialized y_L_partOfBreach.cls ∈ zG ∧ zY y_L_partOfBreach 2 := ⟨q_237, q_236, q_233, by decide +kernel⟩
theorem w_L_tellAllYears : Cond.code y_L_tellAllYears b_L_tellAllYears 2 (none) ∈ zG ∧ (Cond.instanceMethod y_L_tellAllYears ∈ zG ∧ Cond.selects y_L_tellAllYears.cls y_L_tellAllYears y_L_tellAllYears ∈ zG) ∧ Cond.initialized y_L_tellAllYears.cls ∈ zG ∧ zY y_L_tellAllYears 0 := ⟨q_240, ⟨q_238, q_239⟩, q_233, by decide +kernel⟩
theorem w_L_compareRatios : Cond.code y_L_compareRatios b_L_compareRatios 5 (some .int) ∈ zG ∧ (Cond.instanceMethod y_L_compareRatios ∈ zG ∧ Cond.selects y_L_compareRatios.cls y_L_compareRatios y_L_compareRatios ∈ zG) ∧ Cond.initialized y_L_compareRatios.cls ∈ zG ∧ zY y_L_compareRatios 4 := ⟨q_256, ⟨q_254, q_255⟩, q_233, by decide +kernel⟩
theorem w_L_recall : Cond.code y_L_recall b_L_recall 5 (none) ∈ zG ∧ (Cond.instanceMethod y_L_recall ∈ zG ∧ Cond.selects y_L_recall.cls y_L_recall y_L_recall ∈ zG) ∧ Cond.initialized y_L_recall.cls ∈ zG ∧ zY y_L_recall 3 := ⟨q_261, ⟨q_259, q_260⟩, q_233, by decide +kernel⟩
theorem w_L_isBeyondRatios : Cond.code y_L_isBeyondRatios b_L_isBeyondRatios 6 (some .boolean) ∈ zG ∧ (Cond.instanceMethod y_L_isBeyondRatios ∈ zG ∧ Cond.selects y_L_isBeyondRatios.cls y_L_isBeyondRatios y_L_isBeyondRatios ∈ zG) ∧ Cond.initialized y_L_isBeyondRatios.cls ∈ zG ∧ zY y_L_isBeyondRatios 2 := ⟨q_267, ⟨q_265, q_266⟩, q_233, by decide +kernel⟩
theorem w_L_changeBooks : Cond.code y_L_changeBooks b_L_changeBooks 5 (none) ∈ zG ∧ (Cond.instanceMethod y_L_changeBooks ∈ zG ∧ Cond.selects y_L_changeBooks.cls y_L_changeBooks y_L_changeBooks ∈ zG) ∧ Cond.initialized y_L_changeBooks.cls ∈ zG ∧ zY y_L_changeBooks 4 := ⟨q_274, ⟨q_272, q_273⟩, q_233, by decide +kernel⟩
theorem w_L_isBroken : Cond.code y_L_isBroken b_L_isBroken 6 (some .boolean) ∈ zG ∧ (Cond.instanceMethod y_L_isBroken ∈ zG ∧ Cond.selects y_L_isBroken.cls y_L_isBroken y_L_isBroken ∈ zG) ∧ Cond.initialized y_L_isBroken.cls ∈ zG ∧ zY y_L_isBroken 4 := ⟨q_283, ⟨q_281, q_282⟩, q_233, by decide +kernel⟩
theorem w_L_breachOf : Cond.code y_L_breachOf b_L_breachOf 13 (some .int) ∈ zG ∧ (Cond.instanceMethod y_L_breachOf ∈ zG ∧ Cond.selects y_L_breachOf.cls y_L_breachOf y_L_breachOf ∈ zG) ∧ Cond.initialized y_L_breachOf.cls ∈ zG ∧ zY y_L_breachOf 4 := ⟨q_290, ⟨q_288, q_289⟩, q_233, by decide +kernel⟩
theorem w_L_setKept : Cond.code y_L_setKept b_L_setKept 3 (none) ∈ zG ∧ (Cond.instanceMethod y_L_setKept ∈ zG ∧ Cond.selects y_L_setKept.cls y_L_setKept y_L_setKept ∈ zG) ∧ Cond.initialized y_L_setKept.cls ∈ zG ∧ zY y_L_setKept 2 := ⟨q_296, ⟨q_294, q_295⟩, q_233, by decide +kernel⟩
theorem w_L_isKeptByOne : Cond.code y_L_isKeptByOne b_L_isKeptByOne 4 (some .boolean) ∈ zG ∧ (Cond.instanceMethod y_L_isKeptByOne ∈ zG ∧ Cond.selects y_L_isKeptByOne.cls y_L_isKeptByOne y_L_isKeptByOne ∈ zG) ∧ Cond.initialized y_L_isKeptByOne.cls ∈ zG ∧ zY y_L_isKeptByOne 2 := ⟨q_300, ⟨q_298, q_299⟩, q_233, by decide +kernel⟩
theorem w_L_leastKeptByNone : Cond.code y_L_leastKeptByNone b_L_leastKeptByNone 4 (some .int) ∈ zG ∧ (Cond.instanceMethod y_L_leastKeptByNone ∈ zG ∧ Cond.selects y_L_leastKeptByNone.cls y_L_leastKeptByNone y_L_leastKeptByNone ∈ zG) ∧ Cond.initialized y_L_leastKeptByNone.cls ∈ zG ∧ zY y_L_leastKeptByNone 1 := ⟨q_303, ⟨q_301, q_302⟩, q_233, by decide +kernel⟩
theorem d_L_forget_0 : decode b_L_forget 0 = .ok (.iconst 0, 1) := by decide +kernel
theorem d_L_forget_1 : decode b_L_forget 1 = .ok (.istore_n 1, 1) := by decide +kernel
theorem d_L_forget_2 : decode b_L_forget 2 = .ok (.iload_n 1, 1) := by decide +kernel
theorem d_L_forget_3 : decode b_L_forget 3 = .ok (.aload_n 0, 1) := by decide +kernel
theorem d_L_forget_4 : decode b_L_forget 4 = .ok (.getfield 22, 3) := by decide +kernel
theorem d_L_forget_7 : decode b_L_forget 7 = .ok (.arraylength, 1) := by decide +kernel
theorem d_L_forget_8 : decode b_L_forget 8 = .ok (.if_icmp .ge 16, 3) := by decide +kernel
theorem d_L_forget_11 : decode b_L_forget 11 = .ok (.aload_n 0, 1) := by decide +kernel
theorem d_L_forget_12 : decode b_L_forget 12 = .ok (.getfield 22, 3) := by decide +kernel
theorem d_L_forget_15 : decode b_L_forget 15 = .ok (.iload_n 1, 1) := by decide +kernel
theorem d_L_forget_16 : decode b_L_forget 16 = .ok (.iconst 0, 1) := by decide +kernel
theorem d_L_forget_17 : decode b_L_forget 17 = .ok (.iastore, 1) := by decide +kernel
theorem d_L_forget_18 : decode b_L_forget 18 = .ok (.iinc 1 1, 3) := by decide +kernel
theorem d_L_forget_21 : decode b_L_forget 21 = .ok (.goto (-19), 3) := by decide +kernel
theorem d_L_forget_24 : decode b_L_forget 24 = .ok (.aload_n 0, 1) := by decide +kernel
theorem d_L_forget_25 : decode b_L_forget 25 = .ok (.iconst (-1), 1) := by decide +kernel
theorem d_L_forget_26 : decode b_L_forget 26 = .ok (.putfield 46, 3) := by decide +kernel
theorem d_L_forget_29 : decode b_L_forget 29 = .ok (.return_, 1) := by decide +kernel
theorem d_L_partOfBreach_0 : decode b_L_partOfBreach 0 = .ok (.iload_n 0, 1) := by decide +kernel
theorem d_L_partOfBreach_1 : decode b_L_partOfBreach 1 = .ok (.iconst 2, 1) := by decide +kernel
theorem d_L_partOfBreach_2 : decode b_L_partOfBreach 2 = .ok (.isub, 1) := by decide +kernel
theorem d_L_partOfBreach_3 : decode b_L_partOfBreach 3 = .ok (.istore_n 2, 1) := by decide +kernel
theorem d_L_partOfBreach_4 : decode b_L_partOfBreach 4 = .ok (.iload_n 1, 1) := by decide +kernel
theorem d_L_partOfBreach_5 : decode b_L_partOfBreach 5 = .ok (.ifCond .ne 8, 3) := by decide +kernel
theorem d_L_partOfBreach_8 : decode b_L_partOfBreach 8 = .ok (.iload_n 2, 1) := by decide +kernel
theorem d_L_partOfBreach_9 : decode b_L_partOfBreach 9 = .ok (.bipush 72, 2) := by decide +kernel
theorem d_L_partOfBreach_11 : decode b_L_partOfBreach 11 = .ok (.idiv, 1) := by decide +kernel
theorem d_L_partOfBreach_12 : decode b_L_partOfBreach 12 = .ok (.ireturn, 1) := by decide +kernel
theorem d_L_partOfBreach_13 : decode b_L_partOfBreach 13 = .ok (.iload_n 1, 1) := by decide +kernel
theorem d_L_partOfBreach_14 : decode b_L_partOfBreach 14 = .ok (.iconst 1, 1) := by decide +kernel
theorem d_L_partOfBreach_15 : decode b_L_partOfBreach 15 = .ok (.if_icmp .ne 13, 3) := by decide +kernel
theorem d_L_partOfBreach_18 : decode b_L_partOfBreach 18 = .ok (.iload_n 2, 1) := by decide +kernel
theorem d_L_partOfBreach_19 : decode b_L_partOfBreach 19 = .ok (.bipush 9, 2) := by decide +kernel
theorem d_L_partOfBreach_21 : decode b_L_partOfBreach 21 = .ok (.idiv, 1) := by decide +kernel
theorem d_L_partOfBreach_22 : decode b_L_partOfBreach 22 = .ok (.bipush 8, 2) := by decide +kernel
theorem d_L_partOfBreach_24 : decode b_L_partOfBreach 24 = .ok (.irem, 1) := by decide +kernel
theorem d_L_partOfBreach_25 : decode b_L_partOfBreach 25 = .ok (.goto 9, 3) := by decide +kernel
theorem d_L_partOfBreach_28 : decode b_L_partOfBreach 28 = .ok (.iload_n 2, 1) := by decide +kernel
theorem d_L_partOfBreach_29 : decode b_L_partOfBreach 29 = .ok (.bipush 9, 2) := by decide +kernel
theorem d_L_partOfBreach_31 : decode b_L_partOfBreach 31 = .ok (.irem, 1) := by decide +kernel
theorem d_L_partOfBreach_32 : decode b_L_partOfBreach 32 = .ok (.iconst 1, 1) := by decide +kernel
theorem d_L_partOfBreach_33 : decode b_L_partOfBreach 33 = .ok (.isub, 1) := by decide +kernel
theorem d_L_partOfBreach_34 : decode b_L_partOfBreach 34 = .ok (.ireturn, 1) := by decide +kernel
theorem d_L_tellAllYears_0 : decode b_L_tellAllYears 0 = .ok (.iconst 0, 1) := by decide +kernel
theorem d_L_tellAllYears_1 : decode b_L_tellAllYears 1 = .ok (.istore_n 1, 1) := by decide +kernel
theorem d_L_tellAllYears_2 : decode b_L_tellAllYears 2 = .ok (.iload_n 1, 1) := by decide +kernel
theorem d_L_tellAllYears_3 : decode b_L_tellAllYears 3 = .ok (.aload_n 0, 1) := by decide +kernel
theorem d_L_tellAllYears_4 : decode b_L_tellAllYears 4 = .ok (.getfield 18, 3) := by decide +kernel
theorem d_L_tellAllYears_7 : decode b_L_tellAllYears 7 = .ok (.arraylength, 1) := by decide +kernel
theorem d_L_tellAllYears_8 : decode b_L_tellAllYears 8 = .ok (.if_icmp .ge 125, 3) := by decide +kernel
theorem d_L_tellAllYears_11 : decode b_L_tellAllYears 11 = .ok (.iload_n 1, 1) := by decide +kernel
theorem d_L_tellAllYears_12 : decode b_L_tellAllYears 12 = .ok (.aload_n 0, 1) := by decide +kernel
theorem d_L_tellAllYears_13 : decode b_L_tellAllYears 13 = .ok (.getfield 9, 3) := by decide +kernel
theorem d_L_tellAllYears_16 : decode b_L_tellAllYears 16 = .ok (.arraylength, 1) := by decide +kernel
theorem d_L_tellAllYears_17 : decode b_L_tellAllYears 17 = .ok (.if_icmp .ge 116, 3) := by decide +kernel
theorem d_L_tellAllYears_20 : decode b_L_tellAllYears 20 = .ok (.iload_n 1, 1) := by decide +kernel
theorem d_L_tellAllYears_21 : decode b_L_tellAllYears 21 = .ok (.aload_n 0, 1) := by decide +kernel
theorem d_L_tellAllYears_22 : decode b_L_tellAllYears 22 = .ok (.getfield 15, 3) := by decide +kernel
theorem d_L_tellAllYears_25 : decode b_L_tellAllYears 25 = .ok (.arraylength, 1) := by decide +kernel
theorem d_L_tellAllYears_26 : decode b_L_tellAllYears 26 = .ok (.if_icmp .ge 107, 3) := by decide +kernel
theorem d_L_tellAllYears_29 : decode b_L_tellAllYears 29 = .ok (.aload_n 0, 1) := by decide +kernel
theorem d_L_tellAllYears_30 : decode b_L_tellAllYears 30 = .ok (.getfield 56, 3) := by decide +kernel
theorem d_L_tellAllYears_33 : decode b_L_tellAllYears 33 = .ok (.aload_n 0, 1) := by decide +kernel
theorem d_L_tellAllYears_34 : decode b_L_tellAllYears 34 = .ok (.getfield 38, 3) := by decide +kernel
theorem d_L_tellAllYears_37 : decode b_L_tellAllYears 37 = .ok (.aload_n 0, 1) := by decide +kernel
theorem d_L_tellAllYears_38 : decode b_L_tellAllYears 38 = .ok (.getfield 49, 3) := by decide +kernel
theorem d_L_tellAllYears_41 : decode b_L_tellAllYears 41 = .ok (.aload_n 0, 1) := by decide +kernel
theorem d_L_tellAllYears_42 : decode b_L_tellAllYears 42 = .ok (.getfield 42, 3) := by decide +kernel
theorem d_L_tellAllYears_45 : decode b_L_tellAllYears 45 = .ok (.iload_n 1, 1) := by decide +kernel
theorem d_L_tellAllYears_46 : decode b_L_tellAllYears 46 = .ok (.bipush 8, 2) := by decide +kernel
theorem d_L_tellAllYears_48 : decode b_L_tellAllYears 48 = .ok (.idiv, 1) := by decide +kernel
theorem d_L_tellAllYears_49 : decode b_L_tellAllYears 49 = .ok (.iload_n 1, 1) := by decide +kernel
theorem d_L_tellAllYears_50 : decode b_L_tellAllYears 50 = .ok (.bipush 8, 2) := by decide +kernel
theorem d_L_tellAllYears_52 : decode b_L_tellAllYears 52 = .ok (.irem, 1) := by decide +kernel
theorem d_L_tellAllYears_53 : decode b_L_tellAllYears 53 = .ok (.aload_n 0, 1) := by decide +kernel
theorem d_L_tellAllYears_54 : decode b_L_tellAllYears 54 = .ok (.getfield 31, 3) := by decide +kernel
theorem d_L_tellAllYears_57 : decode b_L_tellAllYears 57 = .ok (.invokevirtual 73, 3) := by decide +kernel
theorem d_L_tellAllYears_60 : decode b_L_tellAllYears 60 = .ok (.aload_n 0, 1) := by decide +kernel
theorem d_L_tellAllYears_61 : decode b_L_tellAllYears 61 = .ok (.getfield 9, 3) := by decide +kernel
theorem d_L_tellAllYears_64 : decode b_L_tellAllYears 64 = .ok (.iload_n 1, 1) := by decide +kernel
theorem d_L_tellAllYears_65 : decode b_L_tellAllYears 65 = .ok (.aload_n 0, 1) := by decide +kernel
theorem d_L_tellAllYears_66 : decode b_L_tellAllYears 66 = .ok (.getfield 31, 3) := by decide +kernel
theorem d_L_tellAllYears_69 : decode b_L_tellAllYears 69 = .ok (.getfield 79, 3) := by decide +kernel
theorem d_L_tellAllYears_72 : decode b_L_tellAllYears 72 = .ok (.lastore, 1) := by decide +kernel
theorem d_L_tellAllYears_73 : decode b_L_tellAllYears 73 = .ok (.aload_n 0, 1) := by decide +kernel
theorem d_L_tellAllYears_74 : decode b_L_tellAllYears 74 = .ok (.getfield 15, 3) := by decide +kernel
theorem d_L_tellAllYears_77 : decode b_L_tellAllYears 77 = .ok (.iload_n 1, 1) := by decide +kernel
theorem d_L_tellAllYears_78 : decode b_L_tellAllYears 78 = .ok (.aload_n 0, 1) := by decide +kernel
theorem d_L_tellAllYears_79 : decode b_L_tellAllYears 79 = .ok (.getfield 31, 3) := by decide +kernel
theorem d_L_tellAllYears_82 : decode b_L_tellAllYears 82 = .ok (.getfield 83, 3) := by decide +kernel
theorem d_L_tellAllYears_85 : decode b_L_tellAllYears 85 = .ok (.lastore, 1) := by decide +kernel
theorem d_L_tellAllYears_86 : decode b_L_tellAllYears 86 = .ok (.aload_n 0, 1) := by decide +kernel
theorem d_L_tellAllYears_87 : decode b_L_tellAllYears 87 = .ok (.getfield 18, 3) := by decide +kernel
theorem d_L_tellAllYears_90 : decode b_L_tellAllYears 90 = .ok (.iload_n 1, 1) := by decide +kernel
theorem d_L_tellAllYears_91 : decode b_L_tellAllYears 91 = .ok (.aload_n 0, 1) := by decide +kernel
theorem d_L_tellAllYears_92 : decode b_L_tellAllYears 92 = .ok (.getfield 31, 3) := by decide +kernel
theorem d_L_tellAllYears_95 : decode b_L_tellAllYears 95 = .ok (.getfield 86, 3) := by decide +kernel
theorem d_L_tellAllYears_98 : decode b_L_tellAllYears 98 = .ok (.ifCond .eq 13, 3) := by decide +kernel
theorem d_L_tellAllYears_101 : decode b_L_tellAllYears 101 = .ok (.aload_n 0, 1) := by decide +kernel
theorem d_L_tellAllYears_102 : decode b_L_tellAllYears 102 = .ok (.getfield 31, 3) := by decide +kernel
theorem d_L_tellAllYears_105 : decode b_L_tellAllYears 105 = .ok (.getfield 86, 3) := by decide +kernel
theorem d_L_tellAllYears_108 : decode b_L_tellAllYears 108 = .ok (.goto 18, 3) := by decide +kernel
theorem d_L_tellAllYears_111 : decode b_L_tellAllYears 111 = .ok (.aload_n 0, 1) := by decide +kernel
theorem d_L_tellAllYears_112 : decode b_L_tellAllYears 112 = .ok (.getfield 31, 3) := by decide +kernel
theorem d_L_tellAllYears_115 : decode b_L_tellAllYears 115 = .ok (.getfield 89, 3) := by decide +kernel
theorem d_L_tellAllYears_118 : decode b_L_tellAllYears 118 = .ok (.ifCond .eq 7, 3) := by decide +kernel
theorem d_L_tellAllYears_121 : decode b_L_tellAllYears 121 = .ok (.iconst 1, 1) := by decide +kernel
theorem d_L_tellAllYears_122 : decode b_L_tellAllYears 122 = .ok (.goto 4, 3) := by decide +kernel
theorem d_L_tellAllYears_125 : decode b_L_tellAllYears 125 = .ok (.iconst 0, 1) := by decide +kernel
theorem d_L_tellAllYears_126 : decode b_L_tellAllYears 126 = .ok (.iastore, 1) := by decide +kernel
theorem d_L_tellAllYears_127 : decode b_L_tellAllYears 127 = .ok (.iinc 1 1, 3) := by decide +kernel
theorem d_L_tellAllYears_130 : decode b_L_tellAllYears 130 = .ok (.goto (-128), 3) := by decide +kernel
theorem d_L_tellAllYears_133 : decode b_L_tellAllYears 133 = .ok (.return_, 1) := by decide +kernel
theorem d_L_compareRatios_0 : decode b_L_compareRatios 0 = .ok (.aload_n 0, 1) := by decide +kernel
theorem d_L_compareRatios_1 : decode b_L_compareRatios 1 = .ok (.getfield 49, 3) := by decide +kernel
theorem d_L_compareRatios_4 : decode b_L_compareRatios 4 = .ok (.iload_n 2, 1) := by decide +kernel
theorem d_L_compareRatios_5 : decode b_L_compareRatios 5 = .ok (.iload_n 3, 1) := by decide +kernel
theorem d_L_compareRatios_6 : decode b_L_compareRatios 6 = .ok (.invokevirtual 109, 3) := by decide +kernel
theorem d_L_compareRatios_9 : decode b_L_compareRatios 9 = .ok (.aload_n 0, 1) := by decide +kernel
theorem d_L_compareRatios_10 : decode b_L_compareRatios 10 = .ok (.getfield 49, 3) := by decide +kernel
theorem d_L_compareRatios_13 : decode b_L_compareRatios 13 = .ok (.iload_n 1, 1) := by decide +kernel
theorem d_L_compareRatios_14 : decode b_L_compareRatios 14 = .ok (.iload 4, 2) := by decide +kernel
theorem d_L_compareRatios_16 : decode b_L_compareRatios 16 = .ok (.invokevirtual 109, 3) := by decide +kernel
theorem d_L_compareRatios_19 : decode b_L_compareRatios 19 = .ok (.imul, 1) := by decide +kernel
theorem d_L_compareRatios_20 : decode b_L_compareRatios 20 = .ok (.aload_n 0, 1) := by decide +kernel
theorem d_L_compareRatios_21 : decode b_L_compareRatios 21 = .ok (.getfield 49, 3) := by decide +kernel
theorem d_L_compareRatios_24 : decode b_L_compareRatios 24 = .ok (.iload_n 2, 1) := by decide +kernel
theorem d_L_compareRatios_25 : decode b_L_compareRatios 25 = .ok (.iload 4, 2) := by decide +kernel
theorem d_L_compareRatios_27 : decode b_L_compareRatios 27 = .ok (.invokevirtual 109, 3) := by decide +kernel
theorem d_L_compareRatios_30 : decode b_L_compareRatios 30 = .ok (.aload_n 0, 1) := by decide +kernel
theorem d_L_compareRatios_31 : decode b_L_compareRatios 31 = .ok (.getfield 49, 3) := by decide +kernel
theorem d_L_compareRatios_34 : decode b_L_compareRatios 34 = .ok (.iload_n 1, 1) := by decide +kernel
theorem d_L_compareRatios_35 : decode b_L_compareRatios 35 = .ok (.iload_n 3, 1) := by decide +kernel
theorem d_L_compareRatios_36 : decode b_L_compareRatios 36 = .ok (.invokevirtual 109, 3) := by decide +kernel
theorem d_L_compareRatios_39 : decode b_L_compareRatios 39 = .ok (.imul, 1) := by decide +kernel
theorem d_L_compareRatios_40 : decode b_L_compareRatios 40 = .ok (.invokestatic 154, 3) := by decide +kernel
theorem d_L_compareRatios_43 : decode b_L_compareRatios 43 = .ok (.ireturn, 1) := by decide +kernel
theorem d_L_recall_0 : decode b_L_recall 0 = .ok (.iload_n 1, 1) := by decide +kernel
theorem d_L_recall_1 : decode b_L_recall 1 = .ok (.bipush 8, 2) := by decide +kernel
theorem d_L_recall_3 : decode b_L_recall 3 = .ok (.imul, 1) := by decide +kernel
theorem d_L_recall_4 : decode b_L_recall 4 = .ok (.iload_n 2, 1) := by decide +kernel
theorem d_L_recall_5 : decode b_L_recall 5 = .ok (.iadd, 1) := by decide +kernel
theorem d_L_recall_6 : decode b_L_recall 6 = .ok (.istore 4, 2) := by decide +kernel
theorem d_L_recall_8 : decode b_L_recall 8 = .ok (.iload_n 1, 1) := by decide +kernel
theorem d_L_recall_9 : decode b_L_recall 9 = .ok (.invokestatic 93, 3) := by decide +kernel
theorem d_L_recall_12 : decode b_L_recall 12 = .ok (.ifCond .ne 40, 3) := by decide +kernel
theorem d_L_recall_15 : decode b_L_recall 15 = .ok (.iload_n 2, 1) := by decide +kernel
theorem d_L_recall_16 : decode b_L_recall 16 = .ok (.invokestatic 93, 3) := by decide +kernel
theorem d_L_recall_19 : decode b_L_recall 19 = .ok (.ifCond .ne 33, 3) := by decide +kernel
theorem d_L_recall_22 : decode b_L_recall 22 = .ok (.iload 4, 2) := by decide +kernel
theorem d_L_recall_24 : decode b_L_recall 24 = .ok (.aload_n 0, 1) := by decide +kernel
theorem d_L_recall_25 : decode b_L_recall 25 = .ok (.getfield 18, 3) := by decide +kernel
theorem d_L_recall_28 : decode b_L_recall 28 = .ok (.arraylength, 1) := by decide +kernel
theorem d_L_recall_29 : decode b_L_recall 29 = .ok (.if_icmp .ge 23, 3) := by decide +kernel
theorem d_L_recall_32 : decode b_L_recall 32 = .ok (.iload 4, 2) := by decide +kernel
theorem d_L_recall_34 : decode b_L_recall 34 = .ok (.aload_n 0, 1) := by decide +kernel
theorem d_L_recall_35 : decode b_L_recall 35 = .ok (.getfield 9, 3) := by decide +kernel
theorem d_L_recall_38 : decode b_L_recall 38 = .ok (.arraylength, 1) := by decide +kernel
theorem d_L_recall_39 : decode b_L_recall 39 = .ok (.if_icmp .ge 13, 3) := by decide +kernel
theorem d_L_recall_42 : decode b_L_recall 42 = .ok (.iload 4, 2) := by decide +kernel
theorem d_L_recall_44 : decode b_L_recall 44 = .ok (.aload_n 0, 1) := by decide +kernel
theorem d_L_recall_45 : decode b_L_recall 45 = .ok (.getfield 15, 3) := by decide +kernel
theorem d_L_recall_48 : decode b_L_recall 48 = .ok (.arraylength, 1) := by decide +kernel
theorem d_L_recall_49 : decode b_L_recall 49 = .ok (.if_icmp .lt 11, 3) := by decide +kernel
theorem d_L_recall_52 : decode b_L_recall 52 = .ok (.aload_n 3, 1) := by decide +kernel
theorem d_L_recall_53 : decode b_L_recall 53 = .ok (.sipush (-1003), 3) := by decide +kernel
theorem d_L_recall_56 : decode b_L_recall 56 = .ok (.invokevirtual 97, 3) := by decide +kernel
theorem d_L_recall_59 : decode b_L_recall 59 = .ok (.return_, 1) := by decide +kernel
theorem d_L_recall_60 : decode b_L_recall 60 = .ok (.aload_n 0, 1) := by decide +kernel
theorem d_L_recall_61 : decode b_L_recall 61 = .ok (.getfield 18, 3) := by decide +kernel
theorem d_L_recall_64 : decode b_L_recall 64 = .ok (.iload 4, 2) := by decide +kernel
theorem d_L_recall_66 : decode b_L_recall 66 = .ok (.iaload, 1) := by decide +kernel
theorem d_L_recall_67 : decode b_L_recall 67 = .ok (.ifCond .ge 15, 3) := by decide +kernel
theorem d_L_recall_70 : decode b_L_recall 70 = .ok (.aload_n 3, 1) := by decide +kernel
theorem d_L_recall_71 : decode b_L_recall 71 = .ok (.aload_n 0, 1) := by decide +kernel
theorem d_L_recall_72 : decode b_L_recall 72 = .ok (.getfield 18, 3) := by decide +kernel
theorem d_L_recall_75 : decode b_L_recall 75 = .ok (.iload 4, 2) := by decide +kernel
theorem d_L_recall_77 : decode b_L_recall 77 = .ok (.iaload, 1) := by decide +kernel
theorem d_L_recall_78 : decode b_L_recall 78 = .ok (.invokevirtual 97, 3) := by decide +kernel
theorem d_L_recall_81 : decode b_L_recall 81 = .ok (.return_, 1) := by decide +kernel
theorem d_L_recall_82 : decode b_L_recall 82 = .ok (.aload_n 3, 1) := by decide +kernel
theorem d_L_recall_83 : decode b_L_recall 83 = .ok (.aload_n 0, 1) := by decide +kernel
theorem d_L_recall_84 : decode b_L_recall 84 = .ok (.getfield 9, 3) := by decide +kernel
theorem d_L_recall_87 : decode b_L_recall 87 = .ok (.iload 4, 2) := by decide +kernel
theorem d_L_recall_89 : decode b_L_recall 89 = .ok (.laload, 1) := by decide +kernel
theorem d_L_recall_90 : decode b_L_recall 90 = .ok (.aload_n 0, 1) := by decide +kernel
theorem d_L_recall_91 : decode b_L_recall 91 = .ok (.getfield 15, 3) := by decide +kernel
theorem d_L_recall_94 : decode b_L_recall 94 = .ok (.iload 4, 2) := by decide +kernel
theorem d_L_recall_96 : decode b_L_recall 96 = .ok (.laload, 1) := by decide +kernel
theorem d_L_recall_97 : decode b_L_recall 97 = .ok (.invokevirtual 101, 3) := by decide +kernel
theorem d_L_recall_100 : decode b_L_recall 100 = .ok (.aload_n 3, 1) := by decide +kernel
theorem d_L_recall_101 : decode b_L_recall 101 = .ok (.aload_n 0, 1) := by decide +kernel
theorem d_L_recall_102 : decode b_L_recall 102 = .ok (.getfield 18, 3) := by decide +kernel
theorem d_L_recall_105 : decode b_L_recall 105 = .ok (.iload 4, 2) := by decide +kernel
theorem d_L_recall_107 : decode b_L_recall 107 = .ok (.iaload, 1) := by decide +kernel
theorem d_L_recall_108 : decode b_L_recall 108 = .ok (.iconst 1, 1) := by decide +kernel
theorem d_L_recall_109 : decode b_L_recall 109 = .ok (.if_icmp .ne 7, 3) := by decide +kernel
theorem d_L_recall_112 : decode b_L_recall 112 = .ok (.iconst 1, 1) := by decide +kernel
theorem d_L_recall_113 : decode b_L_recall 113 = .ok (.goto 4, 3) := by decide +kernel
theorem d_L_recall_116 : decode b_L_recall 116 = .ok (.iconst 0, 1) := by decide +kernel
theorem d_L_recall_117 : decode b_L_recall 117 = .ok (.putfield 89, 3) := by decide +kernel
theorem d_L_recall_120 : decode b_L_recall 120 = .ok (.return_, 1) := by decide +kernel
theorem d_L_isBeyondRatios_0 : decode b_L_isBeyondRatios 0 = .ok (.iconst (-1), 1) := by decide +kernel
theorem d_L_isBeyondRatios_1 : decode b_L_isBeyondRatios 1 = .ok (.istore_n 3, 1) := by decide +kernel
theorem d_L_isBeyondRatios_2 : decode b_L_isBeyondRatios 2 = .ok (.iconst (-1), 1) := by decide +kernel
theorem d_L_isBeyondRatios_3 : decode b_L_isBeyondRatios 3 = .ok (.istore 4, 2) := by decide +kernel
theorem d_L_isBeyondRatios_5 : decode b_L_isBeyondRatios 5 = .ok (.iconst 0, 1) := by decide +kernel
theorem d_L_isBeyondRatios_6 : decode b_L_isBeyondRatios 6 = .ok (.istore 5, 2) := by decide +kernel
theorem d_L_isBeyondRatios_8 : decode b_L_isBeyondRatios 8 = .ok (.iload 5, 2) := by decide +kernel
theorem d_L_isBeyondRatios_10 : decode b_L_isBeyondRatios 10 = .ok (.iconst 5, 1) := by decide +kernel
theorem d_L_isBeyondRatios_11 : decode b_L_isBeyondRatios 11 = .ok (.if_icmp .ge 81, 3) := by decide +kernel
theorem d_L_isBeyondRatios_14 : decode b_L_isBeyondRatios 14 = .ok (.aload_n 0, 1) := by decide +kernel
theorem d_L_isBeyondRatios_15 : decode b_L_isBeyondRatios 15 = .ok (.getfield 49, 3) := by decide +kernel
theorem d_L_isBeyondRatios_18 : decode b_L_isBeyondRatios 18 = .ok (.iload_n 1, 1) := by decide +kernel
theorem d_L_isBeyondRatios_19 : decode b_L_isBeyondRatios 19 = .ok (.iload 5, 2) := by decide +kernel
theorem d_L_isBeyondRatios_21 : decode b_L_isBeyondRatios 21 = .ok (.invokevirtual 109, 3) := by decide +kernel
theorem d_L_isBeyondRatios_24 : decode b_L_isBeyondRatios 24 = .ok (.ifCond .eq 62, 3) := by decide +kernel
theorem d_L_isBeyondRatios_27 : decode b_L_isBeyondRatios 27 = .ok (.aload_n 0, 1) := by decide +kernel
theorem d_L_isBeyondRatios_28 : decode b_L_isBeyondRatios 28 = .ok (.getfield 49, 3) := by decide +kernel
theorem d_L_isBeyondRatios_31 : decode b_L_isBeyondRatios 31 = .ok (.iload_n 2, 1) := by decide +kernel
theorem d_L_isBeyondRatios_32 : decode b_L_isBeyondRatios 32 = .ok (.iload 5, 2) := by decide +kernel
theorem d_L_isBeyondRatios_34 : decode b_L_isBeyondRatios 34 = .ok (.invokevirtual 109, 3) := by decide +kernel
theorem d_L_isBeyondRatios_37 : decode b_L_isBeyondRatios 37 = .ok (.ifCond .ne 6, 3) := by decide +kernel
theorem d_L_isBeyondRatios_40 : decode b_L_isBeyondRatios 40 = .ok (.goto 46, 3) := by decide +kernel
theorem d_L_isBeyondRatios_43 : decode b_L_isBeyondRatios 43 = .ok (.iload_n 3, 1) := by decide +kernel
theorem d_L_isBeyondRatios_44 : decode b_L_isBeyondRatios 44 = .ok (.iconst (-1), 1) := by decide +kernel
theorem d_L_isBeyondRatios_45 : decode b_L_isBeyondRatios 45 = .ok (.if_icmp .eq 15, 3) := by decide +kernel
theorem d_L_isBeyondRatios_48 : decode b_L_isBeyondRatios 48 = .ok (.aload_n 0, 1) := by decide +kernel
theorem d_L_isBeyondRatios_49 : decode b_L_isBeyondRatios 49 = .ok (.iload_n 1, 1) := by decide +kernel
theorem d_L_isBeyondRatios_50 : decode b_L_isBeyondRatios 50 = .ok (.iload_n 2, 1) := by decide +kernel
theorem d_L_isBeyondRatios_51 : decode b_L_isBeyondRatios 51 = .ok (.iload 5, 2) := by decide +kernel
theorem d_L_isBeyondRatios_53 : decode b_L_isBeyondRatios 53 = .ok (.iload_n 3, 1) := by decide +kernel
theorem d_L_isBeyondRatios_54 : decode b_L_isBeyondRatios 54 = .ok (.invokevirtual 150, 3) := by decide +kernel
theorem d_L_isBeyondRatios_57 : decode b_L_isBeyondRatios 57 = .ok (.ifCond .ge 6, 3) := by decide +kernel
theorem d_L_isBeyondRatios_60 : decode b_L_isBeyondRatios 60 = .ok (.iload 5, 2) := by decide +kernel
theorem d_L_isBeyondRatios_62 : decode b_L_isBeyondRatios 62 = .ok (.istore_n 3, 1) := by decide +kernel
theorem d_L_isBeyondRatios_63 : decode b_L_isBeyondRatios 63 = .ok (.iload 4, 2) := by decide +kernel
theorem d_L_isBeyondRatios_65 : decode b_L_isBeyondRatios 65 = .ok (.iconst (-1), 1) := by decide +kernel
theorem d_L_isBeyondRatios_66 : decode b_L_isBeyondRatios 66 = .ok (.if_icmp .eq 16, 3) := by decide +kernel
theorem d_L_isBeyondRatios_69 : decode b_L_isBeyondRatios 69 = .ok (.aload_n 0, 1) := by decide +kernel
theorem d_L_isBeyondRatios_70 : decode b_L_isBeyondRatios 70 = .ok (.iload_n 1, 1) := by decide +kernel
theorem d_L_isBeyondRatios_71 : decode b_L_isBeyondRatios 71 = .ok (.iload_n 2, 1) := by decide +kernel
theorem d_L_isBeyondRatios_72 : decode b_L_isBeyondRatios 72 = .ok (.iload 5, 2) := by decide +kernel
theorem d_L_isBeyondRatios_74 : decode b_L_isBeyondRatios 74 = .ok (.iload 4, 2) := by decide +kernel
theorem d_L_isBeyondRatios_76 : decode b_L_isBeyondRatios 76 = .ok (.invokevirtual 150, 3) := by decide +kernel
theorem d_L_isBeyondRatios_79 : decode b_L_isBeyondRatios 79 = .ok (.ifCond .le 7, 3) := by decide +kernel
theorem d_L_isBeyondRatios_82 : decode b_L_isBeyondRatios 82 = .ok (.iload 5, 2) := by decide +kernel
theorem d_L_isBeyondRatios_84 : decode b_L_isBeyondRatios 84 = .ok (.istore 4, 2) := by decide +kernel
theorem d_L_isBeyondRatios_86 : decode b_L_isBeyondRatios 86 = .ok (.iinc 5 1, 3) := by decide +kernel
theorem d_L_isBeyondRatios_89 : decode b_L_isBeyondRatios 89 = .ok (.goto (-81), 3) := by decide +kernel
theorem d_L_isBeyondRatios_92 : decode b_L_isBeyondRatios 92 = .ok (.aload_n 0, 1) := by decide +kernel
theorem d_L_isBeyondRatios_93 : decode b_L_isBeyondRatios 93 = .ok (.iload_n 1, 1) := by decide +kernel
theorem d_L_isBeyondRatios_94 : decode b_L_isBeyondRatios 94 = .ok (.iload_n 2, 1) := by decide +kernel
theorem d_L_isBeyondRatios_95 : decode b_L_isBeyondRatios 95 = .ok (.aload_n 0, 1) := by decide +kernel
theorem d_L_isBeyondRatios_96 : decode b_L_isBeyondRatios 96 = .ok (.getfield 31, 3) := by decide +kernel
theorem d_L_isBeyondRatios_99 : decode b_L_isBeyondRatios 99 = .ok (.invokevirtual 113, 3) := by decide +kernel
theorem d_L_isBeyondRatios_102 : decode b_L_isBeyondRatios 102 = .ok (.iload_n 3, 1) := by decide +kernel
theorem d_L_isBeyondRatios_103 : decode b_L_isBeyondRatios 103 = .ok (.iconst (-1), 1) := by decide +kernel
theorem d_L_isBeyondRatios_104 : decode b_L_isBeyondRatios 104 = .ok (.if_icmp .eq 13, 3) := by decide +kernel
theorem d_L_isBeyondRatios_107 : decode b_L_isBeyondRatios 107 = .ok (.aload_n 0, 1) := by decide +kernel
theorem d_L_isBeyondRatios_108 : decode b_L_isBeyondRatios 108 = .ok (.getfield 31, 3) := by decide +kernel
theorem d_L_isBeyondRatios_111 : decode b_L_isBeyondRatios 111 = .ok (.getfield 86, 3) := by decide +kernel
theorem d_L_isBeyondRatios_114 : decode b_L_isBeyondRatios 114 = .ok (.ifCond .eq 5, 3) := by decide +kernel
theorem d_L_isBeyondRatios_117 : decode b_L_isBeyondRatios 117 = .ok (.iconst 0, 1) := by decide +kernel
theorem d_L_isBeyondRatios_118 : decode b_L_isBeyondRatios 118 = .ok (.ireturn, 1) := by decide +kernel
theorem d_L_isBeyondRatios_119 : decode b_L_isBeyondRatios 119 = .ok (.aload_n 0, 1) := by decide +kernel
theorem d_L_isBeyondRatios_120 : decode b_L_isBeyondRatios 120 = .ok (.getfield 35, 3) := by decide +kernel
theorem d_L_isBeyondRatios_123 : decode b_L_isBeyondRatios 123 = .ok (.aload_n 0, 1) := by decide +kernel
theorem d_L_isBeyondRatios_124 : decode b_L_isBeyondRatios 124 = .ok (.getfield 49, 3) := by decide +kernel
theorem d_L_isBeyondRatios_127 : decode b_L_isBeyondRatios 127 = .ok (.iload_n 2, 1) := by decide +kernel
theorem d_L_isBeyondRatios_128 : decode b_L_isBeyondRatios 128 = .ok (.iload_n 3, 1) := by decide +kernel
theorem d_L_isBeyondRatios_129 : decode b_L_isBeyondRatios 129 = .ok (.invokevirtual 109, 3) := by decide +kernel
theorem d_L_isBeyondRatios_132 : decode b_L_isBeyondRatios 132 = .ok (.i2l, 1) := by decide +kernel
theorem d_L_isBeyondRatios_133 : decode b_L_isBeyondRatios 133 = .ok (.aload_n 0, 1) := by decide +kernel
theorem d_L_isBeyondRatios_134 : decode b_L_isBeyondRatios 134 = .ok (.getfield 49, 3) := by decide +kernel
theorem d_L_isBeyondRatios_137 : decode b_L_isBeyondRatios 137 = .ok (.iload_n 1, 1) := by decide +kernel
theorem d_L_isBeyondRatios_138 : decode b_L_isBeyondRatios 138 = .ok (.iload_n 3, 1) := by decide +kernel
theorem d_L_isBeyondRatios_139 : decode b_L_isBeyondRatios 139 = .ok (.invokevirtual 109, 3) := by decide +kernel
theorem d_L_isBeyondRatios_142 : decode b_L_isBeyondRatios 142 = .ok (.i2l, 1) := by decide +kernel
theorem d_L_isBeyondRatios_143 : decode b_L_isBeyondRatios 143 = .ok (.invokevirtual 101, 3) := by decide +kernel
theorem d_L_isBeyondRatios_146 : decode b_L_isBeyondRatios 146 = .ok (.aload_n 0, 1) := by decide +kernel
theorem d_L_isBeyondRatios_147 : decode b_L_isBeyondRatios 147 = .ok (.getfield 31, 3) := by decide +kernel
theorem d_L_isBeyondRatios_150 : decode b_L_isBeyondRatios 150 = .ok (.aload_n 0, 1) := by decide +kernel
theorem d_L_isBeyondRatios_151 : decode b_L_isBeyondRatios 151 = .ok (.getfield 35, 3) := by decide +kernel
theorem d_L_isBeyondRatios_154 : decode b_L_isBeyondRatios 154 = .ok (.invokestatic 128, 3) := by decide +kernel
theorem d_L_isBeyondRatios_157 : decode b_L_isBeyondRatios 157 = .ok (.iconst (-1), 1) := by decide +kernel
theorem d_L_isBeyondRatios_158 : decode b_L_isBeyondRatios 158 = .ok (.if_icmp .ne 5, 3) := by decide +kernel
theorem d_L_isBeyondRatios_161 : decode b_L_isBeyondRatios 161 = .ok (.iconst 1, 1) := by decide +kernel
theorem d_L_isBeyondRatios_162 : decode b_L_isBeyondRatios 162 = .ok (.ireturn, 1) := by decide +kernel
theorem d_L_isBeyondRatios_163 : decode b_L_isBeyondRatios 163 = .ok (.aload_n 0, 1) := by decide +kernel
theorem d_L_isBeyondRatios_164 : decode b_L_isBeyondRatios 164 = .ok (.getfield 35, 3) := by decide +kernel
theorem d_L_isBeyondRatios_167 : decode b_L_isBeyondRatios 167 = .ok (.aload_n 0, 1) := by decide +kernel
theorem d_L_isBeyondRatios_168 : decode b_L_isBeyondRatios 168 = .ok (.getfield 49, 3) := by decide +kernel
theorem d_L_isBeyondRatios_171 : decode b_L_isBeyondRatios 171 = .ok (.iload_n 2, 1) := by decide +kernel
theorem d_L_isBeyondRatios_172 : decode b_L_isBeyondRatios 172 = .ok (.iload 4, 2) := by decide +kernel
theorem d_L_isBeyondRatios_174 : decode b_L_isBeyondRatios 174 = .ok (.invokevirtual 109, 3) := by decide +kernel
theorem d_L_isBeyondRatios_177 : decode b_L_isBeyondRatios 177 = .ok (.i2l, 1) := by decide +kernel
theorem d_L_isBeyondRatios_178 : decode b_L_isBeyondRatios 178 = .ok (.aload_n 0, 1) := by decide +kernel
theorem d_L_isBeyondRatios_179 : decode b_L_isBeyondRatios 179 = .ok (.getfield 49, 3) := by decide +kernel
theorem d_L_isBeyondRatios_182 : decode b_L_isBeyondRatios 182 = .ok (.iload_n 1, 1) := by decide +kernel
theorem d_L_isBeyondRatios_183 : decode b_L_isBeyondRatios 183 = .ok (.iload 4, 2) := by decide +kernel
theorem d_L_isBeyondRatios_185 : decode b_L_isBeyondRatios 185 = .ok (.invokevirtual 109, 3) := by decide +kernel
theorem d_L_isBeyondRatios_188 : decode b_L_isBeyondRatios 188 = .ok (.i2l, 1) := by decide +kernel
theorem d_L_isBeyondRatios_189 : decode b_L_isBeyondRatios 189 = .ok (.invokevirtual 101, 3) := by decide +kernel
theorem d_L_isBeyondRatios_192 : decode b_L_isBeyondRatios 192 = .ok (.aload_n 0, 1) := by decide +kernel
theorem d_L_isBeyondRatios_193 : decode b_L_isBeyondRatios 193 = .ok (.getfield 31, 3) := by decide +kernel
theorem d_L_isBeyondRatios_196 : decode b_L_isBeyondRatios 196 = .ok (.aload_n 0, 1) := by decide +kernel
theorem d_L_isBeyondRatios_197 : decode b_L_isBeyondRatios 197 = .ok (.getfield 35, 3) := by decide +kernel
theorem d_L_isBeyondRatios_200 : decode b_L_isBeyondRatios 200 = .ok (.invokestatic 128, 3) := by decide +kernel
theorem d_L_isBeyondRatios_203 : decode b_L_isBeyondRatios 203 = .ok (.iconst 1, 1) := by decide +kernel
theorem d_L_isBeyondRatios_204 : decode b_L_isBeyondRatios 204 = .ok (.if_icmp .ne 7, 3) := by decide +kernel
theorem d_L_isBeyondRatios_207 : decode b_L_isBeyondRatios 207 = .ok (.iconst 1, 1) := by decide +kernel
theorem d_L_isBeyondRatios_208 : decode b_L_isBeyondRatios 208 = .ok (.goto 4, 3) := by decide +kernel
theorem d_L_isBeyondRatios_211 : decode b_L_isBeyondRatios 211 = .ok (.iconst 0, 1) := by decide +kernel
theorem d_L_isBeyondRatios_212 : decode b_L_isBeyondRatios 212 = .ok (.ireturn, 1) := by decide +kernel
theorem d_L_changeBooks_0 : decode b_L_changeBooks 0 = .ok (.aload_n 0, 1) := by decide +kernel
theorem d_L_changeBooks_1 : decode b_L_changeBooks 1 = .ok (.getfield 53, 3) := by decide +kernel
theorem d_L_changeBooks_4 : decode b_L_changeBooks 4 = .ok (.aload_n 0, 1) := by decide +kernel
theorem d_L_changeBooks_5 : decode b_L_changeBooks 5 = .ok (.getfield 49, 3) := by decide +kernel
theorem d_L_changeBooks_8 : decode b_L_changeBooks 8 = .ok (.invokevirtual 132, 3) := by decide +kernel
theorem d_L_changeBooks_11 : decode b_L_changeBooks 11 = .ok (.iload_n 1, 1) := by decide +kernel
theorem d_L_changeBooks_12 : decode b_L_changeBooks 12 = .ok (.tableswitch 75 0 4 #[36, 75, 75, 48, 59], 36) := by decide +kernel
theorem d_L_changeBooks_48 : decode b_L_changeBooks 48 = .ok (.aload_n 0, 1) := by decide +kernel
theorem d_L_changeBooks_49 : decode b_L_changeBooks 49 = .ok (.getfield 53, 3) := by decide +kernel
theorem d_L_changeBooks_52 : decode b_L_changeBooks 52 = .ok (.iload_n 2, 1) := by decide +kernel
theorem d_L_changeBooks_53 : decode b_L_changeBooks 53 = .ok (.iload_n 3, 1) := by decide +kernel
theorem d_L_changeBooks_54 : decode b_L_changeBooks 54 = .ok (.invokevirtual 136, 3) := by decide +kernel
theorem d_L_changeBooks_57 : decode b_L_changeBooks 57 = .ok (.goto 52, 3) := by decide +kernel
theorem d_L_changeBooks_60 : decode b_L_changeBooks 60 = .ok (.aload_n 0, 1) := by decide +kernel
theorem d_L_changeBooks_61 : decode b_L_changeBooks 61 = .ok (.getfield 53, 3) := by decide +kernel
theorem d_L_changeBooks_64 : decode b_L_changeBooks 64 = .ok (.iload_n 3, 1) := by decide +kernel
theorem d_L_changeBooks_65 : decode b_L_changeBooks 65 = .ok (.invokevirtual 140, 3) := by decide +kernel
theorem d_L_changeBooks_68 : decode b_L_changeBooks 68 = .ok (.goto 41, 3) := by decide +kernel
theorem d_L_changeBooks_71 : decode b_L_changeBooks 71 = .ok (.aload_n 0, 1) := by decide +kernel
theorem d_L_changeBooks_72 : decode b_L_changeBooks 72 = .ok (.getfield 53, 3) := by decide +kernel
theorem d_L_changeBooks_75 : decode b_L_changeBooks 75 = .ok (.iload 4, 2) := by decide +kernel
theorem d_L_changeBooks_77 : decode b_L_changeBooks 77 = .ok (.aload_n 0, 1) := by decide +kernel
theorem d_L_changeBooks_78 : decode b_L_changeBooks 78 = .ok (.getfield 42, 3) := by decide +kernel
theorem d_L_changeBooks_81 : decode b_L_changeBooks 81 = .ok (.invokevirtual 143, 3) := by decide +kernel
theorem d_L_changeBooks_84 : decode b_L_changeBooks 84 = .ok (.goto 25, 3) := by decide +kernel
theorem d_L_changeBooks_87 : decode b_L_changeBooks 87 = .ok (.aload_n 0, 1) := by decide +kernel
theorem d_L_changeBooks_88 : decode b_L_changeBooks 88 = .ok (.getfield 53, 3) := by decide +kernel
theorem d_L_changeBooks_91 : decode b_L_changeBooks 91 = .ok (.iload_n 3, 1) := by decide +kernel
theorem d_L_changeBooks_92 : decode b_L_changeBooks 92 = .ok (.iload 4, 2) := by decide +kernel
theorem d_L_changeBooks_94 : decode b_L_changeBooks 94 = .ok (.aload_n 0, 1) := by decide +kernel
theorem d_L_changeBooks_95 : decode b_L_changeBooks 95 = .ok (.getfield 53, 3) := by decide +kernel
theorem d_L_changeBooks_98 : decode b_L_changeBooks 98 = .ok (.iload_n 3, 1) := by decide +kernel
theorem d_L_changeBooks_99 : decode b_L_changeBooks 99 = .ok (.iload 4, 2) := by decide +kernel
theorem d_L_changeBooks_101 : decode b_L_changeBooks 101 = .ok (.invokevirtual 109, 3) := by decide +kernel
theorem d_L_changeBooks_104 : decode b_L_changeBooks 104 = .ok (.iconst 1, 1) := by decide +kernel
theorem d_L_changeBooks_105 : decode b_L_changeBooks 105 = .ok (.iadd, 1) := by decide +kernel
theorem d_L_changeBooks_106 : decode b_L_changeBooks 106 = .ok (.invokevirtual 146, 3) := by decide +kernel
theorem d_L_changeBooks_109 : decode b_L_changeBooks 109 = .ok (.return_, 1) := by decide +kernel
theorem d_L_isBroken_0 : decode b_L_isBroken 0 = .ok (.iload_n 1, 1) := by decide +kernel
theorem d_L_isBroken_1 : decode b_L_isBroken 1 = .ok (.bipush 6, 2) := by decide +kernel
theorem d_L_isBroken_3 : decode b_L_isBroken 3 = .ok (.if_icmp .ne 10, 3) := by decide +kernel
theorem d_L_isBroken_6 : decode b_L_isBroken 6 = .ok (.aload_n 0, 1) := by decide +kernel
theorem d_L_isBroken_7 : decode b_L_isBroken 7 = .ok (.iload_n 2, 1) := by decide +kernel
theorem d_L_isBroken_8 : decode b_L_isBroken 8 = .ok (.iload_n 3, 1) := by decide +kernel
theorem d_L_isBroken_9 : decode b_L_isBroken 9 = .ok (.invokevirtual 105, 3) := by decide +kernel
theorem d_L_isBroken_12 : decode b_L_isBroken 12 = .ok (.ireturn, 1) := by decide +kernel
theorem d_L_isBroken_13 : decode b_L_isBroken 13 = .ok (.iload_n 1, 1) := by decide +kernel
theorem d_L_isBroken_14 : decode b_L_isBroken 14 = .ok (.iconst 5, 1) := by decide +kernel
theorem d_L_isBroken_15 : decode b_L_isBroken 15 = .ok (.if_icmp .ne 18, 3) := by decide +kernel
theorem d_L_isBroken_18 : decode b_L_isBroken 18 = .ok (.aload_n 0, 1) := by decide +kernel
theorem d_L_isBroken_19 : decode b_L_isBroken 19 = .ok (.getfield 49, 3) := by decide +kernel
theorem d_L_isBroken_22 : decode b_L_isBroken 22 = .ok (.iload_n 3, 1) := by decide +kernel
theorem d_L_isBroken_23 : decode b_L_isBroken 23 = .ok (.iload 4, 2) := by decide +kernel
theorem d_L_isBroken_25 : decode b_L_isBroken 25 = .ok (.invokevirtual 109, 3) := by decide +kernel
theorem d_L_isBroken_28 : decode b_L_isBroken 28 = .ok (.ifCond .ne 5, 3) := by decide +kernel
theorem d_L_isBroken_31 : decode b_L_isBroken 31 = .ok (.iconst 0, 1) := by decide +kernel
theorem d_L_isBroken_32 : decode b_L_isBroken 32 = .ok (.ireturn, 1) := by decide +kernel
theorem d_L_isBroken_33 : decode b_L_isBroken 33 = .ok (.iload_n 1, 1) := by decide +kernel
theorem d_L_isBroken_34 : decode b_L_isBroken 34 = .ok (.iconst 1, 1) := by decide +kernel
theorem d_L_isBroken_35 : decode b_L_isBroken 35 = .ok (.if_icmp .eq 8, 3) := by decide +kernel
theorem d_L_isBroken_38 : decode b_L_isBroken 38 = .ok (.iload_n 1, 1) := by decide +kernel
theorem d_L_isBroken_39 : decode b_L_isBroken 39 = .ok (.iconst 2, 1) := by decide +kernel
theorem d_L_isBroken_40 : decode b_L_isBroken 40 = .ok (.if_icmp .ne 47, 3) := by decide +kernel
theorem d_L_isBroken_43 : decode b_L_isBroken 43 = .ok (.aload_n 0, 1) := by decide +kernel
theorem d_L_isBroken_44 : decode b_L_isBroken 44 = .ok (.iload_n 2, 1) := by decide +kernel
theorem d_L_isBroken_45 : decode b_L_isBroken 45 = .ok (.iload_n 3, 1) := by decide +kernel
theorem d_L_isBroken_46 : decode b_L_isBroken 46 = .ok (.aload_n 0, 1) := by decide +kernel
theorem d_L_isBroken_47 : decode b_L_isBroken 47 = .ok (.getfield 31, 3) := by decide +kernel
theorem d_L_isBroken_50 : decode b_L_isBroken 50 = .ok (.invokevirtual 113, 3) := by decide +kernel
theorem d_L_isBroken_53 : decode b_L_isBroken 53 = .ok (.aload_n 0, 1) := by decide +kernel
theorem d_L_isBroken_54 : decode b_L_isBroken 54 = .ok (.iload_n 3, 1) := by decide +kernel
theorem d_L_isBroken_55 : decode b_L_isBroken 55 = .ok (.iload_n 1, 1) := by decide +kernel
theorem d_L_isBroken_56 : decode b_L_isBroken 56 = .ok (.iconst 2, 1) := by decide +kernel
theorem d_L_isBroken_57 : decode b_L_isBroken 57 = .ok (.if_icmp .ne 8, 3) := by decide +kernel
theorem d_L_isBroken_60 : decode b_L_isBroken 60 = .ok (.iload 4, 2) := by decide +kernel
theorem d_L_isBroken_62 : decode b_L_isBroken 62 = .ok (.goto 4, 3) := by decide +kernel
theorem d_L_isBroken_65 : decode b_L_isBroken 65 = .ok (.iload_n 2, 1) := by decide +kernel
theorem d_L_isBroken_66 : decode b_L_isBroken 66 = .ok (.aload_n 0, 1) := by decide +kernel
theorem d_L_isBroken_67 : decode b_L_isBroken 67 = .ok (.getfield 35, 3) := by decide +kernel
theorem d_L_isBroken_70 : decode b_L_isBroken 70 = .ok (.invokevirtual 113, 3) := by decide +kernel
theorem d_L_isBroken_73 : decode b_L_isBroken 73 = .ok (.aload_n 0, 1) := by decide +kernel
theorem d_L_isBroken_74 : decode b_L_isBroken 74 = .ok (.getfield 31, 3) := by decide +kernel
theorem d_L_isBroken_77 : decode b_L_isBroken 77 = .ok (.aload_n 0, 1) := by decide +kernel
theorem d_L_isBroken_78 : decode b_L_isBroken 78 = .ok (.getfield 35, 3) := by decide +kernel
theorem d_L_isBroken_81 : decode b_L_isBroken 81 = .ok (.invokevirtual 117, 3) := by decide +kernel
theorem d_L_isBroken_84 : decode b_L_isBroken 84 = .ok (.goto 37, 3) := by decide +kernel
theorem d_L_isBroken_87 : decode b_L_isBroken 87 = .ok (.aload_n 0, 1) := by decide +kernel
theorem d_L_isBroken_88 : decode b_L_isBroken 88 = .ok (.iload_n 1, 1) := by decide +kernel
theorem d_L_isBroken_89 : decode b_L_isBroken 89 = .ok (.iload_n 2, 1) := by decide +kernel
theorem d_L_isBroken_90 : decode b_L_isBroken 90 = .ok (.iload_n 3, 1) := by decide +kernel
theorem d_L_isBroken_91 : decode b_L_isBroken 91 = .ok (.iload 4, 2) := by decide +kernel
theorem d_L_isBroken_93 : decode b_L_isBroken 93 = .ok (.invokevirtual 121, 3) := by decide +kernel
theorem d_L_isBroken_96 : decode b_L_isBroken 96 = .ok (.aload_n 0, 1) := by decide +kernel
theorem d_L_isBroken_97 : decode b_L_isBroken 97 = .ok (.getfield 56, 3) := by decide +kernel
theorem d_L_isBroken_100 : decode b_L_isBroken 100 = .ok (.aload_n 0, 1) := by decide +kernel
theorem d_L_isBroken_101 : decode b_L_isBroken 101 = .ok (.getfield 38, 3) := by decide +kernel
theorem d_L_isBroken_104 : decode b_L_isBroken 104 = .ok (.aload_n 0, 1) := by decide +kernel
theorem d_L_isBroken_105 : decode b_L_isBroken 105 = .ok (.getfield 53, 3) := by decide +kernel
theorem d_L_isBroken_108 : decode b_L_isBroken 108 = .ok (.aload_n 0, 1) := by decide +kernel
theorem d_L_isBroken_109 : decode b_L_isBroken 109 = .ok (.getfield 42, 3) := by decide +kernel
theorem d_L_isBroken_112 : decode b_L_isBroken 112 = .ok (.iload_n 2, 1) := by decide +kernel
theorem d_L_isBroken_113 : decode b_L_isBroken 113 = .ok (.iload_n 3, 1) := by decide +kernel
theorem d_L_isBroken_114 : decode b_L_isBroken 114 = .ok (.aload_n 0, 1) := by decide +kernel
theorem d_L_isBroken_115 : decode b_L_isBroken 115 = .ok (.getfield 31, 3) := by decide +kernel
theorem d_L_isBroken_118 : decode b_L_isBroken 118 = .ok (.invokevirtual 73, 3) := by decide +kernel
theorem d_L_isBroken_121 : decode b_L_isBroken 121 = .ok (.iload_n 1, 1) := by decide +kernel
theorem d_L_isBroken_122 : decode b_L_isBroken 122 = .ok (.ifCond .eq 8, 3) := by decide +kernel
theorem d_L_isBroken_125 : decode b_L_isBroken 125 = .ok (.iload_n 1, 1) := by decide +kernel
theorem d_L_isBroken_126 : decode b_L_isBroken 126 = .ok (.iconst 1, 1) := by decide +kernel
theorem d_L_isBroken_127 : decode b_L_isBroken 127 = .ok (.if_icmp .ne 15, 3) := by decide +kernel
theorem d_L_isBroken_130 : decode b_L_isBroken 130 = .ok (.aload_n 0, 1) := by decide +kernel
theorem d_L_isBroken_131 : decode b_L_isBroken 131 = .ok (.getfield 35, 3) := by decide +kernel
theorem d_L_isBroken_134 : decode b_L_isBroken 134 = .ok (.lconst 1, 1) := by decide +kernel
theorem d_L_isBroken_135 : decode b_L_isBroken 135 = .ok (.lconst 1, 1) := by decide +kernel
theorem d_L_isBroken_136 : decode b_L_isBroken 136 = .ok (.invokevirtual 101, 3) := by decide +kernel
theorem d_L_isBroken_139 : decode b_L_isBroken 139 = .ok (.goto 23, 3) := by decide +kernel
theorem d_L_isBroken_142 : decode b_L_isBroken 142 = .ok (.aload_n 0, 1) := by decide +kernel
theorem d_L_isBroken_143 : decode b_L_isBroken 143 = .ok (.iload_n 2, 1) := by decide +kernel
theorem d_L_isBroken_144 : decode b_L_isBroken 144 = .ok (.iload_n 1, 1) := by decide +kernel
theorem d_L_isBroken_145 : decode b_L_isBroken 145 = .ok (.iconst 2, 1) := by decide +kernel
theorem d_L_isBroken_146 : decode b_L_isBroken 146 = .ok (.if_icmp .ne 8, 3) := by decide +kernel
theorem d_L_isBroken_149 : decode b_L_isBroken 149 = .ok (.iload 4, 2) := by decide +kernel
theorem d_L_isBroken_151 : decode b_L_isBroken 151 = .ok (.goto 4, 3) := by decide +kernel
theorem d_L_isBroken_154 : decode b_L_isBroken 154 = .ok (.iload_n 3, 1) := by decide +kernel
theorem d_L_isBroken_155 : decode b_L_isBroken 155 = .ok (.aload_n 0, 1) := by decide +kernel
theorem d_L_isBroken_156 : decode b_L_isBroken 156 = .ok (.getfield 35, 3) := by decide +kernel
theorem d_L_isBroken_159 : decode b_L_isBroken 159 = .ok (.invokevirtual 113, 3) := by decide +kernel
theorem d_L_isBroken_162 : decode b_L_isBroken 162 = .ok (.iload_n 1, 1) := by decide +kernel
theorem d_L_isBroken_163 : decode b_L_isBroken 163 = .ok (.iconst 3, 1) := by decide +kernel
theorem d_L_isBroken_164 : decode b_L_isBroken 164 = .ok (.if_icmp .ne 10, 3) := by decide +kernel
theorem d_L_isBroken_167 : decode b_L_isBroken 167 = .ok (.aload_n 0, 1) := by decide +kernel
theorem d_L_isBroken_168 : decode b_L_isBroken 168 = .ok (.getfield 35, 3) := by decide +kernel
theorem d_L_isBroken_171 : decode b_L_isBroken 171 = .ok (.invokevirtual 125, 3) := by decide +kernel
theorem d_L_isBroken_174 : decode b_L_isBroken 174 = .ok (.aload_n 0, 1) := by decide +kernel
theorem d_L_isBroken_175 : decode b_L_isBroken 175 = .ok (.getfield 31, 3) := by decide +kernel
theorem d_L_isBroken_178 : decode b_L_isBroken 178 = .ok (.getfield 86, 3) := by decide +kernel
theorem d_L_isBroken_181 : decode b_L_isBroken 181 = .ok (.ifCond .ne 13, 3) := by decide +kernel
theorem d_L_isBroken_184 : decode b_L_isBroken 184 = .ok (.aload_n 0, 1) := by decide +kernel
theorem d_L_isBroken_185 : decode b_L_isBroken 185 = .ok (.getfield 35, 3) := by decide +kernel
theorem d_L_isBroken_188 : decode b_L_isBroken 188 = .ok (.getfield 86, 3) := by decide +kernel
theorem d_L_isBroken_191 : decode b_L_isBroken 191 = .ok (.ifCond .eq 5, 3) := by decide +kernel
theorem d_L_isBroken_194 : decode b_L_isBroken 194 = .ok (.iconst 0, 1) := by decide +kernel
theorem d_L_isBroken_195 : decode b_L_isBroken 195 = .ok (.ireturn, 1) := by decide +kernel
theorem d_L_isBroken_196 : decode b_L_isBroken 196 = .ok (.aload_n 0, 1) := by decide +kernel
theorem d_L_isBroken_197 : decode b_L_isBroken 197 = .ok (.getfield 31, 3) := by decide +kernel
theorem d_L_isBroken_200 : decode b_L_isBroken 200 = .ok (.aload_n 0, 1) := by decide +kernel
theorem d_L_isBroken_201 : decode b_L_isBroken 201 = .ok (.getfield 35, 3) := by decide +kernel
theorem d_L_isBroken_204 : decode b_L_isBroken 204 = .ok (.invokestatic 128, 3) := by decide +kernel
theorem d_L_isBroken_207 : decode b_L_isBroken 207 = .ok (.istore 5, 2) := by decide +kernel
theorem d_L_isBroken_209 : decode b_L_isBroken 209 = .ok (.iload 5, 2) := by decide +kernel
theorem d_L_isBroken_211 : decode b_L_isBroken 211 = .ok (.iconst (-1), 1) := by decide +kernel
theorem d_L_isBroken_212 : decode b_L_isBroken 212 = .ok (.if_icmp .eq 14, 3) := by decide +kernel
theorem d_L_isBroken_215 : decode b_L_isBroken 215 = .ok (.iload 5, 2) := by decide +kernel
theorem d_L_isBroken_217 : decode b_L_isBroken 217 = .ok (.iconst 1, 1) := by decide +kernel
theorem d_L_isBroken_218 : decode b_L_isBroken 218 = .ok (.if_icmp .ne 12, 3) := by decide +kernel
theorem d_L_isBroken_221 : decode b_L_isBroken 221 = .ok (.iload_n 1, 1) := by decide +kernel
theorem d_L_isBroken_222 : decode b_L_isBroken 222 = .ok (.iconst 5, 1) := by decide +kernel
theorem d_L_isBroken_223 : decode b_L_isBroken 223 = .ok (.if_icmp .eq 7, 3) := by decide +kernel
theorem d_L_isBroken_226 : decode b_L_isBroken 226 = .ok (.iconst 1, 1) := by decide +kernel
theorem d_L_isBroken_227 : decode b_L_isBroken 227 = .ok (.goto 4, 3) := by decide +kernel
theorem d_L_isBroken_230 : decode b_L_isBroken 230 = .ok (.iconst 0, 1) := by decide +kernel
theorem d_L_isBroken_231 : decode b_L_isBroken 231 = .ok (.ireturn, 1) := by decide +kernel
theorem d_L_breachOf_0 : decode b_L_breachOf 0 = .ok (.iload_n 1, 1) := by decide +kernel
theorem d_L_breachOf_1 : decode b_L_breachOf 1 = .ok (.iconst 4, 1) := by decide +kernel
theorem d_L_breachOf_2 : decode b_L_breachOf 2 = .ok (.imul, 1) := by decide +kernel
theorem d_L_breachOf_3 : decode b_L_breachOf 3 = .ok (.iload_n 3, 1) := by decide +kernel
theorem d_L_breachOf_4 : decode b_L_breachOf 4 = .ok (.iadd, 1) := by decide +kernel
theorem d_L_breachOf_5 : decode b_L_breachOf 5 = .ok (.bipush 7, 2) := by decide +kernel
theorem d_L_breachOf_7 : decode b_L_breachOf 7 = .ok (.imul, 1) := by decide +kernel
theorem d_L_breachOf_8 : decode b_L_breachOf 8 = .ok (.iload 4, 2) := by decide +kernel
theorem d_L_breachOf_10 : decode b_L_breachOf 10 = .ok (.iadd, 1) := by decide +kernel
theorem d_L_breachOf_11 : decode b_L_breachOf 11 = .ok (.istore 5, 2) := by decide +kernel
theorem d_L_breachOf_13 : decode b_L_breachOf 13 = .ok (.iload 5, 2) := by decide +kernel
theorem d_L_breachOf_15 : decode b_L_breachOf 15 = .ok (.ifCond .lt 38, 3) := by decide +kernel
theorem d_L_breachOf_18 : decode b_L_breachOf 18 = .ok (.iload 5, 2) := by decide +kernel
theorem d_L_breachOf_20 : decode b_L_breachOf 20 = .ok (.aload_n 0, 1) := by decide +kernel
theorem d_L_breachOf_21 : decode b_L_breachOf 21 = .ok (.getfield 22, 3) := by decide +kernel
theorem d_L_breachOf_24 : decode b_L_breachOf 24 = .ok (.arraylength, 1) := by decide +kernel
theorem d_L_breachOf_25 : decode b_L_breachOf 25 = .ok (.if_icmp .ge 28, 3) := by decide +kernel
theorem d_L_breachOf_28 : decode b_L_breachOf 28 = .ok (.aload_n 2, 1) := by decide +kernel
theorem d_L_breachOf_29 : decode b_L_breachOf 29 = .ok (.ifnull 24, 3) := by decide +kernel
theorem d_L_breachOf_32 : decode b_L_breachOf 32 = .ok (.aload_n 0, 1) := by decide +kernel
theorem d_L_breachOf_33 : decode b_L_breachOf 33 = .ok (.getfield 49, 3) := by decide +kernel
theorem d_L_breachOf_36 : decode b_L_breachOf 36 = .ok (.ifnull 17, 3) := by decide +kernel
theorem d_L_breachOf_39 : decode b_L_breachOf 39 = .ok (.aload_n 0, 1) := by decide +kernel
theorem d_L_breachOf_40 : decode b_L_breachOf 40 = .ok (.getfield 53, 3) := by decide +kernel
theorem d_L_breachOf_43 : decode b_L_breachOf 43 = .ok (.ifnull 10, 3) := by decide +kernel
theorem d_L_breachOf_46 : decode b_L_breachOf 46 = .ok (.aload_n 0, 1) := by decide +kernel
theorem d_L_breachOf_47 : decode b_L_breachOf 47 = .ok (.getfield 56, 3) := by decide +kernel
theorem d_L_breachOf_50 : decode b_L_breachOf 50 = .ok (.ifnonnull 5, 3) := by decide +kernel
theorem d_L_breachOf_53 : decode b_L_breachOf 53 = .ok (.iconst 1, 1) := by decide +kernel
theorem d_L_breachOf_54 : decode b_L_breachOf 54 = .ok (.ireturn, 1) := by decide +kernel
theorem d_L_breachOf_55 : decode b_L_breachOf 55 = .ok (.aload_n 0, 1) := by decide +kernel
theorem d_L_breachOf_56 : decode b_L_breachOf 56 = .ok (.getfield 22, 3) := by decide +kernel
theorem d_L_breachOf_59 : decode b_L_breachOf 59 = .ok (.iload 5, 2) := by decide +kernel
theorem d_L_breachOf_61 : decode b_L_breachOf 61 = .ok (.iaload, 1) := by decide +kernel
theorem d_L_breachOf_62 : decode b_L_breachOf 62 = .ok (.ifCond .eq 11, 3) := by decide +kernel
theorem d_L_breachOf_65 : decode b_L_breachOf 65 = .ok (.aload_n 0, 1) := by decide +kernel
theorem d_L_breachOf_66 : decode b_L_breachOf 66 = .ok (.getfield 22, 3) := by decide +kernel
theorem d_L_breachOf_69 : decode b_L_breachOf 69 = .ok (.iload 5, 2) := by decide +kernel
theorem d_L_breachOf_71 : decode b_L_breachOf 71 = .ok (.iaload, 1) := by decide +kernel
theorem d_L_breachOf_72 : decode b_L_breachOf 72 = .ok (.ireturn, 1) := by decide +kernel
theorem d_L_breachOf_73 : decode b_L_breachOf 73 = .ok (.aload_n 0, 1) := by decide +kernel
theorem d_L_breachOf_74 : decode b_L_breachOf 74 = .ok (.aload_n 2, 1) := by decide +kernel
theorem d_L_breachOf_75 : decode b_L_breachOf 75 = .ok (.putfield 38, 3) := by decide +kernel
theorem d_L_breachOf_78 : decode b_L_breachOf 78 = .ok (.aload_n 0, 1) := by decide +kernel
theorem d_L_breachOf_79 : decode b_L_breachOf 79 = .ok (.iload_n 3, 1) := by decide +kernel
theorem d_L_breachOf_80 : decode b_L_breachOf 80 = .ok (.putfield 42, 3) := by decide +kernel
theorem d_L_breachOf_83 : decode b_L_breachOf 83 = .ok (.aload_n 0, 1) := by decide +kernel
theorem d_L_breachOf_84 : decode b_L_breachOf 84 = .ok (.getfield 46, 3) := by decide +kernel
theorem d_L_breachOf_87 : decode b_L_breachOf 87 = .ok (.iload_n 1, 1) := by decide +kernel
theorem d_L_breachOf_88 : decode b_L_breachOf 88 = .ok (.iconst 4, 1) := by decide +kernel
theorem d_L_breachOf_89 : decode b_L_breachOf 89 = .ok (.imul, 1) := by decide +kernel
theorem d_L_breachOf_90 : decode b_L_breachOf 90 = .ok (.aload_n 0, 1) := by decide +kernel
theorem d_L_breachOf_91 : decode b_L_breachOf 91 = .ok (.getfield 42, 3) := by decide +kernel
theorem d_L_breachOf_94 : decode b_L_breachOf 94 = .ok (.iadd, 1) := by decide +kernel
theorem d_L_breachOf_95 : decode b_L_breachOf 95 = .ok (.if_icmp .eq 19, 3) := by decide +kernel
theorem d_L_breachOf_98 : decode b_L_breachOf 98 = .ok (.aload_n 0, 1) := by decide +kernel
theorem d_L_breachOf_99 : decode b_L_breachOf 99 = .ok (.invokevirtual 60, 3) := by decide +kernel
theorem d_L_breachOf_102 : decode b_L_breachOf 102 = .ok (.aload_n 0, 1) := by decide +kernel
theorem d_L_breachOf_103 : decode b_L_breachOf 103 = .ok (.iload_n 1, 1) := by decide +kernel
theorem d_L_breachOf_104 : decode b_L_breachOf 104 = .ok (.iconst 4, 1) := by decide +kernel
theorem d_L_breachOf_105 : decode b_L_breachOf 105 = .ok (.imul, 1) := by decide +kernel
theorem d_L_breachOf_106 : decode b_L_breachOf 106 = .ok (.aload_n 0, 1) := by decide +kernel
theorem d_L_breachOf_107 : decode b_L_breachOf 107 = .ok (.getfield 42, 3) := by decide +kernel
theorem d_L_breachOf_110 : decode b_L_breachOf 110 = .ok (.iadd, 1) := by decide +kernel
theorem d_L_breachOf_111 : decode b_L_breachOf 111 = .ok (.putfield 46, 3) := by decide +kernel
theorem d_L_breachOf_114 : decode b_L_breachOf 114 = .ok (.aload_n 0, 1) := by decide +kernel
theorem d_L_breachOf_115 : decode b_L_breachOf 115 = .ok (.getfield 49, 3) := by decide +kernel
theorem d_L_breachOf_118 : decode b_L_breachOf 118 = .ok (.invokevirtual 63, 3) := by decide +kernel
theorem d_L_breachOf_121 : decode b_L_breachOf 121 = .ok (.istore 6, 2) := by decide +kernel
theorem d_L_breachOf_123 : decode b_L_breachOf 123 = .ok (.iload 4, 2) := by decide +kernel
theorem d_L_breachOf_125 : decode b_L_breachOf 125 = .ok (.iconst 2, 1) := by decide +kernel
theorem d_L_breachOf_126 : decode b_L_breachOf 126 = .ok (.if_icmp .eq 15, 3) := by decide +kernel
theorem d_L_breachOf_129 : decode b_L_breachOf 129 = .ok (.iload 4, 2) := by decide +kernel
theorem d_L_breachOf_131 : decode b_L_breachOf 131 = .ok (.iconst 4, 1) := by decide +kernel
theorem d_L_breachOf_132 : decode b_L_breachOf 132 = .ok (.if_icmp .eq 9, 3) := by decide +kernel
theorem d_L_breachOf_135 : decode b_L_breachOf 135 = .ok (.iload 4, 2) := by decide +kernel
theorem d_L_breachOf_137 : decode b_L_breachOf 137 = .ok (.iconst 5, 1) := by decide +kernel
theorem d_L_breachOf_138 : decode b_L_breachOf 138 = .ok (.if_icmp .ne 7, 3) := by decide +kernel
theorem d_L_breachOf_141 : decode b_L_breachOf 141 = .ok (.iconst 0, 1) := by decide +kernel
theorem d_L_breachOf_142 : decode b_L_breachOf 142 = .ok (.goto 4, 3) := by decide +kernel
theorem d_L_breachOf_145 : decode b_L_breachOf 145 = .ok (.iconst (-1), 1) := by decide +kernel
theorem d_L_breachOf_146 : decode b_L_breachOf 146 = .ok (.istore 7, 2) := by decide +kernel
theorem d_L_breachOf_148 : decode b_L_breachOf 148 = .ok (.iload 4, 2) := by decide +kernel
theorem d_L_breachOf_150 : decode b_L_breachOf 150 = .ok (.iconst 2, 1) := by decide +kernel
theorem d_L_breachOf_151 : decode b_L_breachOf 151 = .ok (.if_icmp .ne 8, 3) := by decide +kernel
theorem d_L_breachOf_154 : decode b_L_breachOf 154 = .ok (.bipush 7, 2) := by decide +kernel
theorem d_L_breachOf_156 : decode b_L_breachOf 156 = .ok (.goto 13, 3) := by decide +kernel
theorem d_L_breachOf_159 : decode b_L_breachOf 159 = .ok (.iload 7, 2) := by decide +kernel
theorem d_L_breachOf_161 : decode b_L_breachOf 161 = .ok (.ifCond .ne 7, 3) := by decide +kernel
theorem d_L_breachOf_164 : decode b_L_breachOf 164 = .ok (.iconst 4, 1) := by decide +kernel
theorem d_L_breachOf_165 : decode b_L_breachOf 165 = .ok (.goto 4, 3) := by decide +kernel
theorem d_L_breachOf_168 : decode b_L_breachOf 168 = .ok (.iconst (-1), 1) := by decide +kernel
theorem d_L_breachOf_169 : decode b_L_breachOf 169 = .ok (.istore 8, 2) := by decide +kernel
theorem d_L_breachOf_171 : decode b_L_breachOf 171 = .ok (.iconst 0, 1) := by decide +kernel
theorem d_L_breachOf_172 : decode b_L_breachOf 172 = .ok (.istore 9, 2) := by decide +kernel
theorem d_L_breachOf_174 : decode b_L_breachOf 174 = .ok (.iload 9, 2) := by decide +kernel
theorem d_L_breachOf_176 : decode b_L_breachOf 176 = .ok (.bipush 8, 2) := by decide +kernel
theorem d_L_breachOf_178 : decode b_L_breachOf 178 = .ok (.if_icmp .ge 154, 3) := by decide +kernel
theorem d_L_breachOf_181 : decode b_L_breachOf 181 = .ok (.iconst 0, 1) := by decide +kernel
theorem d_L_breachOf_182 : decode b_L_breachOf 182 = .ok (.istore 10, 2) := by decide +kernel
theorem d_L_breachOf_184 : decode b_L_breachOf 184 = .ok (.iload 10, 2) := by decide +kernel
theorem d_L_breachOf_186 : decode b_L_breachOf 186 = .ok (.bipush 8, 2) := by decide +kernel
theorem d_L_breachOf_188 : decode b_L_breachOf 188 = .ok (.if_icmp .ge 138, 3) := by decide +kernel
theorem d_L_breachOf_191 : decode b_L_breachOf 191 = .ok (.iload 7, 2) := by decide +kernel
theorem d_L_breachOf_193 : decode b_L_breachOf 193 = .ok (.istore 11, 2) := by decide +kernel
theorem d_L_breachOf_195 : decode b_L_breachOf 195 = .ok (.iload 11, 2) := by decide +kernel
theorem d_L_breachOf_197 : decode b_L_breachOf 197 = .ok (.iload 8, 2) := by decide +kernel
theorem d_L_breachOf_199 : decode b_L_breachOf 199 = .ok (.if_icmp .gt 121, 3) := by decide +kernel
theorem d_L_breachOf_202 : decode b_L_breachOf 202 = .ok (.iload 9, 2) := by decide +kernel
theorem d_L_breachOf_204 : decode b_L_breachOf 204 = .ok (.iload 10, 2) := by decide +kernel
theorem d_L_breachOf_206 : decode b_L_breachOf 206 = .ok (.if_icmp .eq 114, 3) := by decide +kernel
theorem d_L_breachOf_209 : decode b_L_breachOf 209 = .ok (.iload 4, 2) := by decide +kernel
theorem d_L_breachOf_211 : decode b_L_breachOf 211 = .ok (.iconst 2, 1) := by decide +kernel
theorem d_L_breachOf_212 : decode b_L_breachOf 212 = .ok (.if_icmp .ne 25, 3) := by decide +kernel
theorem d_L_breachOf_215 : decode b_L_breachOf 215 = .ok (.iload 11, 2) := by decide +kernel
theorem d_L_breachOf_217 : decode b_L_breachOf 217 = .ok (.iload 9, 2) := by decide +kernel
theorem d_L_breachOf_219 : decode b_L_breachOf 219 = .ok (.if_icmp .eq 14, 3) := by decide +kernel
theorem d_L_breachOf_222 : decode b_L_breachOf 222 = .ok (.iload 11, 2) := by decide +kernel
theorem d_L_breachOf_224 : decode b_L_breachOf 224 = .ok (.iload 10, 2) := by decide +kernel
theorem d_L_breachOf_226 : decode b_L_breachOf 226 = .ok (.if_icmp .eq 7, 3) := by decide +kernel
theorem d_L_breachOf_229 : decode b_L_breachOf 229 = .ok (.iconst 1, 1) := by decide +kernel
theorem d_L_breachOf_230 : decode b_L_breachOf 230 = .ok (.goto 29, 3) := by decide +kernel
theorem d_L_breachOf_233 : decode b_L_breachOf 233 = .ok (.iconst 0, 1) := by decide +kernel
theorem d_L_breachOf_234 : decode b_L_breachOf 234 = .ok (.goto 25, 3) := by decide +kernel
theorem d_L_breachOf_237 : decode b_L_breachOf 237 = .ok (.iload 11, 2) := by decide +kernel
theorem d_L_breachOf_239 : decode b_L_breachOf 239 = .ok (.iconst (-1), 1) := by decide +kernel
theorem d_L_breachOf_240 : decode b_L_breachOf 240 = .ok (.if_icmp .eq 14, 3) := by decide +kernel
theorem d_L_breachOf_243 : decode b_L_breachOf 243 = .ok (.iload 6, 2) := by decide +kernel
theorem d_L_breachOf_245 : decode b_L_breachOf 245 = .ok (.iload 11, 2) := by decide +kernel
theorem d_L_breachOf_247 : decode b_L_breachOf 247 = .ok (.ishr, 1) := by decide +kernel
theorem d_L_breachOf_248 : decode b_L_breachOf 248 = .ok (.iconst 1, 1) := by decide +kernel
theorem d_L_breachOf_249 : decode b_L_breachOf 249 = .ok (.iand, 1) := by decide +kernel
theorem d_L_breachOf_250 : decode b_L_breachOf 250 = .ok (.iconst 1, 1) := by decide +kernel
theorem d_L_breachOf_251 : decode b_L_breachOf 251 = .ok (.if_icmp .ne 7, 3) := by decide +kernel
theorem d_L_breachOf_254 : decode b_L_breachOf 254 = .ok (.iconst 1, 1) := by decide +kernel
theorem d_L_breachOf_255 : decode b_L_breachOf 255 = .ok (.goto 4, 3) := by decide +kernel
theorem d_L_breachOf_258 : decode b_L_breachOf 258 = .ok (.iconst 0, 1) := by decide +kernel
theorem d_L_breachOf_259 : decode b_L_breachOf 259 = .ok (.istore 12, 2) := by decide +kernel
theorem d_L_breachOf_261 : decode b_L_breachOf 261 = .ok (.iload 12, 2) := by decide +kernel
theorem d_L_breachOf_263 : decode b_L_breachOf 263 = .ok (.ifCond .eq 51, 3) := by decide +kernel
theorem d_L_breachOf_266 : decode b_L_breachOf 266 = .ok (.aload_n 0, 1) := by decide +kernel
theorem d_L_breachOf_267 : decode b_L_breachOf 267 = .ok (.iload 4, 2) := by decide +kernel
theorem d_L_breachOf_269 : decode b_L_breachOf 269 = .ok (.iload 9, 2) := by decide +kernel
theorem d_L_breachOf_271 : decode b_L_breachOf 271 = .ok (.iload 10, 2) := by decide +kernel
theorem d_L_breachOf_273 : decode b_L_breachOf 273 = .ok (.iload 11, 2) := by decide +kernel
theorem d_L_breachOf_275 : decode b_L_breachOf 275 = .ok (.invokevirtual 69, 3) := by decide +kernel
theorem d_L_breachOf_278 : decode b_L_breachOf 278 = .ok (.ifCond .eq 36, 3) := by decide +kernel
theorem d_L_breachOf_281 : decode b_L_breachOf 281 = .ok (.aload_n 0, 1) := by decide +kernel
theorem d_L_breachOf_282 : decode b_L_breachOf 282 = .ok (.getfield 22, 3) := by decide +kernel
theorem d_L_breachOf_285 : decode b_L_breachOf 285 = .ok (.iload 5, 2) := by decide +kernel
theorem d_L_breachOf_287 : decode b_L_breachOf 287 = .ok (.iconst 2, 1) := by decide +kernel
theorem d_L_breachOf_288 : decode b_L_breachOf 288 = .ok (.iload 9, 2) := by decide +kernel
theorem d_L_breachOf_290 : decode b_L_breachOf 290 = .ok (.bipush 8, 2) := by decide +kernel
theorem d_L_breachOf_292 : decode b_L_breachOf 292 = .ok (.imul, 1) := by decide +kernel
theorem d_L_breachOf_293 : decode b_L_breachOf 293 = .ok (.iload 10, 2) := by decide +kernel
theorem d_L_breachOf_295 : decode b_L_breachOf 295 = .ok (.iadd, 1) := by decide +kernel
theorem d_L_breachOf_296 : decode b_L_breachOf 296 = .ok (.bipush 9, 2) := by decide +kernel
theorem d_L_breachOf_298 : decode b_L_breachOf 298 = .ok (.imul, 1) := by decide +kernel
theorem d_L_breachOf_299 : decode b_L_breachOf 299 = .ok (.iadd, 1) := by decide +kernel
theorem d_L_breachOf_300 : decode b_L_breachOf 300 = .ok (.iload 11, 2) := by decide +kernel
theorem d_L_breachOf_302 : decode b_L_breachOf 302 = .ok (.iadd, 1) := by decide +kernel
theorem d_L_breachOf_303 : decode b_L_breachOf 303 = .ok (.iconst 1, 1) := by decide +kernel
theorem d_L_breachOf_304 : decode b_L_breachOf 304 = .ok (.iadd, 1) := by decide +kernel
theorem d_L_breachOf_305 : decode b_L_breachOf 305 = .ok (.iastore, 1) := by decide +kernel
theorem d_L_breachOf_306 : decode b_L_breachOf 306 = .ok (.aload_n 0, 1) := by decide +kernel
theorem d_L_breachOf_307 : decode b_L_breachOf 307 = .ok (.getfield 22, 3) := by decide +kernel
theorem d_L_breachOf_310 : decode b_L_breachOf 310 = .ok (.iload 5, 2) := by decide +kernel
theorem d_L_breachOf_312 : decode b_L_breachOf 312 = .ok (.iaload, 1) := by decide +kernel
theorem d_L_breachOf_313 : decode b_L_breachOf 313 = .ok (.ireturn, 1) := by decide +kernel
theorem d_L_breachOf_314 : decode b_L_breachOf 314 = .ok (.iinc 11 1, 3) := by decide +kernel
theorem d_L_breachOf_317 : decode b_L_breachOf 317 = .ok (.goto (-122), 3) := by decide +kernel
theorem d_L_breachOf_320 : decode b_L_breachOf 320 = .ok (.iinc 10 1, 3) := by decide +kernel
theorem d_L_breachOf_323 : decode b_L_breachOf 323 = .ok (.goto (-139), 3) := by decide +kernel
theorem d_L_breachOf_326 : decode b_L_breachOf 326 = .ok (.iinc 9 1, 3) := by decide +kernel
theorem d_L_breachOf_329 : decode b_L_breachOf 329 = .ok (.goto (-155), 3) := by decide +kernel
theorem d_L_breachOf_332 : decode b_L_breachOf 332 = .ok (.aload_n 0, 1) := by decide +kernel
theorem d_L_breachOf_333 : decode b_L_breachOf 333 = .ok (.getfield 22, 3) := by decide +kernel
theorem d_L_breachOf_336 : decode b_L_breachOf 336 = .ok (.iload 5, 2) := by decide +kernel
theorem d_L_breachOf_338 : decode b_L_breachOf 338 = .ok (.iconst 1, 1) := by decide +kernel
theorem d_L_breachOf_339 : decode b_L_breachOf 339 = .ok (.iastore, 1) := by decide +kernel
theorem d_L_breachOf_340 : decode b_L_breachOf 340 = .ok (.iconst 1, 1) := by decide +kernel
theorem d_L_breachOf_341 : decode b_L_breachOf 341 = .ok (.ireturn, 1) := by decide +kernel
theorem d_L_setKept_0 : decode b_L_setKept 0 = .ok (.iload_n 1, 1) := by decide +kernel
theorem d_L_setKept_1 : decode b_L_setKept 1 = .ok (.ifCond .lt 19, 3) := by decide +kernel
theorem d_L_setKept_4 : decode b_L_setKept 4 = .ok (.iload_n 1, 1) := by decide +kernel
theorem d_L_setKept_5 : decode b_L_setKept 5 = .ok (.aload_n 0, 1) := by decide +kernel
theorem d_L_setKept_6 : decode b_L_setKept 6 = .ok (.getfield 25, 3) := by decide +kernel
theorem d_L_setKept_9 : decode b_L_setKept 9 = .ok (.arraylength, 1) := by decide +kernel
theorem d_L_setKept_10 : decode b_L_setKept 10 = .ok (.if_icmp .ge 10, 3) := by decide +kernel
theorem d_L_setKept_13 : decode b_L_setKept 13 = .ok (.aload_n 0, 1) := by decide +kernel
theorem d_L_setKept_14 : decode b_L_setKept 14 = .ok (.getfield 25, 3) := by decide +kernel
theorem d_L_setKept_17 : decode b_L_setKept 17 = .ok (.iload_n 1, 1) := by decide +kernel
theorem d_L_setKept_18 : decode b_L_setKept 18 = .ok (.iload_n 2, 1) := by decide +kernel
theorem d_L_setKept_19 : decode b_L_setKept 19 = .ok (.iastore, 1) := by decide +kernel
theorem d_L_setKept_20 : decode b_L_setKept 20 = .ok (.return_, 1) := by decide +kernel
theorem d_L_isKeptByOne_0 : decode b_L_isKeptByOne 0 = .ok (.iconst 0, 1) := by decide +kernel
theorem d_L_isKeptByOne_1 : decode b_L_isKeptByOne 1 = .ok (.istore_n 3, 1) := by decide +kernel
theorem d_L_isKeptByOne_2 : decode b_L_isKeptByOne 2 = .ok (.iload_n 3, 1) := by decide +kernel
theorem d_L_isKeptByOne_3 : decode b_L_isKeptByOne 3 = .ok (.iload_n 2, 1) := by decide +kernel
theorem d_L_isKeptByOne_4 : decode b_L_isKeptByOne 4 = .ok (.if_icmp .ge 33, 3) := by decide +kernel
theorem d_L_isKeptByOne_7 : decode b_L_isKeptByOne 7 = .ok (.iload_n 3, 1) := by decide +kernel
theorem d_L_isKeptByOne_8 : decode b_L_isKeptByOne 8 = .ok (.aload_n 0, 1) := by decide +kernel
theorem d_L_isKeptByOne_9 : decode b_L_isKeptByOne 9 = .ok (.getfield 25, 3) := by decide +kernel
theorem d_L_isKeptByOne_12 : decode b_L_isKeptByOne 12 = .ok (.arraylength, 1) := by decide +kernel
theorem d_L_isKeptByOne_13 : decode b_L_isKeptByOne 13 = .ok (.if_icmp .ge 24, 3) := by decide +kernel
theorem d_L_isKeptByOne_16 : decode b_L_isKeptByOne 16 = .ok (.iload_n 1, 1) := by decide +kernel
theorem d_L_isKeptByOne_17 : decode b_L_isKeptByOne 17 = .ok (.aload_n 0, 1) := by decide +kernel
theorem d_L_isKeptByOne_18 : decode b_L_isKeptByOne 18 = .ok (.getfield 25, 3) := by decide +kernel
theorem d_L_isKeptByOne_21 : decode b_L_isKeptByOne 21 = .ok (.iload_n 3, 1) := by decide +kernel
theorem d_L_isKeptByOne_22 : decode b_L_isKeptByOne 22 = .ok (.iaload, 1) := by decide +kernel
theorem d_L_isKeptByOne_23 : decode b_L_isKeptByOne 23 = .ok (.iconst (-1), 1) := by decide +kernel
theorem d_L_isKeptByOne_24 : decode b_L_isKeptByOne 24 = .ok (.ixor, 1) := by decide +kernel
theorem d_L_isKeptByOne_25 : decode b_L_isKeptByOne 25 = .ok (.iand, 1) := by decide +kernel
theorem d_L_isKeptByOne_26 : decode b_L_isKeptByOne 26 = .ok (.ifCond .ne 5, 3) := by decide +kernel
theorem d_L_isKeptByOne_29 : decode b_L_isKeptByOne 29 = .ok (.iconst 1, 1) := by decide +kernel
theorem d_L_isKeptByOne_30 : decode b_L_isKeptByOne 30 = .ok (.ireturn, 1) := by decide +kernel
theorem d_L_isKeptByOne_31 : decode b_L_isKeptByOne 31 = .ok (.iinc 3 1, 3) := by decide +kernel
theorem d_L_isKeptByOne_34 : decode b_L_isKeptByOne 34 = .ok (.goto (-32), 3) := by decide +kernel
theorem d_L_isKeptByOne_37 : decode b_L_isKeptByOne 37 = .ok (.iconst 0, 1) := by decide +kernel
theorem d_L_isKeptByOne_38 : decode b_L_isKeptByOne 38 = .ok (.ireturn, 1) := by decide +kernel
theorem d_L_leastKeptByNone_0 : decode b_L_leastKeptByNone 0 = .ok (.iconst 0, 1) := by decide +kernel
theorem d_L_leastKeptByNone_1 : decode b_L_leastKeptByNone 1 = .ok (.istore_n 2, 1) := by decide +kernel
theorem d_L_leastKeptByNone_2 : decode b_L_leastKeptByNone 2 = .ok (.iload_n 2, 1) := by decide +kernel
theorem d_L_leastKeptByNone_3 : decode b_L_leastKeptByNone 3 = .ok (.bipush 7, 2) := by decide +kernel
theorem d_L_leastKeptByNone_5 : decode b_L_leastKeptByNone 5 = .ok (.if_icmp .gt 43, 3) := by decide +kernel
theorem d_L_leastKeptByNone_8 : decode b_L_leastKeptByNone 8 = .ok (.iconst 0, 1) := by decide +kernel
theorem d_L_leastKeptByNone_9 : decode b_L_leastKeptByNone 9 = .ok (.istore_n 3, 1) := by decide +kernel
theorem d_L_leastKeptByNone_10 : decode b_L_leastKeptByNone 10 = .ok (.iload_n 3, 1) := by decide +kernel
theorem d_L_leastKeptByNone_11 : decode b_L_leastKeptByNone 11 = .ok (.sipush 128, 3) := by decide +kernel
theorem d_L_leastKeptByNone_14 : decode b_L_leastKeptByNone 14 = .ok (.if_icmp .ge 28, 3) := by decide +kernel
theorem d_L_leastKeptByNone_17 : decode b_L_leastKeptByNone 17 = .ok (.iload_n 3, 1) := by decide +kernel
theorem d_L_leastKeptByNone_18 : decode b_L_leastKeptByNone 18 = .ok (.invokestatic 159, 3) := by decide +kernel
theorem d_L_leastKeptByNone_21 : decode b_L_leastKeptByNone 21 = .ok (.iload_n 2, 1) := by decide +kernel
theorem d_L_leastKeptByNone_22 : decode b_L_leastKeptByNone 22 = .ok (.if_icmp .ne 14, 3) := by decide +kernel
theorem d_L_leastKeptByNone_25 : decode b_L_leastKeptByNone 25 = .ok (.aload_n 0, 1) := by decide +kernel
theorem d_L_leastKeptByNone_26 : decode b_L_leastKeptByNone 26 = .ok (.iload_n 3, 1) := by decide +kernel
theorem d_L_leastKeptByNone_27 : decode b_L_leastKeptByNone 27 = .ok (.iload_n 1, 1) := by decide +kernel
theorem d_L_leastKeptByNone_28 : decode b_L_leastKeptByNone 28 = .ok (.invokevirtual 163, 3) := by decide +kernel
theorem d_L_leastKeptByNone_31 : decode b_L_leastKeptByNone 31 = .ok (.ifCond .ne 5, 3) := by decide +kernel
theorem d_L_leastKeptByNone_34 : decode b_L_leastKeptByNone 34 = .ok (.iload_n 3, 1) := by decide +kernel
theorem d_L_leastKeptByNone_35 : decode b_L_leastKeptByNone 35 = .ok (.ireturn, 1) := by decide +kernel
theorem d_L_leastKeptByNone_36 : decode b_L_leastKeptByNone 36 = .ok (.iinc 3 1, 3) := by decide +kernel
theorem d_L_leastKeptByNone_39 : decode b_L_leastKeptByNone 39 = .ok (.goto (-29), 3) := by decide +kernel
theorem d_L_leastKeptByNone_42 : decode b_L_leastKeptByNone 42 = .ok (.iinc 2 1, 3) := by decide +kernel
theorem d_L_leastKeptByNone_45 : decode b_L_leastKeptByNone 45 = .ok (.goto (-43), 3) := by decide +kernel
theorem d_L_leastKeptByNone_48 : decode b_L_leastKeptByNone 48 = .ok (.iconst (-1), 1) := by decide +kernel
theorem d_L_leastKeptByNone_49 : decode b_L_leastKeptByNone 49 = .ok (.ireturn, 1) := by decide +kernel
def t_L_forget_2 (this : Nat) (k2 : Int32 → Hp → Option (Hp)) (x1 : Int32) (h : Hp) : Option (Hp) :=
  (gA h this 2 6).bind fun r1 =>
  (r1).bind fun a3 =>
  (aN h a3).bind fun i6 =>
  if i6 ≤ x1 then
    (pV h this 2 12 (.int (-1 : Int32))).bind fun h7 =>
    some h7
  else
  (gA h this 2 6).bind fun r9 =>
  (r9).bind fun a11 =>
  (sI h a11 x1 (0 : Int32)).bind fun h14 =>
  k2 (x1 + (1 : Int32)) h14
set_option maxRecDepth 100000 in
set_option maxHeartbeats 4000000 in
theorem v_L_forget_2 {p : Program} {l : Launch} {e : Env} {s : State} {m : MethodId} {args : Array Value} {below : List Frame} {meth : Method} {c : Code} {N0 : Nat} {D : va_G} {cs : Nat → ClassId} (M : ZC p s m args meth c "YearBaskets$Laws" "forget" b_L_forget 2 (none) N0 D cs) (this : Nat) (k2 : Int32 → Hp → Option (Hp)) {h0 : Hp} (hk2 : ∀ (x1 : Int32) (h : Hp), k2 x1 h = some h0 → ZG p l e (zrm 1 0 0) s m args below meth c N0 D cs none h0 h 2 [(0, .ref this), (1, .int x1)] 2 []) (x1 : Int32) (h : Hp) (hf : t_L_forget_2 this k2 x1 h = some h0) : ZG p l e (zrm 1 0 0) s m args below meth c N0 D cs none h0 h 2 [(0, .ref this), (1, .int x1)] 2 [] := by
  intro H locs ls hH hS hl
  unfold t_L_forget_2 at hf
  refine lv_iload_n M.x M.b d_L_forget_2 rfl (lv_at hl 1 rfl) ?_
  refine lv_aload_n M.x M.b d_L_forget_3 rfl (lv_at hl 0 rfl) ?_
  replace hf := z_bind hf; obtain ⟨r1, e2, hf⟩ := hf
  refine z_get (ci := 2) (k := 6) M hH rfl (by decide) zinL q_235 (gA_spec e2) d_L_forget_4 ?_
  rcases r1 with _ | a3
  · exact absurd hf z_nb0
  replace hf := z_sb hf
  replace hf := z_bind hf; obtain ⟨i6, e5, hf⟩ := hf
  refine z_alen M hH e5 d_L_forget_7 ?_
  refine lv_icmp_ge (tgt := 24) M.x M.b d_L_forget_8 (by decide) (fun c15 => ?_) (fun c15 => ?_)
  · replace hf := z_t c15 hf
    refine lv_aload_n M.x M.b d_L_forget_24 rfl (lv_at hl 0 rfl) ?_
    refine lv_iconst (v := (-1 : Int32)) M.x M.b d_L_forget_25 rfl ?_
    replace hf := z_bind hf; obtain ⟨h7, e8, hf⟩ := hf
    refine z_put (ci := 2) (k := 12) M hH hS rfl (by decide) zinL zYL zYL_ok zNL_ok rfl q_234 rfl rfl rfl e8 d_L_forget_26 (fun H locs hH hS => ?_)
    obtain rfl := z_r1 hf
    exact z_vret M hH hS d_L_forget_29
  · replace hf := z_f c15 hf
    refine lv_aload_n M.x M.b d_L_forget_11 rfl (lv_at hl 0 rfl) ?_
    replace hf := z_bind hf; obtain ⟨r9, e10, hf⟩ := hf
    refine z_get (ci := 2) (k := 6) M hH rfl (by decide) zinL q_235 (gA_spec e10) d_L_forget_12 ?_
    refine lv_iload_n M.x M.b d_L_forget_15 rfl (lv_at hl 1 rfl) ?_
    refine lv_iconst (v := (0 : Int32)) M.x M.b d_L_forget_16 rfl ?_
    rcases r9 with _ | a11
    · exact absurd hf z_nb0
    replace hf := z_sb hf
    replace hf := z_bind hf; obtain ⟨h14, e13, hf⟩ := hf
    refine z_iast M hH hS e13 d_L_forget_17 (fun H locs hH hS => ?_)
    refine lv_iinc (v := (x1 + (1 : Int32))) (lv' := [(1, .int (x1 + (1 : Int32))), (0, .ref this)]) M.x M.b d_L_forget_18 hl (k := 1) rfl rfl (by decide) rfl (fun ls hl => ?_)
    refine lv_goto (tgt := 2) M.x M.b d_L_forget_21 (by decide) ?_
    exact hk2 _ _ hf H locs ls hH hS (lv_sub hl [1, 0] rfl)
def f_L_forget_2 (this : Nat) : Nat → Int32 → Hp → Option (Hp)
  | 0, _, _ => none
  | n + 1, x1, h => t_L_forget_2 this (f_L_forget_2 this n) x1 h
theorem w_L_forget_2 {p : Program} {l : Launch} {e : Env} {s : State} {m : MethodId} {args : Array Value} {below : List Frame} {meth : Method} {c : Code} {N0 : Nat} {D : va_G} {cs : Nat → ClassId} (M : ZC p s m args meth c "YearBaskets$Laws" "forget" b_L_forget 2 (none) N0 D cs) (this : Nat)  {h0 : Hp}  : ∀ (n : Nat) (x1 : Int32) (h : Hp), f_L_forget_2 this n x1 h = some h0 → ZG p l e (zrm 1 0 0) s m args below meth c N0 D cs none h0 h 2 [(0, .ref this), (1, .int x1)] 2 [] := by
  intro n
  induction n with
  | zero => intro x1 h hf; exact absurd (show none = some _ from hf) (fun q => by cases q)
  | succ n ih => intro x1 h hf; exact v_L_forget_2 M this (f_L_forget_2 this n)  ih _ _ hf
def f_L_forget (this : Nat) (h : Hp) : Option (Hp) :=
  if isO h this 2 = true then
  f_L_forget_2 this FU (0 : Int32) h
  else none
theorem o_L_forget {this : Nat} {h : Hp} {h0 : Hp} (hf : f_L_forget this h = some h0) : isO h this 2 = true := by
  unfold f_L_forget at hf
  exact (z_gd hf).1
set_option maxRecDepth 100000 in
set_option maxHeartbeats 4000000 in
theorem c_L_forget {l : Launch} {N0 : Nat} {D : va_G} {cs : Nat → ClassId} {this : Nat} {h : Hp} {h0 : Hp} (hf : f_L_forget this h = some h0) : Fn l N0 D cs y_L_forget b_L_forget 2 (none) 1 0 0 [.ref this] h none h0 := by
  refine z_start (by decide) (Nat.le_of_ble_eq_true rfl) ?_
  intro p e s m args below meth c M hH hS ls hl
  unfold f_L_forget at hf
  obtain ⟨hO, hf⟩ := z_gd hf
  have hl : lv_has ls 2 [(0, .ref this)] := hl
  obtain ⟨H, hHe⟩ : ∃ H, H = s.heap := ⟨_, rfl⟩
  obtain ⟨locs, hLe⟩ : ∃ locs : List Loc, locs = [] := ⟨_, rfl⟩
  have hS : va_S (zA N0) s.heap H locs := by rw [hHe, hLe]; exact hS
  have hH : HH N0 D cs h H := by rw [hHe]; exact hH
  suffices hg : W p l e (zrm 1 0 0) s m args below meth c H locs 0 0 (MQ below (zQ N0 D cs none h0) args s 0 0 (zA N0)) (F0 m 0 ls []) by rw [hHe, hLe] at hg; exact hg
  clear hHe hLe
  refine lv_iconst (v := (0 : Int32)) M.x M.b d_L_forget_0 rfl ?_
  refine lv_istore_n (lv' := [(1, .int (0 : Int32)), (0, .ref this)]) M.x M.b d_L_forget_1 rfl hl (by decide) rfl (fun ls hl => ?_)
  exact w_L_forget_2 M this FU _ _ hf H locs ls hH hS (lv_sub hl [1, 0] rfl)
def f_L_partOfBreach (x0 : Int32) (x1 : Int32) : Option (Int32) :=
  if x1 = 0 then
    some ((x0 - (2 : Int32)) / (72 : Int32))
  else
  if x1 = (1 : Int32) then
    some (((x0 - (2 : Int32)) / (9 : Int32)) - ((x0 - (2 : Int32)) / (9 : Int32)) / (8 : Int32) * (8 : Int32))
  else
  some (((x0 - (2 : Int32)) - (x0 - (2 : Int32)) / (9 : Int32) * (9 : Int32)) - (1 : Int32))
set_option maxRecDepth 100000 in
set_option maxHeartbeats 4000000 in
theorem c_L_partOfBreach {l : Launch} {N0 : Nat} {D : va_G} {cs : Nat → ClassId} {x0 : Int32} {x1 : Int32} {r0 : Int32} {h : Hp} (hf : f_L_partOfBreach x0 x1 = some r0) : Fn l N0 D cs y_L_partOfBreach b_L_partOfBreach 3 (some .int) 1 0 0 [.int x0, .int x1] h (some (.int r0)) h := by
  refine z_start (by decide) (Nat.le_of_ble_eq_true rfl) ?_
  intro p e s m args below meth c M hH hS ls hl
  unfold f_L_partOfBreach at hf
  have hl : lv_has ls 3 [(0, .int x0), (1, .int x1)] := hl
  obtain ⟨H, hHe⟩ : ∃ H, H = s.heap := ⟨_, rfl⟩
  obtain ⟨locs, hLe⟩ : ∃ locs : List Loc, locs = [] := ⟨_, rfl⟩
  have hS : va_S (zA N0) s.heap H locs := by rw [hHe, hLe]; exact hS
  have hH : HH N0 D cs h H := by rw [hHe]; exact hH
  suffices hg : W p l e (zrm 1 0 0) s m args below meth c H locs 0 0 (MQ below (zQ N0 D cs (some (.int r0)) h) args s 0 0 (zA N0)) (F0 m 0 ls []) by rw [hHe, hLe] at hg; exact hg
  clear hHe hLe
  refine lv_iload_n M.x M.b d_L_partOfBreach_0 rfl (lv_at hl 0 rfl) ?_
  refine lv_iconst (v := (2 : Int32)) M.x M.b d_L_partOfBreach_1 rfl ?_
  refine lv_isub M.x M.b d_L_partOfBreach_2 ?_
  refine lv_istore_n (lv' := [(2, .int (x0 - (2 : Int32))), (0, .int x0), (1, .int x1)]) M.x M.b d_L_partOfBreach_3 rfl hl (by decide) rfl (fun ls hl => ?_)
  refine lv_iload_n M.x M.b d_L_partOfBreach_4 rfl (lv_at hl 2 rfl) ?_
  refine lv_if_ne (tgt := 13) M.x M.b d_L_partOfBreach_5 (by decide) (fun c2 => ?_) (fun c2 => ?_)
  · replace hf := z_f c2 hf
    refine lv_iload_n M.x M.b d_L_partOfBreach_13 rfl (lv_at hl 2 rfl) ?_
    refine lv_iconst (v := (1 : Int32)) M.x M.b d_L_partOfBreach_14 rfl ?_
    refine lv_icmp_ne (tgt := 28) M.x M.b d_L_partOfBreach_15 (by decide) (fun c1 => ?_) (fun c1 => ?_)
    · replace hf := z_f c1 hf
      refine lv_iload_n M.x M.b d_L_partOfBreach_28 rfl (lv_at hl 0 rfl) ?_
      refine lv_bipush (v := (9 : Int32)) M.x M.b d_L_partOfBreach_29 rfl ?_
      refine lv_irem M.x M.b d_L_partOfBreach_31 (by decide) ?_
      refine lv_iconst (v := (1 : Int32)) M.x M.b d_L_partOfBreach_32 rfl ?_
      refine lv_isub M.x M.b d_L_partOfBreach_33 ?_
      obtain rfl := z_r1 hf
      exact z_iret M hH hS d_L_partOfBreach_34
    · replace hf := z_t c1 hf
      refine lv_iload_n M.x M.b d_L_partOfBreach_18 rfl (lv_at hl 0 rfl) ?_
      refine lv_bipush (v := (9 : Int32)) M.x M.b d_L_partOfBreach_19 rfl ?_
      refine lv_idiv M.x M.b d_L_partOfBreach_21 (by decide) ?_
      refine lv_bipush (v := (8 : Int32)) M.x M.b d_L_partOfBreach_22 rfl ?_
      refine lv_irem M.x M.b d_L_partOfBreach_24 (by decide) ?_
      refine lv_goto (tgt := 34) M.x M.b d_L_partOfBreach_25 (by decide) ?_
      obtain rfl := z_r1 hf
      exact z_iret M hH hS d_L_partOfBreach_34
  · replace hf := z_t c2 hf
    refine lv_iload_n M.x M.b d_L_partOfBreach_8 rfl (lv_at hl 0 rfl) ?_
    refine lv_bipush (v := (72 : Int32)) M.x M.b d_L_partOfBreach_9 rfl ?_
    refine lv_idiv M.x M.b d_L_partOfBreach_11 (by decide) ?_
    obtain rfl := z_r1 hf
    exact z_iret M hH hS d_L_partOfBreach_12
def f_L_tellAllYears_126 (this : Nat) (k2 : Int32 → Hp → Option (Hp)) (s0 : Nat) (s1 : Int32) (s2 : Int32) (x1 : Int32) (h : Hp) : Option (Hp) :=
  (sI h s0 s1 s2).bind fun h2 =>
  k2 (x1 + (1 : Int32)) h2
set_option maxRecDepth 100000 in
set_option maxHeartbeats 4000000 in
theorem w_L_tellAllYears_126 {p : Program} {l : Launch} {e : Env} {s : State} {m : MethodId} {args : Array Value} {below : List Frame} {meth : Method} {c : Code} {N0 : Nat} {D : va_G} {cs : Nat → ClassId} (M : ZC p s m args meth c "YearBaskets$Laws" "tellAllYears" b_L_tellAllYears 2 (none) N0 D cs) (this : Nat) (k2 : Int32 → Hp → Option (Hp)) {h0 : Hp} (hk2 : ∀ (x1 : Int32) (h : Hp), k2 x1 h = some h0 → ZG p l e (zrm 34 0 0) s m args below meth c N0 D cs none h0 h 2 [(0, .ref this), (1, .int x1)] 2 []) (s0 : Nat) (s1 : Int32) (s2 : Int32) (x1 : Int32) (h : Hp) (hf : f_L_tellAllYears_126 this k2 s0 s1 s2 x1 h = some h0) : ZG p l e (zrm 34 0 0) s m args below meth c N0 D cs none h0 h 2 [(0, .ref this), (1, .int x1)] 126 [.int s2, .int s1, .ref s0] := by
  intro H locs ls hH hS hl
  unfold f_L_tellAllYears_126 at hf
  replace hf := z_bind hf; obtain ⟨h2, e1, hf⟩ := hf
  refine z_iast M hH hS e1 d_L_tellAllYears_126 (fun H locs hH hS => ?_)
  refine lv_iinc (v := (x1 + (1 : Int32))) (lv' := [(1, .int (x1 + (1 : Int32))), (0, .ref this)]) M.x M.b d_L_tellAllYears_127 hl (k := 1) rfl rfl (by decide) rfl (fun ls hl => ?_)
  refine lv_goto (tgt := 2) M.x M.b d_L_tellAllYears_130 (by decide) ?_
  exact hk2 _ _ hf H locs ls hH hS (lv_sub hl [1, 0] rfl)
def t_L_tellAllYears_2 (this : Nat) (k2 : Int32 → Hp → Option (Hp)) (x1 : Int32) (h : Hp) : Option (Hp) :=
  (gA h this 2 5).bind fun r3 =>
  (r3).bind fun a5 =>
  (aN h a5).bind fun i8 =>
  if i8 ≤ x1 then
    some h
  else
  (gA h this 2 3).bind fun r9 =>
  (r9).bind fun a11 =>
  (aN h a11).bind fun i14 =>
  if i14 ≤ x1 then
    some h
  else
  (gA h this 2 4).bind fun r15 =>
  (r15).bind fun a17 =>
  (aN h a17).bind fun i20 =>
  if i20 ≤ x1 then
    some h
  else
  (gA h this 2 2).bind fun r21 =>
  (gA h this 2 10).bind fun r23 =>
  (gA h this 2 0).bind fun r25 =>
  (gI h this 2 11).bind fun i27 =>
  (gA h this 2 8).bind fun r29 =>
  (r23).bind fun a31 =>
  (r25).bind fun a33 =>
  (r29).bind fun a35 =>
  (r21).bind fun a37 =>
  (f_T_tell a37 a31 a33 i27 (x1 / (8 : Int32)) (x1 - x1 / (8 : Int32) * (8 : Int32)) a35 h).bind fun h40 =>
  (gA h40 this 2 3).bind fun r41 =>
  (gA h40 this 2 8).bind fun r43 =>
  (r43).bind fun a45 =>
  (gL h40 a45 1 0).bind fun l47 =>
  (r41).bind fun a49 =>
  (sL h40 a49 x1 l47).bind fun h52 =>
  (gA h52 this 2 4).bind fun r53 =>
  (gA h52 this 2 8).bind fun r55 =>
  (r55).bind fun a57 =>
  (gL h52 a57 1 1).bind fun l59 =>
  (r53).bind fun a61 =>
  (sL h52 a61 x1 l59).bind fun h64 =>
  (gA h64 this 2 5).bind fun r65 =>
  (gA h64 this 2 8).bind fun r67 =>
  (r67).bind fun a69 =>
  (gI h64 a69 1 3).bind fun i71 =>
  if i71 = 0 then
    (gA h64 this 2 8).bind fun r73 =>
    (r73).bind fun a75 =>
    (gI h64 a75 1 2).bind fun i77 =>
    if i77 = 0 then
      (r65).bind fun a79 =>
      f_L_tellAllYears_126 this k2 a79 x1 (0 : Int32) x1 h64
    else
    (r65).bind fun a81 =>
    f_L_tellAllYears_126 this k2 a81 x1 (1 : Int32) x1 h64
  else
  (gA h64 this 2 8).bind fun r84 =>
  (r84).bind fun a86 =>
  (gI h64 a86 1 3).bind fun i88 =>
  (r65).bind fun a90 =>
  f_L_tellAllYears_126 this k2 a90 x1 i88 x1 h64
set_option maxRecDepth 100000 in
set_option maxHeartbeats 4000000 in
theorem v_L_tellAllYears_2 {p : Program} {l : Launch} {e : Env} {s : State} {m : MethodId} {args : Array Value} {below : List Frame} {meth : Method} {c : Code} {N0 : Nat} {D : va_G} {cs : Nat → ClassId} (M : ZC p s m args meth c "YearBaskets$Laws" "tellAllYears" b_L_tellAllYears 2 (none) N0 D cs) (this : Nat) (k2 : Int32 → Hp → Option (Hp)) {h0 : Hp} (hk2 : ∀ (x1 : Int32) (h : Hp), k2 x1 h = some h0 → ZG p l e (zrm 34 0 0) s m args below meth c N0 D cs none h0 h 2 [(0, .ref this), (1, .int x1)] 2 []) (x1 : Int32) (h : Hp) (hf : t_L_tellAllYears_2 this k2 x1 h = some h0) : ZG p l e (zrm 34 0 0) s m args below meth c N0 D cs none h0 h 2 [(0, .ref this), (1, .int x1)] 2 [] := by
  intro H locs ls hH hS hl
  unfold t_L_tellAllYears_2 at hf
  refine lv_iload_n M.x M.b d_L_tellAllYears_2 rfl (lv_at hl 1 rfl) ?_
  refine lv_aload_n M.x M.b d_L_tellAllYears_3 rfl (lv_at hl 0 rfl) ?_
  replace hf := z_bind hf; obtain ⟨r3, e4, hf⟩ := hf
  refine z_get (ci := 2) (k := 5) M hH rfl (by decide) zinL q_244 (gA_spec e4) d_L_tellAllYears_4 ?_
  rcases r3 with _ | a5
  · exact absurd hf z_nb0
  replace hf := z_sb hf
  replace hf := z_bind hf; obtain ⟨i8, e7, hf⟩ := hf
  refine z_alen M hH e7 d_L_tellAllYears_7 ?_
  refine lv_icmp_ge (tgt := 133) M.x M.b d_L_tellAllYears_8 (by decide) (fun c95 => ?_) (fun c95 => ?_)
  · replace hf := z_t c95 hf
    obtain rfl := z_r1 hf
    exact z_vret M hH hS d_L_tellAllYears_133
  · replace hf := z_f c95 hf
    refine lv_iload_n M.x M.b d_L_tellAllYears_11 rfl (lv_at hl 1 rfl) ?_
    refine lv_aload_n M.x M.b d_L_tellAllYears_12 rfl (lv_at hl 0 rfl) ?_
    replace hf := z_bind hf; obtain ⟨r9, e10, hf⟩ := hf
    refine z_get (ci := 2) (k := 3) M hH rfl (by decide) zinL q_248 (gA_spec e10) d_L_tellAllYears_13 ?_
    rcases r9 with _ | a11
    · exact absurd hf z_nb0
    replace hf := z_sb hf
    replace hf := z_bind hf; obtain ⟨i14, e13, hf⟩ := hf
    refine z_alen M hH e13 d_L_tellAllYears_16 ?_
    refine lv_icmp_ge (tgt := 133) M.x M.b d_L_tellAllYears_17 (by decide) (fun c94 => ?_) (fun c94 => ?_)
    · replace hf := z_t c94 hf
      obtain rfl := z_r1 hf
      exact z_vret M hH hS d_L_tellAllYears_133
    · replace hf := z_f c94 hf
      refine lv_iload_n M.x M.b d_L_tellAllYears_20 rfl (lv_at hl 1 rfl) ?_
      refine lv_aload_n M.x M.b d_L_tellAllYears_21 rfl (lv_at hl 0 rfl) ?_
      replace hf := z_bind hf; obtain ⟨r15, e16, hf⟩ := hf
      refine z_get (ci := 2) (k := 4) M hH rfl (by decide) zinL q_246 (gA_spec e16) d_L_tellAllYears_22 ?_
      rcases r15 with _ | a17
      · exact absurd hf z_nb0
      replace hf := z_sb hf
      replace hf := z_bind hf; obtain ⟨i20, e19, hf⟩ := hf
      refine z_alen M hH e19 d_L_tellAllYears_25 ?_
      refine lv_icmp_ge (tgt := 133) M.x M.b d_L_tellAllYears_26 (by decide) (fun c93 => ?_) (fun c93 => ?_)
      · replace hf := z_t c93 hf
        obtain rfl := z_r1 hf
        exact z_vret M hH hS d_L_tellAllYears_133
      · replace hf := z_f c93 hf
        refine lv_aload_n M.x M.b d_L_tellAllYears_29 rfl (lv_at hl 0 rfl) ?_
        replace hf := z_bind hf; obtain ⟨r21, e22, hf⟩ := hf
        refine z_get (ci := 2) (k := 2) M hH rfl (by decide) zinL q_253 (gA_spec e22) d_L_tellAllYears_30 ?_
        refine lv_aload_n M.x M.b d_L_tellAllYears_33 rfl (lv_at hl 0 rfl) ?_
        replace hf := z_bind hf; obtain ⟨r23, e24, hf⟩ := hf
        refine z_get (ci := 2) (k := 10) M hH rfl (by decide) zinL q_252 (gA_spec e24) d_L_tellAllYears_34 ?_
        refine lv_aload_n M.x M.b d_L_tellAllYears_37 rfl (lv_at hl 0 rfl) ?_
        replace hf := z_bind hf; obtain ⟨r25, e26, hf⟩ := hf
        refine z_get (ci := 2) (k := 0) M hH rfl (by decide) zinL q_251 (gA_spec e26) d_L_tellAllYears_38 ?_
        refine lv_aload_n M.x M.b d_L_tellAllYears_41 rfl (lv_at hl 0 rfl) ?_
        replace hf := z_bind hf; obtain ⟨i27, e28, hf⟩ := hf
        refine z_get (ci := 2) (k := 11) M hH rfl (by decide) zinL q_250 (gI_spec e28) d_L_tellAllYears_42 ?_
        refine lv_iload_n M.x M.b d_L_tellAllYears_45 rfl (lv_at hl 1 rfl) ?_
        refine lv_bipush (v := (8 : Int32)) M.x M.b d_L_tellAllYears_46 rfl ?_
        refine lv_idiv M.x M.b d_L_tellAllYears_48 (by decide) ?_
        refine lv_iload_n M.x M.b d_L_tellAllYears_49 rfl (lv_at hl 1 rfl) ?_
        refine lv_bipush (v := (8 : Int32)) M.x M.b d_L_tellAllYears_50 rfl ?_
        refine lv_irem M.x M.b d_L_tellAllYears_52 (by decide) ?_
        refine lv_aload_n M.x M.b d_L_tellAllYears_53 rfl (lv_at hl 0 rfl) ?_
        replace hf := z_bind hf; obtain ⟨r29, e30, hf⟩ := hf
        refine z_get (ci := 2) (k := 8) M hH rfl (by decide) zinL q_242 (gA_spec e30) d_L_tellAllYears_54 ?_
        rcases r23 with _ | a31
        · exact absurd hf z_nb0
        replace hf := z_sb hf
        rcases r25 with _ | a33
        · exact absurd hf z_nb0
        replace hf := z_sb hf
        rcases r29 with _ | a35
        · exact absurd hf z_nb0
        replace hf := z_sb hf
        rcases r21 with _ | a37
        · exact absurd hf z_nb0
        replace hf := z_sb hf
        replace hf := z_bind hf; obtain ⟨h40, e39, hf⟩ := hf
        refine zk_V (ci := 6) (st1 := []) M hH hS (c_T_tell e39) rfl (o_T_tell e39) w_T_tell q_249 [] rfl ⟨Nat.le_of_ble_eq_true rfl, Nat.le_of_ble_eq_true rfl⟩ hl.1 rfl rfl (Nat.le_of_ble_eq_true rfl) d_L_tellAllYears_57 (fun H locs hH hS => ?_)
        refine lv_aload_n M.x M.b d_L_tellAllYears_60 rfl (lv_at hl 0 rfl) ?_
        replace hf := z_bind hf; obtain ⟨r41, e42, hf⟩ := hf
        refine z_get (ci := 2) (k := 3) M hH rfl (by decide) zinL q_248 (gA_spec e42) d_L_tellAllYears_61 ?_
        refine lv_iload_n M.x M.b d_L_tellAllYears_64 rfl (lv_at hl 1 rfl) ?_
        refine lv_aload_n M.x M.b d_L_tellAllYears_65 rfl (lv_at hl 0 rfl) ?_
        replace hf := z_bind hf; obtain ⟨r43, e44, hf⟩ := hf
        refine z_get (ci := 2) (k := 8) M hH rfl (by decide) zinL q_242 (gA_spec e44) d_L_tellAllYears_66 ?_
        rcases r43 with _ | a45
        · exact absurd hf z_nb0
        replace hf := z_sb hf
        replace hf := z_bind hf; obtain ⟨l47, e48, hf⟩ := hf
        refine z_getN (ci := 1) (k := 0) M hH rfl (by decide) zinF q_247 (gL_spec e48) d_L_tellAllYears_69 ?_
        rcases r41 with _ | a49
        · exact absurd hf z_nb0
        replace hf := z_sb hf
        replace hf := z_bind hf; obtain ⟨h52, e51, hf⟩ := hf
        refine z_last M hH hS e51 d_L_tellAllYears_72 (fun H locs hH hS => ?_)
        refine lv_aload_n M.x M.b d_L_tellAllYears_73 rfl (lv_at hl 0 rfl) ?_
        replace hf := z_bind hf; obtain ⟨r53, e54, hf⟩ := hf
        refine z_get (ci := 2) (k := 4) M hH rfl (by decide) zinL q_246 (gA_spec e54) d_L_tellAllYears_74 ?_
        refine lv_iload_n M.x M.b d_L_tellAllYears_77 rfl (lv_at hl 1 rfl) ?_
        refine lv_aload_n M.x M.b d_L_tellAllYears_78 rfl (lv_at hl 0 rfl) ?_
        replace hf := z_bind hf; obtain ⟨r55, e56, hf⟩ := hf
        refine z_get (ci := 2) (k := 8) M hH rfl (by decide) zinL q_242 (gA_spec e56) d_L_tellAllYears_79 ?_
        rcases r55 with _ | a57
        · exact absurd hf z_nb0
        replace hf := z_sb hf
        replace hf := z_bind hf; obtain ⟨l59, e60, hf⟩ := hf
        refine z_getN (ci := 1) (k := 1) M hH rfl (by decide) zinF q_245 (gL_spec e60) d_L_tellAllYears_82 ?_
        rcases r53 with _ | a61
        · exact absurd hf z_nb0
        replace hf := z_sb hf
        replace hf := z_bind hf; obtain ⟨h64, e63, hf⟩ := hf
        refine z_last M hH hS e63 d_L_tellAllYears_85 (fun H locs hH hS => ?_)
        refine lv_aload_n M.x M.b d_L_tellAllYears_86 rfl (lv_at hl 0 rfl) ?_
        replace hf := z_bind hf; obtain ⟨r65, e66, hf⟩ := hf
        refine z_get (ci := 2) (k := 5) M hH rfl (by decide) zinL q_244 (gA_spec e66) d_L_tellAllYears_87 ?_
        refine lv_iload_n M.x M.b d_L_tellAllYears_90 rfl (lv_at hl 1 rfl) ?_
        refine lv_aload_n M.x M.b d_L_tellAllYears_91 rfl (lv_at hl 0 rfl) ?_
        replace hf := z_bind hf; obtain ⟨r67, e68, hf⟩ := hf
        refine z_get (ci := 2) (k := 8) M hH rfl (by decide) zinL q_242 (gA_spec e68) d_L_tellAllYears_92 ?_
        rcases r67 with _ | a69
        · exact absurd hf z_nb0
        replace hf := z_sb hf
        replace hf := z_bind hf; obtain ⟨i71, e72, hf⟩ := hf
        refine z_getN (ci := 1) (k := 3) M hH rfl (by decide) zinF q_243 (gI_spec e72) d_L_tellAllYears_95 ?_
        refine lv_if_eq (tgt := 111) M.x M.b d_L_tellAllYears_98 (by decide) (fun c92 => ?_) (fun c92 => ?_)
        · replace hf := z_t c92 hf
          refine lv_aload_n M.x M.b d_L_tellAllYears_111 rfl (lv_at hl 0 rfl) ?_
          replace hf := z_bind hf; obtain ⟨r73, e74, hf⟩ := hf
          refine z_get (ci := 2) (k := 8) M hH rfl (by decide) zinL q_242 (gA_spec e74) d_L_tellAllYears_112 ?_
          rcases r73 with _ | a75
          · exact absurd hf z_nb0
          replace hf := z_sb hf
          replace hf := z_bind hf; obtain ⟨i77, e78, hf⟩ := hf
          refine z_getN (ci := 1) (k := 2) M hH rfl (by decide) zinF q_241 (gI_spec e78) d_L_tellAllYears_115 ?_
          refine lv_if_eq (tgt := 125) M.x M.b d_L_tellAllYears_118 (by decide) (fun c83 => ?_) (fun c83 => ?_)
          · replace hf := z_t c83 hf
            refine lv_iconst (v := (0 : Int32)) M.x M.b d_L_tellAllYears_125 rfl ?_
            rcases r65 with _ | a79
            · exact absurd hf z_nb0
            replace hf := z_sb hf
            exact w_L_tellAllYears_126 M this k2 hk2 _ _ _ _ _ hf H locs ls hH hS (lv_sub hl [0, 1] rfl)
          · replace hf := z_f c83 hf
            refine lv_iconst (v := (1 : Int32)) M.x M.b d_L_tellAllYears_121 rfl ?_
            refine lv_goto (tgt := 126) M.x M.b d_L_tellAllYears_122 (by decide) ?_
            rcases r65 with _ | a81
            · exact absurd hf z_nb0
            replace hf := z_sb hf
            exact w_L_tellAllYears_126 M this k2 hk2 _ _ _ _ _ hf H locs ls hH hS (lv_sub hl [0, 1] rfl)
        · replace hf := z_f c92 hf
          refine lv_aload_n M.x M.b d_L_tellAllYears_101 rfl (lv_at hl 0 rfl) ?_
          replace hf := z_bind hf; obtain ⟨r84, e85, hf⟩ := hf
          refine z_get (ci := 2) (k := 8) M hH rfl (by decide) zinL q_242 (gA_spec e85) d_L_tellAllYears_102 ?_
          rcases r84 with _ | a86
          · exact absurd hf z_nb0
          replace hf := z_sb hf
          replace hf := z_bind hf; obtain ⟨i88, e89, hf⟩ := hf
          refine z_getN (ci := 1) (k := 3) M hH rfl (by decide) zinF q_243 (gI_spec e89) d_L_tellAllYears_105 ?_
          refine lv_goto (tgt := 126) M.x M.b d_L_tellAllYears_108 (by decide) ?_
          rcases r65 with _ | a90
          · exact absurd hf z_nb0
          replace hf := z_sb hf
          exact w_L_tellAllYears_126 M this k2 hk2 _ _ _ _ _ hf H locs ls hH hS (lv_sub hl [0, 1] rfl)
def f_L_tellAllYears_2 (this : Nat) : Nat → Int32 → Hp → Option (Hp)
  | 0, _, _ => none
  | n + 1, x1, h => t_L_tellAllYears_2 this (f_L_tellAllYears_2 this n) x1 h
theorem w_L_tellAllYears_2 {p : Program} {l : Launch} {e : Env} {s : State} {m : MethodId} {args : Array Value} {below : List Frame} {meth : Method} {c : Code} {N0 : Nat} {D : va_G} {cs : Nat → ClassId} (M : ZC p s m args meth c "YearBaskets$Laws" "tellAllYears" b_L_tellAllYears 2 (none) N0 D cs) (this : Nat)  {h0 : Hp}  : ∀ (n : Nat) (x1 : Int32) (h : Hp), f_L_tellAllYears_2 this n x1 h = some h0 → ZG p l e (zrm 34 0 0) s m args below meth c N0 D cs none h0 h 2 [(0, .ref this), (1, .int x1)] 2 [] := by
  intro n
  induction n with
  | zero => intro x1 h hf; exact absurd (show none = some _ from hf) (fun q => by cases q)
  | succ n ih => intro x1 h hf; exact v_L_tellAllYears_2 M this (f_L_tellAllYears_2 this n)  ih _ _ hf
def f_L_tellAllYears (this : Nat) (h : Hp) : Option (Hp) :=
  if isO h this 2 = true then
  f_L_tellAllYears_2 this FU (0 : Int32) h
  else none
theorem o_L_tellAllYears {this : Nat} {h : Hp} {h0 : Hp} (hf : f_L_tellAllYears this h = some h0) : isO h this 2 = true := by
  unfold f_L_tellAllYears at hf
  exact (z_gd hf).1
set_option maxRecDepth 100000 in
set_option maxHeartbeats 4000000 in
theorem c_L_tellAllYears {l : Launch} {N0 : Nat} {D : va_G} {cs : Nat → ClassId} {this : Nat} {h : Hp} {h0 : Hp} (hf : f_L_tellAllYears this h = some h0) : Fn l N0 D cs y_L_tellAllYears b_L_tellAllYears 2 (none) 34 0 0 [.ref this] h none h0 := by
  refine z_start (by decide) (Nat.le_of_ble_eq_true rfl) ?_
  intro p e s m args below meth c M hH hS ls hl
  unfold f_L_tellAllYears at hf
  obtain ⟨hO, hf⟩ := z_gd hf
  have hl : lv_has ls 2 [(0, .ref this)] := hl
  obtain ⟨H, hHe⟩ : ∃ H, H = s.heap := ⟨_, rfl⟩
  obtain ⟨locs, hLe⟩ : ∃ locs : List Loc, locs = [] := ⟨_, rfl⟩
  have hS : va_S (zA N0) s.heap H locs := by rw [hHe, hLe]; exact hS
  have hH : HH N0 D cs h H := by rw [hHe]; exact hH
  suffices hg : W p l e (zrm 34 0 0) s m args below meth c H locs 0 0 (MQ below (zQ N0 D cs none h0) args s 0 0 (zA N0)) (F0 m 0 ls []) by rw [hHe, hLe] at hg; exact hg
  clear hHe hLe
  refine lv_iconst (v := (0 : Int32)) M.x M.b d_L_tellAllYears_0 rfl ?_
  refine lv_istore_n (lv' := [(1, .int (0 : Int32)), (0, .ref this)]) M.x M.b d_L_tellAllYears_1 rfl hl (by decide) rfl (fun ls hl => ?_)
  exact w_L_tellAllYears_2 M this FU _ _ hf H locs ls hH hS (lv_sub hl [1, 0] rfl)
def f_L_compareRatios (this : Nat) (h : Hp) (x1 : Int32) (x2 : Int32) (x3 : Int32) (x4 : Int32) : Option (Int32) :=
  if isO h this 2 = true then
  (gA h this 2 0).bind fun r1 =>
  (r1).bind fun a3 =>
  (f_B_priceOf a3 h x2 x3).bind fun i6 =>
  (gA h this 2 0).bind fun r7 =>
  (r7).bind fun a9 =>
  (f_B_priceOf a9 h x1 x4).bind fun i12 =>
  (gA h this 2 0).bind fun r13 =>
  (r13).bind fun a15 =>
  (f_B_priceOf a15 h x2 x4).bind fun i18 =>
  (gA h this 2 0).bind fun r19 =>
  (r19).bind fun a21 =>
  (f_B_priceOf a21 h x1 x3).bind fun i24 =>
  (f_JI_compare (i6 * i12) (i18 * i24)).bind fun i26 =>
  some i26
  else none
theorem o_L_compareRatios {this : Nat} {h : Hp} {x1 : Int32} {x2 : Int32} {x3 : Int32} {x4 : Int32} {r0 : Int32} (hf : f_L_compareRatios this h x1 x2 x3 x4 = some r0) : isO h this 2 = true := by
  unfold f_L_compareRatios at hf
  exact (z_gd hf).1
set_option maxRecDepth 100000 in
set_option maxHeartbeats 4000000 in
theorem c_L_compareRatios {l : Launch} {N0 : Nat} {D : va_G} {cs : Nat → ClassId} {this : Nat} {h : Hp} {x1 : Int32} {x2 : Int32} {x3 : Int32} {x4 : Int32} {r0 : Int32} (hf : f_L_compareRatios this h x1 x2 x3 x4 = some r0) : Fn l N0 D cs y_L_compareRatios b_L_compareRatios 5 (some .int) 2 0 0 [.ref this, .int x1, .int x2, .int x3, .int x4] h (some (.int r0)) h := by
  refine z_start (by decide) (Nat.le_of_ble_eq_true rfl) ?_
  intro p e s m args below meth c M hH hS ls hl
  unfold f_L_compareRatios at hf
  obtain ⟨hO, hf⟩ := z_gd hf
  have hl : lv_has ls 5 [(0, .ref this), (1, .int x1), (2, .int x2), (3, .int x3), (4, .int x4)] := hl
  obtain ⟨H, hHe⟩ : ∃ H, H = s.heap := ⟨_, rfl⟩
  obtain ⟨locs, hLe⟩ : ∃ locs : List Loc, locs = [] := ⟨_, rfl⟩
  have hS : va_S (zA N0) s.heap H locs := by rw [hHe, hLe]; exact hS
  have hH : HH N0 D cs h H := by rw [hHe]; exact hH
  suffices hg : W p l e (zrm 2 0 0) s m args below meth c H locs 0 0 (MQ below (zQ N0 D cs (some (.int r0)) h) args s 0 0 (zA N0)) (F0 m 0 ls []) by rw [hHe, hLe] at hg; exact hg
  clear hHe hLe
  refine lv_aload_n M.x M.b d_L_compareRatios_0 rfl (lv_at hl 0 rfl) ?_
  replace hf := z_bind hf; obtain ⟨r1, e2, hf⟩ := hf
  refine z_get (ci := 2) (k := 0) M hH rfl (by decide) zinL q_251 (gA_spec e2) d_L_compareRatios_1 ?_
  refine lv_iload_n M.x M.b d_L_compareRatios_4 rfl (lv_at hl 2 rfl) ?_
  refine lv_iload_n M.x M.b d_L_compareRatios_5 rfl (lv_at hl 3 rfl) ?_
  rcases r1 with _ | a3
  · exact absurd hf z_nb0
  replace hf := z_sb hf
  replace hf := z_bind hf; obtain ⟨i6, e5, hf⟩ := hf
  refine zk_V (ci := 0) (st1 := [.int i6]) M hH hS (c_B_priceOf e5) rfl (o_B_priceOf e5) w_B_priceOf q_258 [] rfl ⟨Nat.le_of_ble_eq_true rfl, Nat.le_of_ble_eq_true rfl⟩ hl.1 rfl rfl (Nat.le_of_ble_eq_true rfl) d_L_compareRatios_6 (fun H locs hH hS => ?_)
  refine lv_aload_n M.x M.b d_L_compareRatios_9 rfl (lv_at hl 0 rfl) ?_
  replace hf := z_bind hf; obtain ⟨r7, e8, hf⟩ := hf
  refine z_get (ci := 2) (k := 0) M hH rfl (by decide) zinL q_251 (gA_spec e8) d_L_compareRatios_10 ?_
  refine lv_iload_n M.x M.b d_L_compareRatios_13 rfl (lv_at hl 1 rfl) ?_
  refine lv_iload M.x M.b d_L_compareRatios_14 (lv_at hl 4 rfl) ?_
  rcases r7 with _ | a9
  · exact absurd hf z_nb0
  replace hf := z_sb hf
  replace hf := z_bind hf; obtain ⟨i12, e11, hf⟩ := hf
  refine zk_V (ci := 0) (st1 := [.int i12, .int i6]) M hH hS (c_B_priceOf e11) rfl (o_B_priceOf e11) w_B_priceOf q_258 [.int i6] rfl ⟨Nat.le_of_ble_eq_true rfl, Nat.le_of_ble_eq_true rfl⟩ hl.1 rfl rfl (Nat.le_of_ble_eq_true rfl) d_L_compareRatios_16 (fun H locs hH hS => ?_)
  refine lv_imul M.x M.b d_L_compareRatios_19 ?_
  refine lv_aload_n M.x M.b d_L_compareRatios_20 rfl (lv_at hl 0 rfl) ?_
  replace hf := z_bind hf; obtain ⟨r13, e14, hf⟩ := hf
  refine z_get (ci := 2) (k := 0) M hH rfl (by decide) zinL q_251 (gA_spec e14) d_L_compareRatios_21 ?_
  refine lv_iload_n M.x M.b d_L_compareRatios_24 rfl (lv_at hl 2 rfl) ?_
  refine lv_iload M.x M.b d_L_compareRatios_25 (lv_at hl 4 rfl) ?_
  rcases r13 with _ | a15
  · exact absurd hf z_nb0
  replace hf := z_sb hf
  replace hf := z_bind hf; obtain ⟨i18, e17, hf⟩ := hf
  refine zk_V (ci := 0) (st1 := [.int i18, .int (i6 * i12)]) M hH hS (c_B_priceOf e17) rfl (o_B_priceOf e17) w_B_priceOf q_258 [.int (i6 * i12)] rfl ⟨Nat.le_of_ble_eq_true rfl, Nat.le_of_ble_eq_true rfl⟩ hl.1 rfl rfl (Nat.le_of_ble_eq_true rfl) d_L_compareRatios_27 (fun H locs hH hS => ?_)
  refine lv_aload_n M.x M.b d_L_compareRatios_30 rfl (lv_at hl 0 rfl) ?_
  replace hf := z_bind hf; obtain ⟨r19, e20, hf⟩ := hf
  refine z_get (ci := 2) (k := 0) M hH rfl (by decide) zinL q_251 (gA_spec e20) d_L_compareRatios_31 ?_
  refine lv_iload_n M.x M.b d_L_compareRatios_34 rfl (lv_at hl 1 rfl) ?_
  refine lv_iload_n M.x M.b d_L_compareRatios_35 rfl (lv_at hl 3 rfl) ?_
  rcases r19 with _ | a21
  · exact absurd hf z_nb0
  replace hf := z_sb hf
  replace hf := z_bind hf; obtain ⟨i24, e23, hf⟩ := hf
  refine zk_V (ci := 0) (st1 := [.int i24, .int i18, .int (i6 * i12)]) M hH hS (c_B_priceOf e23) rfl (o_B_priceOf e23) w_B_priceOf q_258 [.int i18, .int (i6 * i12)] rfl ⟨Nat.le_of_ble_eq_true rfl, Nat.le_of_ble_eq_true rfl⟩ hl.1 rfl rfl (Nat.le_of_ble_eq_true rfl) d_L_compareRatios_36 (fun H locs hH hS => ?_)
  refine lv_imul M.x M.b d_L_compareRatios_39 ?_
  replace hf := z_bind hf; obtain ⟨i26, e25, hf⟩ := hf
  refine zk_S (st1 := [.int i26]) M hH hS (c_JI_compare e25) w_JI_compare q_257 [] rfl ⟨Nat.le_of_ble_eq_true rfl, Nat.le_of_ble_eq_true rfl⟩ hl.1 rfl rfl (Nat.le_of_ble_eq_true rfl) d_L_compareRatios_40 (fun H locs hH hS => ?_)
  obtain rfl := z_r1 hf
  exact z_iret M hH hS d_L_compareRatios_43
def f_L_recall_117 (this : Nat) (x3 : Nat) (s1 : Int32) (h : Hp) : Option (Hp) :=
  (zB s1).bind fun _ =>
  (pV h x3 1 2 (.int s1)).bind fun h1 =>
  some h1
set_option maxRecDepth 100000 in
set_option maxHeartbeats 4000000 in
theorem w_L_recall_117 {p : Program} {l : Launch} {e : Env} {s : State} {m : MethodId} {args : Array Value} {below : List Frame} {meth : Method} {c : Code} {N0 : Nat} {D : va_G} {cs : Nat → ClassId} (M : ZC p s m args meth c "YearBaskets$Laws" "recall" b_L_recall 5 (none) N0 D cs) (this : Nat)  {h0 : Hp}  (x3 : Nat) (s1 : Int32) (h : Hp) (hf : f_L_recall_117 this x3 s1 h = some h0) : ZG p l e (zrm 3 0 0) s m args below meth c N0 D cs none h0 h 5 [] 117 [.int s1, .ref x3] := by
  intro H locs ls hH hS hl
  unfold f_L_recall_117 at hf
  replace hf := z_bind hf; obtain ⟨_, e3, hf⟩ := hf
  have z4 := (zB_spec e3).2
  replace hf := z_bind hf; obtain ⟨h1, e2, hf⟩ := hf
  refine z_putN (ci := 1) (k := 2) M hH hS rfl (by decide) zinF zYF zYF_ok zNF_ok rfl q_241 rfl (z_nb z4) (z_fb z4) e2 d_L_recall_117 (fun H locs hH hS => ?_)
  obtain rfl := z_r1 hf
  exact z_vret M hH hS d_L_recall_120
def f_L_recall_52 (this : Nat) (x3 : Nat) (h : Hp) : Option (Hp) :=
  (f_F_refuse x3 (-1003 : Int32) h).bind fun h6 =>
  some h6
set_option maxRecDepth 100000 in
set_option maxHeartbeats 4000000 in
theorem w_L_recall_52 {p : Program} {l : Launch} {e : Env} {s : State} {m : MethodId} {args : Array Value} {below : List Frame} {meth : Method} {c : Code} {N0 : Nat} {D : va_G} {cs : Nat → ClassId} (M : ZC p s m args meth c "YearBaskets$Laws" "recall" b_L_recall 5 (none) N0 D cs) (this : Nat)  {h0 : Hp}  (x3 : Nat) (h : Hp) (hf : f_L_recall_52 this x3 h = some h0) : ZG p l e (zrm 3 0 0) s m args below meth c N0 D cs none h0 h 5 [(3, .ref x3)] 52 [] := by
  intro H locs ls hH hS hl
  unfold f_L_recall_52 at hf
  refine lv_aload_n M.x M.b d_L_recall_52 rfl (lv_at hl 0 rfl) ?_
  refine lv_sipush (v := (-1003 : Int32)) M.x M.b d_L_recall_53 rfl ?_
  replace hf := z_bind hf; obtain ⟨h6, e5, hf⟩ := hf
  refine zk_V (ci := 1) (st1 := []) M hH hS (c_F_refuse e5) rfl (o_F_refuse e5) w_F_refuse q_262 [] rfl ⟨Nat.le_of_ble_eq_true rfl, Nat.le_of_ble_eq_true rfl⟩ hl.1 rfl rfl (Nat.le_of_ble_eq_true rfl) d_L_recall_56 (fun H locs hH hS => ?_)
  obtain rfl := z_r1 hf
  exact z_vret M hH hS d_L_recall_59
def f_L_recall (this : Nat) (x1 : Int32) (x2 : Int32) (x3 : Nat) (h : Hp) : Option (Hp) :=
  if isO h this 2 = true then
  (f_Y_isNoYear x1).bind fun i8 =>
  if i8 = 0 then
    (f_Y_isNoYear x2).bind fun i10 =>
    if i10 = 0 then
      (gA h this 2 5).bind fun r11 =>
      (r11).bind fun a13 =>
      (aN h a13).bind fun i16 =>
      if i16 ≤ ((x1 * (8 : Int32)) + x2) then
        f_L_recall_52 this x3 h
      else
      (gA h this 2 3).bind fun r17 =>
      (r17).bind fun a19 =>
      (aN h a19).bind fun i22 =>
      if i22 ≤ ((x1 * (8 : Int32)) + x2) then
        f_L_recall_52 this x3 h
      else
      (gA h this 2 4).bind fun r23 =>
      (r23).bind fun a25 =>
      (aN h a25).bind fun i28 =>
      if ((x1 * (8 : Int32)) + x2) < i28 then
        (gA h this 2 5).bind fun r29 =>
        (r29).bind fun a31 =>
        (aI h 0 a31 ((x1 * (8 : Int32)) + x2)).bind fun i34 =>
        if 0 ≤ i34 then
          (gA h this 2 3).bind fun r35 =>
          (r35).bind fun a37 =>
          (aL h a37 ((x1 * (8 : Int32)) + x2)).bind fun l40 =>
          (gA h this 2 4).bind fun r41 =>
          (r41).bind fun a43 =>
          (aL h a43 ((x1 * (8 : Int32)) + x2)).bind fun l46 =>
          (f_F_put x3 l40 l46 h).bind fun h48 =>
          (gA h48 this 2 5).bind fun r49 =>
          (r49).bind fun a51 =>
          (aI h48 0 a51 ((x1 * (8 : Int32)) + x2)).bind fun i54 =>
          if i54 = (1 : Int32) then
            f_L_recall_117 this x3 (1 : Int32) h48
          else
          f_L_recall_117 this x3 (0 : Int32) h48
        else
        (gA h this 2 5).bind fun r56 =>
        (r56).bind fun a58 =>
        (aI h 0 a58 ((x1 * (8 : Int32)) + x2)).bind fun i61 =>
        (f_F_refuse x3 i61 h).bind fun h63 =>
        some h63
      else
      f_L_recall_52 this x3 h
    else
    f_L_recall_52 this x3 h
  else
  f_L_recall_52 this x3 h
  else none
theorem o_L_recall {this : Nat} {x1 : Int32} {x2 : Int32} {x3 : Nat} {h : Hp} {h0 : Hp} (hf : f_L_recall this x1 x2 x3 h = some h0) : isO h this 2 = true := by
  unfold f_L_recall at hf
  exact (z_gd hf).1
set_option maxRecDepth 100000 in
set_option maxHeartbeats 4000000 in
theorem c_L_recall {l : Launch} {N0 : Nat} {D : va_G} {cs : Nat → ClassId} {this : Nat} {x1 : Int32} {x2 : Int32} {x3 : Nat} {h : Hp} {h0 : Hp} (hf : f_L_recall this x1 x2 x3 h = some h0) : Fn l N0 D cs y_L_recall b_L_recall 5 (none) 3 0 0 [.ref this, .int x1, .int x2, .ref x3] h none h0 := by
  refine z_start (by decide) (Nat.le_of_ble_eq_true rfl) ?_
  intro p e s m args below meth c M hH hS ls hl
  unfold f_L_recall at hf
  obtain ⟨hO, hf⟩ := z_gd hf
  have hl : lv_has ls 5 [(0, .ref this), (1, .int x1), (2, .int x2), (3, .ref x3)] := hl
  obtain ⟨H, hHe⟩ : ∃ H, H = s.heap := ⟨_, rfl⟩
  obtain ⟨locs, hLe⟩ : ∃ locs : List Loc, locs = [] := ⟨_, rfl⟩
  have hS : va_S (zA N0) s.heap H locs := by rw [hHe, hLe]; exact hS
  have hH : HH N0 D cs h H := by rw [hHe]; exact hH
  suffices hg : W p l e (zrm 3 0 0) s m args below meth c H locs 0 0 (MQ below (zQ N0 D cs none h0) args s 0 0 (zA N0)) (F0 m 0 ls []) by rw [hHe, hLe] at hg; exact hg
  clear hHe hLe
  refine lv_iload_n M.x M.b d_L_recall_0 rfl (lv_at hl 1 rfl) ?_
  refine lv_bipush (v := (8 : Int32)) M.x M.b d_L_recall_1 rfl ?_
  refine lv_imul M.x M.b d_L_recall_3 ?_
  refine lv_iload_n M.x M.b d_L_recall_4 rfl (lv_at hl 2 rfl) ?_
  refine lv_iadd M.x M.b d_L_recall_5 ?_
  refine lv_istore (lv' := [(4, .int ((x1 * (8 : Int32)) + x2)), (0, .ref this), (1, .int x1), (2, .int x2), (3, .ref x3)]) M.x M.b d_L_recall_6 hl (by decide) rfl (fun ls hl => ?_)
  refine lv_iload_n M.x M.b d_L_recall_8 rfl (lv_at hl 2 rfl) ?_
  replace hf := z_bind hf; obtain ⟨i8, e7, hf⟩ := hf
  refine zk_SN (st1 := [.int i8]) M hH hS (c_Y_isNoYear e7) w_Y_isNoYear q_264 [] rfl ⟨Nat.le_of_ble_eq_true rfl, Nat.le_of_ble_eq_true rfl⟩ hl.1 rfl rfl (Nat.le_of_ble_eq_true rfl) d_L_recall_9 (fun H locs hH hS => ?_)
  refine lv_if_ne (tgt := 52) M.x M.b d_L_recall_12 (by decide) (fun c69 => ?_) (fun c69 => ?_)
  · replace hf := z_f c69 hf
    exact w_L_recall_52 M this _ _ hf H locs ls hH hS (lv_sub hl [4] rfl)
  · replace hf := z_t c69 hf
    refine lv_iload_n M.x M.b d_L_recall_15 rfl (lv_at hl 3 rfl) ?_
    replace hf := z_bind hf; obtain ⟨i10, e9, hf⟩ := hf
    refine zk_SN (st1 := [.int i10]) M hH hS (c_Y_isNoYear e9) w_Y_isNoYear q_264 [] rfl ⟨Nat.le_of_ble_eq_true rfl, Nat.le_of_ble_eq_true rfl⟩ hl.1 rfl rfl (Nat.le_of_ble_eq_true rfl) d_L_recall_16 (fun H locs hH hS => ?_)
    refine lv_if_ne (tgt := 52) M.x M.b d_L_recall_19 (by decide) (fun c68 => ?_) (fun c68 => ?_)
    · replace hf := z_f c68 hf
      exact w_L_recall_52 M this _ _ hf H locs ls hH hS (lv_sub hl [4] rfl)
    · replace hf := z_t c68 hf
      refine lv_iload M.x M.b d_L_recall_22 (lv_at hl 0 rfl) ?_
      refine lv_aload_n M.x M.b d_L_recall_24 rfl (lv_at hl 1 rfl) ?_
      replace hf := z_bind hf; obtain ⟨r11, e12, hf⟩ := hf
      refine z_get (ci := 2) (k := 5) M hH rfl (by decide) zinL q_244 (gA_spec e12) d_L_recall_25 ?_
      rcases r11 with _ | a13
      · exact absurd hf z_nb0
      replace hf := z_sb hf
      replace hf := z_bind hf; obtain ⟨i16, e15, hf⟩ := hf
      refine z_alen M hH e15 d_L_recall_28 ?_
      refine lv_icmp_ge (tgt := 52) M.x M.b d_L_recall_29 (by decide) (fun c67 => ?_) (fun c67 => ?_)
      · replace hf := z_t c67 hf
        exact w_L_recall_52 M this _ _ hf H locs ls hH hS (lv_sub hl [4] rfl)
      · replace hf := z_f c67 hf
        refine lv_iload M.x M.b d_L_recall_32 (lv_at hl 0 rfl) ?_
        refine lv_aload_n M.x M.b d_L_recall_34 rfl (lv_at hl 1 rfl) ?_
        replace hf := z_bind hf; obtain ⟨r17, e18, hf⟩ := hf
        refine z_get (ci := 2) (k := 3) M hH rfl (by decide) zinL q_248 (gA_spec e18) d_L_recall_35 ?_
        rcases r17 with _ | a19
        · exact absurd hf z_nb0
        replace hf := z_sb hf
        replace hf := z_bind hf; obtain ⟨i22, e21, hf⟩ := hf
        refine z_alen M hH e21 d_L_recall_38 ?_
        refine lv_icmp_ge (tgt := 52) M.x M.b d_L_recall_39 (by decide) (fun c66 => ?_) (fun c66 => ?_)
        · replace hf := z_t c66 hf
          exact w_L_recall_52 M this _ _ hf H locs ls hH hS (lv_sub hl [4] rfl)
        · replace hf := z_f c66 hf
          refine lv_iload M.x M.b d_L_recall_42 (lv_at hl 0 rfl) ?_
          refine lv_aload_n M.x M.b d_L_recall_44 rfl (lv_at hl 1 rfl) ?_
          replace hf := z_bind hf; obtain ⟨r23, e24, hf⟩ := hf
          refine z_get (ci := 2) (k := 4) M hH rfl (by decide) zinL q_246 (gA_spec e24) d_L_recall_45 ?_
          rcases r23 with _ | a25
          · exact absurd hf z_nb0
          replace hf := z_sb hf
          replace hf := z_bind hf; obtain ⟨i28, e27, hf⟩ := hf
          refine z_alen M hH e27 d_L_recall_48 ?_
          refine lv_icmp_lt (tgt := 60) M.x M.b d_L_recall_49 (by decide) (fun c65 => ?_) (fun c65 => ?_)
          · replace hf := z_t c65 hf
            refine lv_aload_n M.x M.b d_L_recall_60 rfl (lv_at hl 1 rfl) ?_
            replace hf := z_bind hf; obtain ⟨r29, e30, hf⟩ := hf
            refine z_get (ci := 2) (k := 5) M hH rfl (by decide) zinL q_244 (gA_spec e30) d_L_recall_61 ?_
            refine lv_iload M.x M.b d_L_recall_64 (lv_at hl 0 rfl) ?_
            rcases r29 with _ | a31
            · exact absurd hf z_nb0
            replace hf := z_sb hf
            replace hf := z_bind hf; obtain ⟨i34, e33, hf⟩ := hf
            refine z_iald M hH e33 d_L_recall_66 ?_
            refine lv_if_ge (tgt := 82) M.x M.b d_L_recall_67 (by decide) (fun c64 => ?_) (fun c64 => ?_)
            · replace hf := z_t c64 hf
              refine lv_aload_n M.x M.b d_L_recall_82 rfl (lv_at hl 4 rfl) ?_
              refine lv_aload_n M.x M.b d_L_recall_83 rfl (lv_at hl 1 rfl) ?_
              replace hf := z_bind hf; obtain ⟨r35, e36, hf⟩ := hf
              refine z_get (ci := 2) (k := 3) M hH rfl (by decide) zinL q_248 (gA_spec e36) d_L_recall_84 ?_
              refine lv_iload M.x M.b d_L_recall_87 (lv_at hl 0 rfl) ?_
              rcases r35 with _ | a37
              · exact absurd hf z_nb0
              replace hf := z_sb hf
              replace hf := z_bind hf; obtain ⟨l40, e39, hf⟩ := hf
              refine z_lald M hH e39 d_L_recall_89 ?_
              refine lv_aload_n M.x M.b d_L_recall_90 rfl (lv_at hl 1 rfl) ?_
              replace hf := z_bind hf; obtain ⟨r41, e42, hf⟩ := hf
              refine z_get (ci := 2) (k := 4) M hH rfl (by decide) zinL q_246 (gA_spec e42) d_L_recall_91 ?_
              refine lv_iload M.x M.b d_L_recall_94 (lv_at hl 0 rfl) ?_
              rcases r41 with _ | a43
              · exact absurd hf z_nb0
              replace hf := z_sb hf
              replace hf := z_bind hf; obtain ⟨l46, e45, hf⟩ := hf
              refine z_lald M hH e45 d_L_recall_96 ?_
              replace hf := z_bind hf; obtain ⟨h48, e47, hf⟩ := hf
              refine zk_V (ci := 1) (st1 := []) M hH hS (c_F_put e47) rfl (o_F_put e47) w_F_put q_263 [] rfl ⟨Nat.le_of_ble_eq_true rfl, Nat.le_of_ble_eq_true rfl⟩ hl.1 rfl rfl (Nat.le_of_ble_eq_true rfl) d_L_recall_97 (fun H locs hH hS => ?_)
              refine lv_aload_n M.x M.b d_L_recall_100 rfl (lv_at hl 4 rfl) ?_
              refine lv_aload_n M.x M.b d_L_recall_101 rfl (lv_at hl 1 rfl) ?_
              replace hf := z_bind hf; obtain ⟨r49, e50, hf⟩ := hf
              refine z_get (ci := 2) (k := 5) M hH rfl (by decide) zinL q_244 (gA_spec e50) d_L_recall_102 ?_
              refine lv_iload M.x M.b d_L_recall_105 (lv_at hl 0 rfl) ?_
              rcases r49 with _ | a51
              · exact absurd hf z_nb0
              replace hf := z_sb hf
              replace hf := z_bind hf; obtain ⟨i54, e53, hf⟩ := hf
              refine z_iald M hH e53 d_L_recall_107 ?_
              refine lv_iconst (v := (1 : Int32)) M.x M.b d_L_recall_108 rfl ?_
              refine lv_icmp_ne (tgt := 116) M.x M.b d_L_recall_109 (by decide) (fun c55 => ?_) (fun c55 => ?_)
              · replace hf := z_f c55 hf
                refine lv_iconst (v := (0 : Int32)) M.x M.b d_L_recall_116 rfl ?_
                exact w_L_recall_117 M this _ _ _ hf H locs ls hH hS (lv_sub hl [] rfl)
              · replace hf := z_t c55 hf
                refine lv_iconst (v := (1 : Int32)) M.x M.b d_L_recall_112 rfl ?_
                refine lv_goto (tgt := 117) M.x M.b d_L_recall_113 (by decide) ?_
                exact w_L_recall_117 M this _ _ _ hf H locs ls hH hS (lv_sub hl [] rfl)
            · replace hf := z_f c64 hf
              refine lv_aload_n M.x M.b d_L_recall_70 rfl (lv_at hl 4 rfl) ?_
              refine lv_aload_n M.x M.b d_L_recall_71 rfl (lv_at hl 1 rfl) ?_
              replace hf := z_bind hf; obtain ⟨r56, e57, hf⟩ := hf
              refine z_get (ci := 2) (k := 5) M hH rfl (by decide) zinL q_244 (gA_spec e57) d_L_recall_72 ?_
              refine lv_iload M.x M.b d_L_recall_75 (lv_at hl 0 rfl) ?_
              rcases r56 with _ | a58
              · exact absurd hf z_nb0
              replace hf := z_sb hf
              replace hf := z_bind hf; obtain ⟨i61, e60, hf⟩ := hf
              refine z_iald M hH e60 d_L_recall_77 ?_
              replace hf := z_bind hf; obtain ⟨h63, e62, hf⟩ := hf
              refine zk_V (ci := 1) (st1 := []) M hH hS (c_F_refuse e62) rfl (o_F_refuse e62) w_F_refuse q_262 [] rfl ⟨Nat.le_of_ble_eq_true rfl, Nat.le_of_ble_eq_true rfl⟩ hl.1 rfl rfl (Nat.le_of_ble_eq_true rfl) d_L_recall_78 (fun H locs hH hS => ?_)
              obtain rfl := z_r1 hf
              exact z_vret M hH hS d_L_recall_81
          · replace hf := z_f c65 hf
            exact w_L_recall_52 M this _ _ hf H locs ls hH hS (lv_sub hl [4] rfl)
def f_L_isBeyondRatios_86 (this : Nat) (k8 : Int32 → Int32 → Int32 → Int32 → Int32 → Hp → Option ((Int32 × Hp))) (x1 : Int32) (x2 : Int32) (x3 : Int32) (x4 : Int32) (x5 : Int32) (h : Hp) : Option ((Int32 × Hp)) :=
  k8 x1 x2 x3 x4 (x5 + (1 : Int32)) h
set_option maxRecDepth 100000 in
set_option maxHeartbeats 4000000 in
theorem w_L_isBeyondRatios_86 {p : Program} {l : Launch} {e : Env} {s : State} {m : MethodId} {args : Array Value} {below : List Frame} {meth : Method} {c : Code} {N0 : Nat} {D : va_G} {cs : Nat → ClassId} (M : ZC p s m args meth c "YearBaskets$Laws" "isBeyondRatios" b_L_isBeyondRatios 6 (some .boolean) N0 D cs) (this : Nat) (k8 : Int32 → Int32 → Int32 → Int32 → Int32 → Hp → Option ((Int32 × Hp))) {r0 : Int32} {h0 : Hp} (hk8 : ∀ (x1 : Int32) (x2 : Int32) (x3 : Int32) (x4 : Int32) (x5 : Int32) (h : Hp), k8 x1 x2 x3 x4 x5 h = some (r0, h0) → ZG p l e (zrm 4 0 0) s m args below meth c N0 D cs (some (.int r0)) h0 h 6 [(0, .ref this), (1, .int x1), (2, .int x2), (3, .int x3), (4, .int x4), (5, .int x5)] 8 []) (x1 : Int32) (x2 : Int32) (x3 : Int32) (x4 : Int32) (x5 : Int32) (h : Hp) (hf : f_L_isBeyondRatios_86 this k8 x1 x2 x3 x4 x5 h = some (r0, h0)) : ZG p l e (zrm 4 0 0) s m args below meth c N0 D cs (some (.int r0)) h0 h 6 [(0, .ref this), (1, .int x1), (2, .int x2), (3, .int x3), (4, .int x4), (5, .int x5)] 86 [] := by
  intro H locs ls hH hS hl
  unfold f_L_isBeyondRatios_86 at hf
  refine lv_iinc (v := (x5 + (1 : Int32))) (lv' := [(5, .int (x5 + (1 : Int32))), (0, .ref this), (1, .int x1), (2, .int x2), (3, .int x3), (4, .int x4)]) M.x M.b d_L_isBeyondRatios_86 hl (k := 5) rfl rfl (by decide) rfl (fun ls hl => ?_)
  refine lv_goto (tgt := 8) M.x M.b d_L_isBeyondRatios_89 (by decide) ?_
  exact hk8 _ _ _ _ _ _ hf H locs ls hH hS (lv_sub hl [1, 2, 3, 4, 5, 0] rfl)
def f_L_isBeyondRatios_82 (this : Nat) (k8 : Int32 → Int32 → Int32 → Int32 → Int32 → Hp → Option ((Int32 × Hp))) (x1 : Int32) (x2 : Int32) (x3 : Int32) (x5 : Int32) (h : Hp) : Option ((Int32 × Hp)) :=
  f_L_isBeyondRatios_86 this k8 x1 x2 x3 x5 x5 h
set_option maxRecDepth 100000 in
set_option maxHeartbeats 4000000 in
theorem w_L_isBeyondRatios_82 {p : Program} {l : Launch} {e : Env} {s : State} {m : MethodId} {args : Array Value} {below : List Frame} {meth : Method} {c : Code} {N0 : Nat} {D : va_G} {cs : Nat → ClassId} (M : ZC p s m args meth c "YearBaskets$Laws" "isBeyondRatios" b_L_isBeyondRatios 6 (some .boolean) N0 D cs) (this : Nat) (k8 : Int32 → Int32 → Int32 → Int32 → Int32 → Hp → Option ((Int32 × Hp))) {r0 : Int32} {h0 : Hp} (hk8 : ∀ (x1 : Int32) (x2 : Int32) (x3 : Int32) (x4 : Int32) (x5 : Int32) (h : Hp), k8 x1 x2 x3 x4 x5 h = some (r0, h0) → ZG p l e (zrm 4 0 0) s m args below meth c N0 D cs (some (.int r0)) h0 h 6 [(0, .ref this), (1, .int x1), (2, .int x2), (3, .int x3), (4, .int x4), (5, .int x5)] 8 []) (x1 : Int32) (x2 : Int32) (x3 : Int32) (x5 : Int32) (h : Hp) (hf : f_L_isBeyondRatios_82 this k8 x1 x2 x3 x5 h = some (r0, h0)) : ZG p l e (zrm 4 0 0) s m args below meth c N0 D cs (some (.int r0)) h0 h 6 [(0, .ref this), (1, .int x1), (2, .int x2), (3, .int x3), (5, .int x5)] 82 [] := by
  intro H locs ls hH hS hl
  unfold f_L_isBeyondRatios_82 at hf
  refine lv_iload M.x M.b d_L_isBeyondRatios_82 (lv_at hl 4 rfl) ?_
  refine lv_istore (lv' := [(4, .int x5), (0, .ref this), (1, .int x1), (2, .int x2), (3, .int x3), (5, .int x5)]) M.x M.b d_L_isBeyondRatios_84 hl (by decide) rfl (fun ls hl => ?_)
  exact w_L_isBeyondRatios_86 M this k8 hk8 _ _ _ _ _ _ hf H locs ls hH hS (lv_sub hl [1, 2, 3, 4, 0, 5] rfl)
def f_L_isBeyondRatios_63 (this : Nat) (k8 : Int32 → Int32 → Int32 → Int32 → Int32 → Hp → Option ((Int32 × Hp))) (x1 : Int32) (x2 : Int32) (x3 : Int32) (x4 : Int32) (x5 : Int32) (h : Hp) : Option ((Int32 × Hp)) :=
  if x4 = (-1 : Int32) then
    f_L_isBeyondRatios_82 this k8 x1 x2 x3 x5 h
  else
  (f_L_compareRatios this h x1 x2 x5 x4).bind fun i2 =>
  if i2 ≤ 0 then
    f_L_isBeyondRatios_86 this k8 x1 x2 x3 x4 x5 h
  else
  f_L_isBeyondRatios_82 this k8 x1 x2 x3 x5 h
set_option maxRecDepth 100000 in
set_option maxHeartbeats 4000000 in
theorem w_L_isBeyondRatios_63 {p : Program} {l : Launch} {e : Env} {s : State} {m : MethodId} {args : Array Value} {below : List Frame} {meth : Method} {c : Code} {N0 : Nat} {D : va_G} {cs : Nat → ClassId} (M : ZC p s m args meth c "YearBaskets$Laws" "isBeyondRatios" b_L_isBeyondRatios 6 (some .boolean) N0 D cs) (this : Nat) (k8 : Int32 → Int32 → Int32 → Int32 → Int32 → Hp → Option ((Int32 × Hp))) {r0 : Int32} {h0 : Hp} (hk8 : ∀ (x1 : Int32) (x2 : Int32) (x3 : Int32) (x4 : Int32) (x5 : Int32) (h : Hp), k8 x1 x2 x3 x4 x5 h = some (r0, h0) → ZG p l e (zrm 4 0 0) s m args below meth c N0 D cs (some (.int r0)) h0 h 6 [(0, .ref this), (1, .int x1), (2, .int x2), (3, .int x3), (4, .int x4), (5, .int x5)] 8 []) (x1 : Int32) (x2 : Int32) (x3 : Int32) (x4 : Int32) (x5 : Int32) (h : Hp) (hf : f_L_isBeyondRatios_63 this k8 x1 x2 x3 x4 x5 h = some (r0, h0)) : ZG p l e (zrm 4 0 0) s m args below meth c N0 D cs (some (.int r0)) h0 h 6 [(0, .ref this), (1, .int x1), (2, .int x2), (3, .int x3), (4, .int x4), (5, .int x5)] 63 [] := by
  intro H locs ls hH hS hl
  unfold f_L_isBeyondRatios_63 at hf
  refine lv_iload M.x M.b d_L_isBeyondRatios_63 (lv_at hl 4 rfl) ?_
  refine lv_iconst (v := (-1 : Int32)) M.x M.b d_L_isBeyondRatios_65 rfl ?_
  refine lv_icmp_eq (tgt := 82) M.x M.b d_L_isBeyondRatios_66 (by decide) (fun c4 => ?_) (fun c4 => ?_)
  · replace hf := z_t c4 hf
    exact w_L_isBeyondRatios_82 M this k8 hk8 _ _ _ _ _ hf H locs ls hH hS (lv_sub hl [0, 1, 2, 3, 5] rfl)
  · replace hf := z_f c4 hf
    refine lv_aload_n M.x M.b d_L_isBeyondRatios_69 rfl (lv_at hl 0 rfl) ?_
    refine lv_iload_n M.x M.b d_L_isBeyondRatios_70 rfl (lv_at hl 1 rfl) ?_
    refine lv_iload_n M.x M.b d_L_isBeyondRatios_71 rfl (lv_at hl 2 rfl) ?_
    refine lv_iload M.x M.b d_L_isBeyondRatios_72 (lv_at hl 5 rfl) ?_
    refine lv_iload M.x M.b d_L_isBeyondRatios_74 (lv_at hl 4 rfl) ?_
    replace hf := z_bind hf; obtain ⟨i2, e1, hf⟩ := hf
    refine zk_V (ci := 2) (st1 := [.int i2]) M hH hS (c_L_compareRatios e1) rfl (o_L_compareRatios e1) w_L_compareRatios q_268 [] rfl ⟨Nat.le_of_ble_eq_true rfl, Nat.le_of_ble_eq_true rfl⟩ hl.1 rfl rfl (Nat.le_of_ble_eq_true rfl) d_L_isBeyondRatios_76 (fun H locs hH hS => ?_)
    refine lv_if_le (tgt := 86) M.x M.b d_L_isBeyondRatios_79 (by decide) (fun c3 => ?_) (fun c3 => ?_)
    · replace hf := z_t c3 hf
      exact w_L_isBeyondRatios_86 M this k8 hk8 _ _ _ _ _ _ hf H locs ls hH hS (lv_sub hl [0, 1, 2, 3, 4, 5] rfl)
    · replace hf := z_f c3 hf
      exact w_L_isBeyondRatios_82 M this k8 hk8 _ _ _ _ _ hf H locs ls hH hS (lv_sub hl [0, 1, 2, 3, 5] rfl)
def f_L_isBeyondRatios_60 (this : Nat) (k8 : Int32 → Int32 → Int32 → Int32 → Int32 → Hp → Option ((Int32 × Hp))) (x1 : Int32) (x2 : Int32) (x4 : Int32) (x5 : Int32) (h : Hp) : Option ((Int32 × Hp)) :=
  f_L_isBeyondRatios_63 this k8 x1 x2 x5 x4 x5 h
set_option maxRecDepth 100000 in
set_option maxHeartbeats 4000000 in
theorem w_L_isBeyondRatios_60 {p : Program} {l : Launch} {e : Env} {s : State} {m : MethodId} {args : Array Value} {below : List Frame} {meth : Method} {c : Code} {N0 : Nat} {D : va_G} {cs : Nat → ClassId} (M : ZC p s m args meth c "YearBaskets$Laws" "isBeyondRatios" b_L_isBeyondRatios 6 (some .boolean) N0 D cs) (this : Nat) (k8 : Int32 → Int32 → Int32 → Int32 → Int32 → Hp → Option ((Int32 × Hp))) {r0 : Int32} {h0 : Hp} (hk8 : ∀ (x1 : Int32) (x2 : Int32) (x3 : Int32) (x4 : Int32) (x5 : Int32) (h : Hp), k8 x1 x2 x3 x4 x5 h = some (r0, h0) → ZG p l e (zrm 4 0 0) s m args below meth c N0 D cs (some (.int r0)) h0 h 6 [(0, .ref this), (1, .int x1), (2, .int x2), (3, .int x3), (4, .int x4), (5, .int x5)] 8 []) (x1 : Int32) (x2 : Int32) (x4 : Int32) (x5 : Int32) (h : Hp) (hf : f_L_isBeyondRatios_60 this k8 x1 x2 x4 x5 h = some (r0, h0)) : ZG p l e (zrm 4 0 0) s m args below meth c N0 D cs (some (.int r0)) h0 h 6 [(0, .ref this), (1, .int x1), (2, .int x2), (4, .int x4), (5, .int x5)] 60 [] := by
  intro H locs ls hH hS hl
  unfold f_L_isBeyondRatios_60 at hf
  refine lv_iload M.x M.b d_L_isBeyondRatios_60 (lv_at hl 4 rfl) ?_
  refine lv_istore_n (lv' := [(3, .int x5), (0, .ref this), (1, .int x1), (2, .int x2), (4, .int x4), (5, .int x5)]) M.x M.b d_L_isBeyondRatios_62 rfl hl (by decide) rfl (fun ls hl => ?_)
  exact w_L_isBeyondRatios_63 M this k8 hk8 _ _ _ _ _ _ hf H locs ls hH hS (lv_sub hl [1, 2, 3, 0, 4, 5] rfl)
def t_L_isBeyondRatios_8 (this : Nat) (k8 : Int32 → Int32 → Int32 → Int32 → Int32 → Hp → Option ((Int32 × Hp))) (x1 : Int32) (x2 : Int32) (x3 : Int32) (x4 : Int32) (x5 : Int32) (h : Hp) : Option ((Int32 × Hp)) :=
  if (5 : Int32) ≤ x5 then
    (gA h this 2 8).bind fun r5 =>
    (r5).bind fun a7 =>
    (f_L_recall this x1 x2 a7 h).bind fun h10 =>
    if x3 = (-1 : Int32) then
      some ((0 : Int32), h10)
    else
    (gA h10 this 2 8).bind fun r11 =>
    (r11).bind fun a13 =>
    (gI h10 a13 1 3).bind fun i15 =>
    if i15 = 0 then
      (gA h10 this 2 9).bind fun r17 =>
      (gA h10 this 2 0).bind fun r19 =>
      (r19).bind fun a21 =>
      (r17).bind fun a23 =>
      (f_B_priceOf a21 h10 x2 x3).bind fun i26 =>
      (gA h10 this 2 0).bind fun r27 =>
      (r27).bind fun a29 =>
      (f_B_priceOf a29 h10 x1 x3).bind fun i32 =>
      (f_F_put a23 (i26).toInt64 (i32).toInt64 h10).bind fun h34 =>
      (gA h34 this 2 8).bind fun r35 =>
      (gA h34 this 2 9).bind fun r37 =>
      (r35).bind fun a39 =>
      (r37).bind fun a41 =>
      (f_F_orderOf h34 a39 a41).bind fun i44 =>
      if i44 = (-1 : Int32) then
        some ((1 : Int32), h34)
      else
      (gA h34 this 2 9).bind fun r45 =>
      (gA h34 this 2 0).bind fun r47 =>
      (r47).bind fun a49 =>
      (r45).bind fun a51 =>
      (f_B_priceOf a49 h34 x2 x4).bind fun i54 =>
      (gA h34 this 2 0).bind fun r55 =>
      (r55).bind fun a57 =>
      (f_B_priceOf a57 h34 x1 x4).bind fun i60 =>
      (f_F_put a51 (i54).toInt64 (i60).toInt64 h34).bind fun h62 =>
      (gA h62 this 2 8).bind fun r63 =>
      (gA h62 this 2 9).bind fun r65 =>
      (r63).bind fun a67 =>
      (r65).bind fun a69 =>
      (f_F_orderOf h62 a67 a69).bind fun i72 =>
      if i72 = (1 : Int32) then
        some ((1 : Int32), h62)
      else
      some ((0 : Int32), h62)
    else
    some ((0 : Int32), h10)
  else
  (gA h this 2 0).bind fun r77 =>
  (r77).bind fun a79 =>
  (f_B_priceOf a79 h x1 x5).bind fun i82 =>
  if i82 = 0 then
    f_L_isBeyondRatios_86 this k8 x1 x2 x3 x4 x5 h
  else
  (gA h this 2 0).bind fun r83 =>
  (r83).bind fun a85 =>
  (f_B_priceOf a85 h x2 x5).bind fun i88 =>
  if i88 = 0 then
    f_L_isBeyondRatios_86 this k8 x1 x2 x3 x4 x5 h
  else
  if x3 = (-1 : Int32) then
    f_L_isBeyondRatios_60 this k8 x1 x2 x4 x5 h
  else
  (f_L_compareRatios this h x1 x2 x5 x3).bind fun i90 =>
  if 0 ≤ i90 then
    f_L_isBeyondRatios_63 this k8 x1 x2 x3 x4 x5 h
  else
  f_L_isBeyondRatios_60 this k8 x1 x2 x4 x5 h
set_option maxRecDepth 100000 in
set_option maxHeartbeats 4000000 in
theorem v_L_isBeyondRatios_8 {p : Program} {l : Launch} {e : Env} {s : State} {m : MethodId} {args : Array Value} {below : List Frame} {meth : Method} {c : Code} {N0 : Nat} {D : va_G} {cs : Nat → ClassId} (M : ZC p s m args meth c "YearBaskets$Laws" "isBeyondRatios" b_L_isBeyondRatios 6 (some .boolean) N0 D cs) (this : Nat) (k8 : Int32 → Int32 → Int32 → Int32 → Int32 → Hp → Option ((Int32 × Hp))) {r0 : Int32} {h0 : Hp} (hk8 : ∀ (x1 : Int32) (x2 : Int32) (x3 : Int32) (x4 : Int32) (x5 : Int32) (h : Hp), k8 x1 x2 x3 x4 x5 h = some (r0, h0) → ZG p l e (zrm 4 0 0) s m args below meth c N0 D cs (some (.int r0)) h0 h 6 [(0, .ref this), (1, .int x1), (2, .int x2), (3, .int x3), (4, .int x4), (5, .int x5)] 8 []) (x1 : Int32) (x2 : Int32) (x3 : Int32) (x4 : Int32) (x5 : Int32) (h : Hp) (hf : t_L_isBeyondRatios_8 this k8 x1 x2 x3 x4 x5 h = some (r0, h0)) : ZG p l e (zrm 4 0 0) s m args below meth c N0 D cs (some (.int r0)) h0 h 6 [(0, .ref this), (1, .int x1), (2, .int x2), (3, .int x3), (4, .int x4), (5, .int x5)] 8 [] := by
  intro H locs ls hH hS hl
  unfold t_L_isBeyondRatios_8 at hf
  refine lv_iload M.x M.b d_L_isBeyondRatios_8 (lv_at hl 5 rfl) ?_
  refine lv_iconst (v := (5 : Int32)) M.x M.b d_L_isBeyondRatios_10 rfl ?_
  refine lv_icmp_ge (tgt := 92) M.x M.b d_L_isBeyondRatios_11 (by decide) (fun c95 => ?_) (fun c95 => ?_)
  · replace hf := z_t c95 hf
    refine lv_aload_n M.x M.b d_L_isBeyondRatios_92 rfl (lv_at hl 0 rfl) ?_
    refine lv_iload_n M.x M.b d_L_isBeyondRatios_93 rfl (lv_at hl 1 rfl) ?_
    refine lv_iload_n M.x M.b d_L_isBeyondRatios_94 rfl (lv_at hl 2 rfl) ?_
    refine lv_aload_n M.x M.b d_L_isBeyondRatios_95 rfl (lv_at hl 0 rfl) ?_
    replace hf := z_bind hf; obtain ⟨r5, e6, hf⟩ := hf
    refine z_get (ci := 2) (k := 8) M hH rfl (by decide) zinL q_242 (gA_spec e6) d_L_isBeyondRatios_96 ?_
    rcases r5 with _ | a7
    · exact absurd hf z_nb0
    replace hf := z_sb hf
    replace hf := z_bind hf; obtain ⟨h10, e9, hf⟩ := hf
    refine zk_V (ci := 2) (st1 := []) M hH hS (c_L_recall e9) rfl (o_L_recall e9) w_L_recall q_271 [] rfl ⟨Nat.le_of_ble_eq_true rfl, Nat.le_of_ble_eq_true rfl⟩ hl.1 rfl rfl (Nat.le_of_ble_eq_true rfl) d_L_isBeyondRatios_99 (fun H locs hH hS => ?_)
    refine lv_iload_n M.x M.b d_L_isBeyondRatios_102 rfl (lv_at hl 3 rfl) ?_
    refine lv_iconst (v := (-1 : Int32)) M.x M.b d_L_isBeyondRatios_103 rfl ?_
    refine lv_icmp_eq (tgt := 117) M.x M.b d_L_isBeyondRatios_104 (by decide) (fun c76 => ?_) (fun c76 => ?_)
    · replace hf := z_t c76 hf
      refine lv_iconst (v := (0 : Int32)) M.x M.b d_L_isBeyondRatios_117 rfl ?_
      obtain ⟨rfl, rfl⟩ := z_r2 hf
      exact z_zret M hH hS (by decide) d_L_isBeyondRatios_118
    · replace hf := z_f c76 hf
      refine lv_aload_n M.x M.b d_L_isBeyondRatios_107 rfl (lv_at hl 0 rfl) ?_
      replace hf := z_bind hf; obtain ⟨r11, e12, hf⟩ := hf
      refine z_get (ci := 2) (k := 8) M hH rfl (by decide) zinL q_242 (gA_spec e12) d_L_isBeyondRatios_108 ?_
      rcases r11 with _ | a13
      · exact absurd hf z_nb0
      replace hf := z_sb hf
      replace hf := z_bind hf; obtain ⟨i15, e16, hf⟩ := hf
      refine z_getN (ci := 1) (k := 3) M hH rfl (by decide) zinF q_243 (gI_spec e16) d_L_isBeyondRatios_111 ?_
      refine lv_if_eq (tgt := 119) M.x M.b d_L_isBeyondRatios_114 (by decide) (fun c75 => ?_) (fun c75 => ?_)
      · replace hf := z_t c75 hf
        refine lv_aload_n M.x M.b d_L_isBeyondRatios_119 rfl (lv_at hl 0 rfl) ?_
        replace hf := z_bind hf; obtain ⟨r17, e18, hf⟩ := hf
        refine z_get (ci := 2) (k := 9) M hH rfl (by decide) zinL q_270 (gA_spec e18) d_L_isBeyondRatios_120 ?_
        refine lv_aload_n M.x M.b d_L_isBeyondRatios_123 rfl (lv_at hl 0 rfl) ?_
        replace hf := z_bind hf; obtain ⟨r19, e20, hf⟩ := hf
        refine z_get (ci := 2) (k := 0) M hH rfl (by decide) zinL q_251 (gA_spec e20) d_L_isBeyondRatios_124 ?_
        refine lv_iload_n M.x M.b d_L_isBeyondRatios_127 rfl (lv_at hl 2 rfl) ?_
        refine lv_iload_n M.x M.b d_L_isBeyondRatios_128 rfl (lv_at hl 3 rfl) ?_
        rcases r19 with _ | a21
        · exact absurd hf z_nb0
        replace hf := z_sb hf
        rcases r17 with _ | a23
        · exact absurd hf z_nb0
        replace hf := z_sb hf
        replace hf := z_bind hf; obtain ⟨i26, e25, hf⟩ := hf
        refine zk_V (ci := 0) (st1 := [.int i26, .ref a23]) M hH hS (c_B_priceOf e25) rfl (o_B_priceOf e25) w_B_priceOf q_258 [.ref a23] rfl ⟨Nat.le_of_ble_eq_true rfl, Nat.le_of_ble_eq_true rfl⟩ hl.1 rfl rfl (Nat.le_of_ble_eq_true rfl) d_L_isBeyondRatios_129 (fun H locs hH hS => ?_)
        refine lv_i2l M.x M.b d_L_isBeyondRatios_132 rfl ?_
        refine lv_aload_n M.x M.b d_L_isBeyondRatios_133 rfl (lv_at hl 0 rfl) ?_
        replace hf := z_bind hf; obtain ⟨r27, e28, hf⟩ := hf
        refine z_get (ci := 2) (k := 0) M hH rfl (by decide) zinL q_251 (gA_spec e28) d_L_isBeyondRatios_134 ?_
        refine lv_iload_n M.x M.b d_L_isBeyondRatios_137 rfl (lv_at hl 1 rfl) ?_
        refine lv_iload_n M.x M.b d_L_isBeyondRatios_138 rfl (lv_at hl 3 rfl) ?_
        rcases r27 with _ | a29
        · exact absurd hf z_nb0
        replace hf := z_sb hf
        replace hf := z_bind hf; obtain ⟨i32, e31, hf⟩ := hf
        refine zk_V (ci := 0) (st1 := [.int i32, .long (i26).toInt64, .ref a23]) M hH hS (c_B_priceOf e31) rfl (o_B_priceOf e31) w_B_priceOf q_258 [.long (i26).toInt64, .ref a23] rfl ⟨Nat.le_of_ble_eq_true rfl, Nat.le_of_ble_eq_true rfl⟩ hl.1 rfl rfl (Nat.le_of_ble_eq_true rfl) d_L_isBeyondRatios_139 (fun H locs hH hS => ?_)
        refine lv_i2l M.x M.b d_L_isBeyondRatios_142 rfl ?_
        replace hf := z_bind hf; obtain ⟨h34, e33, hf⟩ := hf
        refine zk_V (ci := 1) (st1 := []) M hH hS (c_F_put e33) rfl (o_F_put e33) w_F_put q_263 [] rfl ⟨Nat.le_of_ble_eq_true rfl, Nat.le_of_ble_eq_true rfl⟩ hl.1 rfl rfl (Nat.le_of_ble_eq_true rfl) d_L_isBeyondRatios_143 (fun H locs hH hS => ?_)
        refine lv_aload_n M.x M.b d_L_isBeyondRatios_146 rfl (lv_at hl 0 rfl) ?_
        replace hf := z_bind hf; obtain ⟨r35, e36, hf⟩ := hf
        refine z_get (ci := 2) (k := 8) M hH rfl (by decide) zinL q_242 (gA_spec e36) d_L_isBeyondRatios_147 ?_
        refine lv_aload_n M.x M.b d_L_isBeyondRatios_150 rfl (lv_at hl 0 rfl) ?_
        replace hf := z_bind hf; obtain ⟨r37, e38, hf⟩ := hf
        refine z_get (ci := 2) (k := 9) M hH rfl (by decide) zinL q_270 (gA_spec e38) d_L_isBeyondRatios_151 ?_
        rcases r35 with _ | a39
        · exact absurd hf z_nb0
        replace hf := z_sb hf
        rcases r37 with _ | a41
        · exact absurd hf z_nb0
        replace hf := z_sb hf
        replace hf := z_bind hf; obtain ⟨i44, e43, hf⟩ := hf
        refine zk_S (st1 := [.int i44]) M hH hS (c_F_orderOf e43) w_F_orderOf q_269 [] rfl ⟨Nat.le_of_ble_eq_true rfl, Nat.le_of_ble_eq_true rfl⟩ hl.1 rfl rfl (Nat.le_of_ble_eq_true rfl) d_L_isBeyondRatios_154 (fun H locs hH hS => ?_)
        refine lv_iconst (v := (-1 : Int32)) M.x M.b d_L_isBeyondRatios_157 rfl ?_
        refine lv_icmp_ne (tgt := 163) M.x M.b d_L_isBeyondRatios_158 (by decide) (fun c74 => ?_) (fun c74 => ?_)
        · replace hf := z_f c74 hf
          refine lv_aload_n M.x M.b d_L_isBeyondRatios_163 rfl (lv_at hl 0 rfl) ?_
          replace hf := z_bind hf; obtain ⟨r45, e46, hf⟩ := hf
          refine z_get (ci := 2) (k := 9) M hH rfl (by decide) zinL q_270 (gA_spec e46) d_L_isBeyondRatios_164 ?_
          refine lv_aload_n M.x M.b d_L_isBeyondRatios_167 rfl (lv_at hl 0 rfl) ?_
          replace hf := z_bind hf; obtain ⟨r47, e48, hf⟩ := hf
          refine z_get (ci := 2) (k := 0) M hH rfl (by decide) zinL q_251 (gA_spec e48) d_L_isBeyondRatios_168 ?_
          refine lv_iload_n M.x M.b d_L_isBeyondRatios_171 rfl (lv_at hl 2 rfl) ?_
          refine lv_iload M.x M.b d_L_isBeyondRatios_172 (lv_at hl 4 rfl) ?_
          rcases r47 with _ | a49
          · exact absurd hf z_nb0
          replace hf := z_sb hf
          rcases r45 with _ | a51
          · exact absurd hf z_nb0
          replace hf := z_sb hf
          replace hf := z_bind hf; obtain ⟨i54, e53, hf⟩ := hf
          refine zk_V (ci := 0) (st1 := [.int i54, .ref a51]) M hH hS (c_B_priceOf e53) rfl (o_B_priceOf e53) w_B_priceOf q_258 [.ref a51] rfl ⟨Nat.le_of_ble_eq_true rfl, Nat.le_of_ble_eq_true rfl⟩ hl.1 rfl rfl (Nat.le_of_ble_eq_true rfl) d_L_isBeyondRatios_174 (fun H locs hH hS => ?_)
          refine lv_i2l M.x M.b d_L_isBeyondRatios_177 rfl ?_
          refine lv_aload_n M.x M.b d_L_isBeyondRatios_178 rfl (lv_at hl 0 rfl) ?_
          replace hf := z_bind hf; obtain ⟨r55, e56, hf⟩ := hf
          refine z_get (ci := 2) (k := 0) M hH rfl (by decide) zinL q_251 (gA_spec e56) d_L_isBeyondRatios_179 ?_
          refine lv_iload_n M.x M.b d_L_isBeyondRatios_182 rfl (lv_at hl 1 rfl) ?_
          refine lv_iload M.x M.b d_L_isBeyondRatios_183 (lv_at hl 4 rfl) ?_
          rcases r55 with _ | a57
          · exact absurd hf z_nb0
          replace hf := z_sb hf
          replace hf := z_bind hf; obtain ⟨i60, e59, hf⟩ := hf
          refine zk_V (ci := 0) (st1 := [.int i60, .long (i54).toInt64, .ref a51]) M hH hS (c_B_priceOf e59) rfl (o_B_priceOf e59) w_B_priceOf q_258 [.long (i54).toInt64, .ref a51] rfl ⟨Nat.le_of_ble_eq_true rfl, Nat.le_of_ble_eq_true rfl⟩ hl.1 rfl rfl (Nat.le_of_ble_eq_true rfl) d_L_isBeyondRatios_185 (fun H locs hH hS => ?_)
          refine lv_i2l M.x M.b d_L_isBeyondRatios_188 rfl ?_
          replace hf := z_bind hf; obtain ⟨h62, e61, hf⟩ := hf
          refine zk_V (ci := 1) (st1 := []) M hH hS (c_F_put e61) rfl (o_F_put e61) w_F_put q_263 [] rfl ⟨Nat.le_of_ble_eq_true rfl, Nat.le_of_ble_eq_true rfl⟩ hl.1 rfl rfl (Nat.le_of_ble_eq_true rfl) d_L_isBeyondRatios_189 (fun H locs hH hS => ?_)
          refine lv_aload_n M.x M.b d_L_isBeyondRatios_192 rfl (lv_at hl 0 rfl) ?_
          replace hf := z_bind hf; obtain ⟨r63, e64, hf⟩ := hf
          refine z_get (ci := 2) (k := 8) M hH rfl (by decide) zinL q_242 (gA_spec e64) d_L_isBeyondRatios_193 ?_
          refine lv_aload_n M.x M.b d_L_isBeyondRatios_196 rfl (lv_at hl 0 rfl) ?_
          replace hf := z_bind hf; obtain ⟨r65, e66, hf⟩ := hf
          refine z_get (ci := 2) (k := 9) M hH rfl (by decide) zinL q_270 (gA_spec e66) d_L_isBeyondRatios_197 ?_
          rcases r63 with _ | a67
          · exact absurd hf z_nb0
          replace hf := z_sb hf
          rcases r65 with _ | a69
          · exact absurd hf z_nb0
          replace hf := z_sb hf
          replace hf := z_bind hf; obtain ⟨i72, e71, hf⟩ := hf
          refine zk_S (st1 := [.int i72]) M hH hS (c_F_orderOf e71) w_F_orderOf q_269 [] rfl ⟨Nat.le_of_ble_eq_true rfl, Nat.le_of_ble_eq_true rfl⟩ hl.1 rfl rfl (Nat.le_of_ble_eq_true rfl) d_L_isBeyondRatios_200 (fun H locs hH hS => ?_)
          refine lv_iconst (v := (1 : Int32)) M.x M.b d_L_isBeyondRatios_203 rfl ?_
          refine lv_icmp_ne (tgt := 211) M.x M.b d_L_isBeyondRatios_204 (by decide) (fun c73 => ?_) (fun c73 => ?_)
          · replace hf := z_f c73 hf
            refine lv_iconst (v := (0 : Int32)) M.x M.b d_L_isBeyondRatios_211 rfl ?_
            obtain ⟨rfl, rfl⟩ := z_r2 hf
            exact z_zret M hH hS (by decide) d_L_isBeyondRatios_212
          · replace hf := z_t c73 hf
            refine lv_iconst (v := (1 : Int32)) M.x M.b d_L_isBeyondRatios_207 rfl ?_
            refine lv_goto (tgt := 212) M.x M.b d_L_isBeyondRatios_208 (by decide) ?_
            obtain ⟨rfl, rfl⟩ := z_r2 hf
            exact z_zret M hH hS (by decide) d_L_isBeyondRatios_212
        · replace hf := z_t c74 hf
          refine lv_iconst (v := (1 : Int32)) M.x M.b d_L_isBeyondRatios_161 rfl ?_
          obtain ⟨rfl, rfl⟩ := z_r2 hf
          exact z_zret M hH hS (by decide) d_L_isBeyondRatios_162
      · replace hf := z_f c75 hf
        refine lv_iconst (v := (0 : Int32)) M.x M.b d_L_isBeyondRatios_117 rfl ?_
        obtain ⟨rfl, rfl⟩ := z_r2 hf
        exact z_zret M hH hS (by decide) d_L_isBeyondRatios_118
  · replace hf := z_f c95 hf
    refine lv_aload_n M.x M.b d_L_isBeyondRatios_14 rfl (lv_at hl 0 rfl) ?_
    replace hf := z_bind hf; obtain ⟨r77, e78, hf⟩ := hf
    refine z_get (ci := 2) (k := 0) M hH rfl (by decide) zinL q_251 (gA_spec e78) d_L_isBeyondRatios_15 ?_
    refine lv_iload_n M.x M.b d_L_isBeyondRatios_18 rfl (lv_at hl 1 rfl) ?_
    refine lv_iload M.x M.b d_L_isBeyondRatios_19 (lv_at hl 5 rfl) ?_
    rcases r77 with _ | a79
    · exact absurd hf z_nb0
    replace hf := z_sb hf
    replace hf := z_bind hf; obtain ⟨i82, e81, hf⟩ := hf
    refine zk_V (ci := 0) (st1 := [.int i82]) M hH hS (c_B_priceOf e81) rfl (o_B_priceOf e81) w_B_priceOf q_258 [] rfl ⟨Nat.le_of_ble_eq_true rfl, Nat.le_of_ble_eq_true rfl⟩ hl.1 rfl rfl (Nat.le_of_ble_eq_true rfl) d_L_isBeyondRatios_21 (fun H locs hH hS => ?_)
    refine lv_if_eq (tgt := 86) M.x M.b d_L_isBeyondRatios_24 (by decide) (fun c94 => ?_) (fun c94 => ?_)
    · replace hf := z_t c94 hf
      exact w_L_isBeyondRatios_86 M this k8 hk8 _ _ _ _ _ _ hf H locs ls hH hS (lv_sub hl [0, 1, 2, 3, 4, 5] rfl)
    · replace hf := z_f c94 hf
      refine lv_aload_n M.x M.b d_L_isBeyondRatios_27 rfl (lv_at hl 0 rfl) ?_
      replace hf := z_bind hf; obtain ⟨r83, e84, hf⟩ := hf
      refine z_get (ci := 2) (k := 0) M hH rfl (by decide) zinL q_251 (gA_spec e84) d_L_isBeyondRatios_28 ?_
      refine lv_iload_n M.x M.b d_L_isBeyondRatios_31 rfl (lv_at hl 2 rfl) ?_
      refine lv_iload M.x M.b d_L_isBeyondRatios_32 (lv_at hl 5 rfl) ?_
      rcases r83 with _ | a85
      · exact absurd hf z_nb0
      replace hf := z_sb hf
      replace hf := z_bind hf; obtain ⟨i88, e87, hf⟩ := hf
      refine zk_V (ci := 0) (st1 := [.int i88]) M hH hS (c_B_priceOf e87) rfl (o_B_priceOf e87) w_B_priceOf q_258 [] rfl ⟨Nat.le_of_ble_eq_true rfl, Nat.le_of_ble_eq_true rfl⟩ hl.1 rfl rfl (Nat.le_of_ble_eq_true rfl) d_L_isBeyondRatios_34 (fun H locs hH hS => ?_)
      refine lv_if_ne (tgt := 43) M.x M.b d_L_isBeyondRatios_37 (by decide) (fun c93 => ?_) (fun c93 => ?_)
      · replace hf := z_f c93 hf
        refine lv_iload_n M.x M.b d_L_isBeyondRatios_43 rfl (lv_at hl 3 rfl) ?_
        refine lv_iconst (v := (-1 : Int32)) M.x M.b d_L_isBeyondRatios_44 rfl ?_
        refine lv_icmp_eq (tgt := 60) M.x M.b d_L_isBeyondRatios_45 (by decide) (fun c92 => ?_) (fun c92 => ?_)
        · replace hf := z_t c92 hf
          exact w_L_isBeyondRatios_60 M this k8 hk8 _ _ _ _ _ hf H locs ls hH hS (lv_sub hl [0, 1, 2, 4, 5] rfl)
        · replace hf := z_f c92 hf
          refine lv_aload_n M.x M.b d_L_isBeyondRatios_48 rfl (lv_at hl 0 rfl) ?_
          refine lv_iload_n M.x M.b d_L_isBeyondRatios_49 rfl (lv_at hl 1 rfl) ?_
          refine lv_iload_n M.x M.b d_L_isBeyondRatios_50 rfl (lv_at hl 2 rfl) ?_
          refine lv_iload M.x M.b d_L_isBeyondRatios_51 (lv_at hl 5 rfl) ?_
          refine lv_iload_n M.x M.b d_L_isBeyondRatios_53 rfl (lv_at hl 3 rfl) ?_
          replace hf := z_bind hf; obtain ⟨i90, e89, hf⟩ := hf
          refine zk_V (ci := 2) (st1 := [.int i90]) M hH hS (c_L_compareRatios e89) rfl (o_L_compareRatios e89) w_L_compareRatios q_268 [] rfl ⟨Nat.le_of_ble_eq_true rfl, Nat.le_of_ble_eq_true rfl⟩ hl.1 rfl rfl (Nat.le_of_ble_eq_true rfl) d_L_isBeyondRatios_54 (fun H locs hH hS => ?_)
          refine lv_if_ge (tgt := 63) M.x M.b d_L_isBeyondRatios_57 (by decide) (fun c91 => ?_) (fun c91 => ?_)
          · replace hf := z_t c91 hf
            exact w_L_isBeyondRatios_63 M this k8 hk8 _ _ _ _ _ _ hf H locs ls hH hS (lv_sub hl [0, 1, 2, 3, 4, 5] rfl)
          · replace hf := z_f c91 hf
            exact w_L_isBeyondRatios_60 M this k8 hk8 _ _ _ _ _ hf H locs ls hH hS (lv_sub hl [0, 1, 2, 4, 5] rfl)
      · replace hf := z_t c93 hf
        refine lv_goto (tgt := 86) M.x M.b d_L_isBeyondRatios_40 (by decide) ?_
        exact w_L_isBeyondRatios_86 M this k8 hk8 _ _ _ _ _ _ hf H locs ls hH hS (lv_sub hl [0, 1, 2, 3, 4, 5] rfl)
def f_L_isBeyondRatios_8 (this : Nat) : Nat → Int32 → Int32 → Int32 → Int32 → Int32 → Hp → Option ((Int32 × Hp))
  | 0, _, _, _, _, _, _ => none
  | n + 1, x1, x2, x3, x4, x5, h => t_L_isBeyondRatios_8 this (f_L_isBeyondRatios_8 this n) x1 x2 x3 x4 x5 h
theorem w_L_isBeyondRatios_8 {p : Program} {l : Launch} {e : Env} {s : State} {m : MethodId} {args : Array Value} {below : List Frame} {meth : Method} {c : Code} {N0 : Nat} {D : va_G} {cs : Nat → ClassId} (M : ZC p s m args meth c "YearBaskets$Laws" "isBeyondRatios" b_L_isBeyondRatios 6 (some .boolean) N0 D cs) (this : Nat)  {r0 : Int32} {h0 : Hp}  : ∀ (n : Nat) (x1 : Int32) (x2 : Int32) (x3 : Int32) (x4 : Int32) (x5 : Int32) (h : Hp), f_L_isBeyondRatios_8 this n x1 x2 x3 x4 x5 h = some (r0, h0) → ZG p l e (zrm 4 0 0) s m args below meth c N0 D cs (some (.int r0)) h0 h 6 [(0, .ref this), (1, .int x1), (2, .int x2), (3, .int x3), (4, .int x4), (5, .int x5)] 8 [] := by
  intro n
  induction n with
  | zero => intro x1 x2 x3 x4 x5 h hf; exact absurd (show none = some _ from hf) (fun q => by cases q)
  | succ n ih => intro x1 x2 x3 x4 x5 h hf; exact v_L_isBeyondRatios_8 M this (f_L_isBeyondRatios_8 this n)  ih _ _ _ _ _ _ hf
def f_L_isBeyondRatios (this : Nat) (x1 : Int32) (x2 : Int32) (h : Hp) : Option ((Int32 × Hp)) :=
  if isO h this 2 = true then
  f_L_isBeyondRatios_8 this FU x1 x2 (-1 : Int32) (-1 : Int32) (0 : Int32) h
  else none
theorem o_L_isBeyondRatios {this : Nat} {x1 : Int32} {x2 : Int32} {h : Hp} {r0 : Int32} {h0 : Hp} (hf : f_L_isBeyondRatios this x1 x2 h = some (r0, h0)) : isO h this 2 = true := by
  unfold f_L_isBeyondRatios at hf
  exact (z_gd hf).1
set_option maxRecDepth 100000 in
set_option maxHeartbeats 4000000 in
theorem c_L_isBeyondRatios {l : Launch} {N0 : Nat} {D : va_G} {cs : Nat → ClassId} {this : Nat} {x1 : Int32} {x2 : Int32} {h : Hp} {r0 : Int32} {h0 : Hp} (hf : f_L_isBeyondRatios this x1 x2 h = some (r0, h0)) : Fn l N0 D cs y_L_isBeyondRatios b_L_isBeyondRatios 6 (some .boolean) 4 0 0 [.ref this, .int x1, .int x2] h (some (.int r0)) h0 := by
  refine z_start (by decide) (Nat.le_of_ble_eq_true rfl) ?_
  intro p e s m args below meth c M hH hS ls hl
  unfold f_L_isBeyondRatios at hf
  obtain ⟨hO, hf⟩ := z_gd hf
  have hl : lv_has ls 6 [(0, .ref this), (1, .int x1), (2, .int x2)] := hl
  obtain ⟨H, hHe⟩ : ∃ H, H = s.heap := ⟨_, rfl⟩
  obtain ⟨locs, hLe⟩ : ∃ locs : List Loc, locs = [] := ⟨_, rfl⟩
  have hS : va_S (zA N0) s.heap H locs := by rw [hHe, hLe]; exact hS
  have hH : HH N0 D cs h H := by rw [hHe]; exact hH
  suffices hg : W p l e (zrm 4 0 0) s m args below meth c H locs 0 0 (MQ below (zQ N0 D cs (some (.int r0)) h0) args s 0 0 (zA N0)) (F0 m 0 ls []) by rw [hHe, hLe] at hg; exact hg
  clear hHe hLe
  refine lv_iconst (v := (-1 : Int32)) M.x M.b d_L_isBeyondRatios_0 rfl ?_
  refine lv_istore_n (lv' := [(3, .int (-1 : Int32)), (0, .ref this), (1, .int x1), (2, .int x2)]) M.x M.b d_L_isBeyondRatios_1 rfl hl (by decide) rfl (fun ls hl => ?_)
  refine lv_iconst (v := (-1 : Int32)) M.x M.b d_L_isBeyondRatios_2 rfl ?_
  refine lv_istore (lv' := [(4, .int (-1 : Int32)), (3, .int (-1 : Int32)), (0, .ref this), (1, .int x1), (2, .int x2)]) M.x M.b d_L_isBeyondRatios_3 hl (by decide) rfl (fun ls hl => ?_)
  refine lv_iconst (v := (0 : Int32)) M.x M.b d_L_isBeyondRatios_5 rfl ?_
  refine lv_istore (lv' := [(5, .int (0 : Int32)), (4, .int (-1 : Int32)), (3, .int (-1 : Int32)), (0, .ref this), (1, .int x1), (2, .int x2)]) M.x M.b d_L_isBeyondRatios_6 hl (by decide) rfl (fun ls hl => ?_)
  exact w_L_isBeyondRatios_8 M this FU _ _ _ _ _ _ hf H locs ls hH hS (lv_sub hl [3, 4, 5, 2, 1, 0] rfl)
def f_L_changeBooks (this : Nat) (x1 : Int32) (x2 : Int32) (x3 : Int32) (x4 : Int32) (h : Hp) : Option (Hp) :=
  if isO h this 2 = true then
  (gA h this 2 1).bind fun r1 =>
  (gA h this 2 0).bind fun r3 =>
  (r3).bind fun a5 =>
  (r1).bind fun a7 =>
  (f_B_copyFrom a7 a5 h).bind fun h10 =>
  if x1 = (0 : Int32) then
    (gA h10 this 2 1).bind fun r12 =>
    (r12).bind fun a14 =>
    (f_B_copyYear a14 x2 x3 h10).bind fun h17 =>
    some h17
  else
  if x1 = (1 : Int32) then
    (gA h10 this 2 1).bind fun r19 =>
    (gA h10 this 2 1).bind fun r21 =>
    (r21).bind fun a23 =>
    (r19).bind fun a25 =>
    (f_B_priceOf a23 h10 x3 x4).bind fun i28 =>
    (f_B_setPrice a25 x3 x4 (i28 + (1 : Int32)) h10).bind fun h30 =>
    some h30
  else
  if x1 = (2 : Int32) then
    (gA h10 this 2 1).bind fun r32 =>
    (gA h10 this 2 1).bind fun r34 =>
    (r34).bind fun a36 =>
    (r32).bind fun a38 =>
    (f_B_priceOf a36 h10 x3 x4).bind fun i41 =>
    (f_B_setPrice a38 x3 x4 (i41 + (1 : Int32)) h10).bind fun h43 =>
    some h43
  else
  if x1 = (3 : Int32) then
    (gA h10 this 2 1).bind fun r45 =>
    (r45).bind fun a47 =>
    (f_B_doubleYear a47 x3 h10).bind fun h50 =>
    some h50
  else
  if x1 = (4 : Int32) then
    (gA h10 this 2 1).bind fun r52 =>
    (gI h10 this 2 11).bind fun i54 =>
    (r52).bind fun a56 =>
    (f_B_doubleUnit a56 x4 i54 h10).bind fun h59 =>
    some h59
  else
  (gA h10 this 2 1).bind fun r60 =>
  (gA h10 this 2 1).bind fun r62 =>
  (r62).bind fun a64 =>
  (r60).bind fun a66 =>
  (f_B_priceOf a64 h10 x3 x4).bind fun i69 =>
  (f_B_setPrice a66 x3 x4 (i69 + (1 : Int32)) h10).bind fun h71 =>
  some h71
  else none
theorem o_L_changeBooks {this : Nat} {x1 : Int32} {x2 : Int32} {x3 : Int32} {x4 : Int32} {h : Hp} {h0 : Hp} (hf : f_L_changeBooks this x1 x2 x3 x4 h = some h0) : isO h this 2 = true := by
  unfold f_L_changeBooks at hf
  exact (z_gd hf).1
set_option maxRecDepth 100000 in
set_option maxHeartbeats 4000000 in
theorem c_L_changeBooks {l : Launch} {N0 : Nat} {D : va_G} {cs : Nat → ClassId} {this : Nat} {x1 : Int32} {x2 : Int32} {x3 : Int32} {x4 : Int32} {h : Hp} {h0 : Hp} (hf : f_L_changeBooks this x1 x2 x3 x4 h = some h0) : Fn l N0 D cs y_L_changeBooks b_L_changeBooks 5 (none) 3 0 0 [.ref this, .int x1, .int x2, .int x3, .int x4] h none h0 := by
  refine z_start (by decide) (Nat.le_of_ble_eq_true rfl) ?_
  intro p e s m args below meth c M hH hS ls hl
  unfold f_L_changeBooks at hf
  obtain ⟨hO, hf⟩ := z_gd hf
  have hl : lv_has ls 5 [(0, .ref this), (1, .int x1), (2, .int x2), (3, .int x3), (4, .int x4)] := hl
  obtain ⟨H, hHe⟩ : ∃ H, H = s.heap := ⟨_, rfl⟩
  obtain ⟨locs, hLe⟩ : ∃ locs : List Loc, locs = [] := ⟨_, rfl⟩
  have hS : va_S (zA N0) s.heap H locs := by rw [hHe, hLe]; exact hS
  have hH : HH N0 D cs h H := by rw [hHe]; exact hH
  suffices hg : W p l e (zrm 3 0 0) s m args below meth c H locs 0 0 (MQ below (zQ N0 D cs none h0) args s 0 0 (zA N0)) (F0 m 0 ls []) by rw [hHe, hLe] at hg; exact hg
  clear hHe hLe
  refine lv_aload_n M.x M.b d_L_changeBooks_0 rfl (lv_at hl 0 rfl) ?_
  replace hf := z_bind hf; obtain ⟨r1, e2, hf⟩ := hf
  refine z_get (ci := 2) (k := 1) M hH rfl (by decide) zinL q_276 (gA_spec e2) d_L_changeBooks_1 ?_
  refine lv_aload_n M.x M.b d_L_changeBooks_4 rfl (lv_at hl 0 rfl) ?_
  replace hf := z_bind hf; obtain ⟨r3, e4, hf⟩ := hf
  refine z_get (ci := 2) (k := 0) M hH rfl (by decide) zinL q_251 (gA_spec e4) d_L_changeBooks_5 ?_
  rcases r3 with _ | a5
  · exact absurd hf z_nb0
  replace hf := z_sb hf
  rcases r1 with _ | a7
  · exact absurd hf z_nb0
  replace hf := z_sb hf
  replace hf := z_bind hf; obtain ⟨h10, e9, hf⟩ := hf
  refine zk_V (ci := 0) (st1 := []) M hH hS (c_B_copyFrom e9) rfl (o_B_copyFrom e9) w_B_copyFrom q_280 [] rfl ⟨Nat.le_of_ble_eq_true rfl, Nat.le_of_ble_eq_true rfl⟩ hl.1 rfl rfl (Nat.le_of_ble_eq_true rfl) d_L_changeBooks_8 (fun H locs hH hS => ?_)
  refine lv_iload_n M.x M.b d_L_changeBooks_11 rfl (lv_at hl 1 rfl) ?_
  by_cases c11 : x1 = (0 : Int32)
  · replace hf := z_t c11 hf
    refine lv_tableIn (tgt := 48) (off := 36) M.x M.b d_L_changeBooks_12 (by rw [c11]; decide) (by rw [c11]; decide) (by rw [c11]; rfl) (by decide) ?_
    refine lv_aload_n M.x M.b d_L_changeBooks_48 rfl (lv_at hl 0 rfl) ?_
    replace hf := z_bind hf; obtain ⟨r12, e13, hf⟩ := hf
    refine z_get (ci := 2) (k := 1) M hH rfl (by decide) zinL q_276 (gA_spec e13) d_L_changeBooks_49 ?_
    refine lv_iload_n M.x M.b d_L_changeBooks_52 rfl (lv_at hl 2 rfl) ?_
    refine lv_iload_n M.x M.b d_L_changeBooks_53 rfl (lv_at hl 3 rfl) ?_
    rcases r12 with _ | a14
    · exact absurd hf z_nb0
    replace hf := z_sb hf
    replace hf := z_bind hf; obtain ⟨h17, e16, hf⟩ := hf
    refine zk_V (ci := 0) (st1 := []) M hH hS (c_B_copyYear e16) rfl (o_B_copyYear e16) w_B_copyYear q_275 [] rfl ⟨Nat.le_of_ble_eq_true rfl, Nat.le_of_ble_eq_true rfl⟩ hl.1 rfl rfl (Nat.le_of_ble_eq_true rfl) d_L_changeBooks_54 (fun H locs hH hS => ?_)
    refine lv_goto (tgt := 109) M.x M.b d_L_changeBooks_57 (by decide) ?_
    obtain rfl := z_r1 hf
    exact z_vret M hH hS d_L_changeBooks_109
  replace hf := z_f c11 hf
  by_cases c18 : x1 = (1 : Int32)
  · replace hf := z_t c18 hf
    refine lv_tableIn (tgt := 87) (off := 75) M.x M.b d_L_changeBooks_12 (by rw [c18]; decide) (by rw [c18]; decide) (by rw [c18]; rfl) (by decide) ?_
    refine lv_aload_n M.x M.b d_L_changeBooks_87 rfl (lv_at hl 0 rfl) ?_
    replace hf := z_bind hf; obtain ⟨r19, e20, hf⟩ := hf
    refine z_get (ci := 2) (k := 1) M hH rfl (by decide) zinL q_276 (gA_spec e20) d_L_changeBooks_88 ?_
    refine lv_iload_n M.x M.b d_L_changeBooks_91 rfl (lv_at hl 3 rfl) ?_
    refine lv_iload M.x M.b d_L_changeBooks_92 (lv_at hl 4 rfl) ?_
    refine lv_aload_n M.x M.b d_L_changeBooks_94 rfl (lv_at hl 0 rfl) ?_
    replace hf := z_bind hf; obtain ⟨r21, e22, hf⟩ := hf
    refine z_get (ci := 2) (k := 1) M hH rfl (by decide) zinL q_276 (gA_spec e22) d_L_changeBooks_95 ?_
    refine lv_iload_n M.x M.b d_L_changeBooks_98 rfl (lv_at hl 3 rfl) ?_
    refine lv_iload M.x M.b d_L_changeBooks_99 (lv_at hl 4 rfl) ?_
    rcases r21 with _ | a23
    · exact absurd hf z_nb0
    replace hf := z_sb hf
    rcases r19 with _ | a25
    · exact absurd hf z_nb0
    replace hf := z_sb hf
    replace hf := z_bind hf; obtain ⟨i28, e27, hf⟩ := hf
    refine zk_V (ci := 0) (st1 := [.int i28, .int x4, .int x3, .ref a25]) M hH hS (c_B_priceOf e27) rfl (o_B_priceOf e27) w_B_priceOf q_258 [.int x4, .int x3, .ref a25] rfl ⟨Nat.le_of_ble_eq_true rfl, Nat.le_of_ble_eq_true rfl⟩ hl.1 rfl rfl (Nat.le_of_ble_eq_true rfl) d_L_changeBooks_101 (fun H locs hH hS => ?_)
    refine lv_iconst (v := (1 : Int32)) M.x M.b d_L_changeBooks_104 rfl ?_
    refine lv_iadd M.x M.b d_L_changeBooks_105 ?_
    replace hf := z_bind hf; obtain ⟨h30, e29, hf⟩ := hf
    refine zk_V (ci := 0) (st1 := []) M hH hS (c_B_setPrice e29) rfl (o_B_setPrice e29) w_B_setPrice q_277 [] rfl ⟨Nat.le_of_ble_eq_true rfl, Nat.le_of_ble_eq_true rfl⟩ hl.1 rfl rfl (Nat.le_of_ble_eq_true rfl) d_L_changeBooks_106 (fun H locs hH hS => ?_)
    obtain rfl := z_r1 hf
    exact z_vret M hH hS d_L_changeBooks_109
  replace hf := z_f c18 hf
  by_cases c31 : x1 = (2 : Int32)
  · replace hf := z_t c31 hf
    refine lv_tableIn (tgt := 87) (off := 75) M.x M.b d_L_changeBooks_12 (by rw [c31]; decide) (by rw [c31]; decide) (by rw [c31]; rfl) (by decide) ?_
    refine lv_aload_n M.x M.b d_L_changeBooks_87 rfl (lv_at hl 0 rfl) ?_
    replace hf := z_bind hf; obtain ⟨r32, e33, hf⟩ := hf
    refine z_get (ci := 2) (k := 1) M hH rfl (by decide) zinL q_276 (gA_spec e33) d_L_changeBooks_88 ?_
    refine lv_iload_n M.x M.b d_L_changeBooks_91 rfl (lv_at hl 3 rfl) ?_
    refine lv_iload M.x M.b d_L_changeBooks_92 (lv_at hl 4 rfl) ?_
    refine lv_aload_n M.x M.b d_L_changeBooks_94 rfl (lv_at hl 0 rfl) ?_
    replace hf := z_bind hf; obtain ⟨r34, e35, hf⟩ := hf
    refine z_get (ci := 2) (k := 1) M hH rfl (by decide) zinL q_276 (gA_spec e35) d_L_changeBooks_95 ?_
    refine lv_iload_n M.x M.b d_L_changeBooks_98 rfl (lv_at hl 3 rfl) ?_
    refine lv_iload M.x M.b d_L_changeBooks_99 (lv_at hl 4 rfl) ?_
    rcases r34 with _ | a36
    · exact absurd hf z_nb0
    replace hf := z_sb hf
    rcases r32 with _ | a38
    · exact absurd hf z_nb0
    replace hf := z_sb hf
    replace hf := z_bind hf; obtain ⟨i41, e40, hf⟩ := hf
    refine zk_V (ci := 0) (st1 := [.int i41, .int x4, .int x3, .ref a38]) M hH hS (c_B_priceOf e40) rfl (o_B_priceOf e40) w_B_priceOf q_258 [.int x4, .int x3, .ref a38] rfl ⟨Nat.le_of_ble_eq_true rfl, Nat.le_of_ble_eq_true rfl⟩ hl.1 rfl rfl (Nat.le_of_ble_eq_true rfl) d_L_changeBooks_101 (fun H locs hH hS => ?_)
    refine lv_iconst (v := (1 : Int32)) M.x M.b d_L_changeBooks_104 rfl ?_
    refine lv_iadd M.x M.b d_L_changeBooks_105 ?_
    replace hf := z_bind hf; obtain ⟨h43, e42, hf⟩ := hf
    refine zk_V (ci := 0) (st1 := []) M hH hS (c_B_setPrice e42) rfl (o_B_setPrice e42) w_B_setPrice q_277 [] rfl ⟨Nat.le_of_ble_eq_true rfl, Nat.le_of_ble_eq_true rfl⟩ hl.1 rfl rfl (Nat.le_of_ble_eq_true rfl) d_L_changeBooks_106 (fun H locs hH hS => ?_)
    obtain rfl := z_r1 hf
    exact z_vret M hH hS d_L_changeBooks_109
  replace hf := z_f c31 hf
  by_cases c44 : x1 = (3 : Int32)
  · replace hf := z_t c44 hf
    refine lv_tableIn (tgt := 60) (off := 48) M.x M.b d_L_changeBooks_12 (by rw [c44]; decide) (by rw [c44]; decide) (by rw [c44]; rfl) (by decide) ?_
    refine lv_aload_n M.x M.b d_L_changeBooks_60 rfl (lv_at hl 0 rfl) ?_
    replace hf := z_bind hf; obtain ⟨r45, e46, hf⟩ := hf
    refine z_get (ci := 2) (k := 1) M hH rfl (by decide) zinL q_276 (gA_spec e46) d_L_changeBooks_61 ?_
    refine lv_iload_n M.x M.b d_L_changeBooks_64 rfl (lv_at hl 3 rfl) ?_
    rcases r45 with _ | a47
    · exact absurd hf z_nb0
    replace hf := z_sb hf
    replace hf := z_bind hf; obtain ⟨h50, e49, hf⟩ := hf
    refine zk_V (ci := 0) (st1 := []) M hH hS (c_B_doubleYear e49) rfl (o_B_doubleYear e49) w_B_doubleYear q_278 [] rfl ⟨Nat.le_of_ble_eq_true rfl, Nat.le_of_ble_eq_true rfl⟩ hl.1 rfl rfl (Nat.le_of_ble_eq_true rfl) d_L_changeBooks_65 (fun H locs hH hS => ?_)
    refine lv_goto (tgt := 109) M.x M.b d_L_changeBooks_68 (by decide) ?_
    obtain rfl := z_r1 hf
    exact z_vret M hH hS d_L_changeBooks_109
  replace hf := z_f c44 hf
  by_cases c51 : x1 = (4 : Int32)
  · replace hf := z_t c51 hf
    refine lv_tableIn (tgt := 71) (off := 59) M.x M.b d_L_changeBooks_12 (by rw [c51]; decide) (by rw [c51]; decide) (by rw [c51]; rfl) (by decide) ?_
    refine lv_aload_n M.x M.b d_L_changeBooks_71 rfl (lv_at hl 0 rfl) ?_
    replace hf := z_bind hf; obtain ⟨r52, e53, hf⟩ := hf
    refine z_get (ci := 2) (k := 1) M hH rfl (by decide) zinL q_276 (gA_spec e53) d_L_changeBooks_72 ?_
    refine lv_iload M.x M.b d_L_changeBooks_75 (lv_at hl 4 rfl) ?_
    refine lv_aload_n M.x M.b d_L_changeBooks_77 rfl (lv_at hl 0 rfl) ?_
    replace hf := z_bind hf; obtain ⟨i54, e55, hf⟩ := hf
    refine z_get (ci := 2) (k := 11) M hH rfl (by decide) zinL q_250 (gI_spec e55) d_L_changeBooks_78 ?_
    rcases r52 with _ | a56
    · exact absurd hf z_nb0
    replace hf := z_sb hf
    replace hf := z_bind hf; obtain ⟨h59, e58, hf⟩ := hf
    refine zk_V (ci := 0) (st1 := []) M hH hS (c_B_doubleUnit e58) rfl (o_B_doubleUnit e58) w_B_doubleUnit q_279 [] rfl ⟨Nat.le_of_ble_eq_true rfl, Nat.le_of_ble_eq_true rfl⟩ hl.1 rfl rfl (Nat.le_of_ble_eq_true rfl) d_L_changeBooks_81 (fun H locs hH hS => ?_)
    refine lv_goto (tgt := 109) M.x M.b d_L_changeBooks_84 (by decide) ?_
    obtain rfl := z_r1 hf
    exact z_vret M hH hS d_L_changeBooks_109
  replace hf := z_f c51 hf
  refine lv_tableOut (tgt := 87) M.x M.b d_L_changeBooks_12 (by have tc11 := lv_neT (a := 0) c11 (by decide); have tc18 := lv_neT (a := 1) c18 (by decide); have tc31 := lv_neT (a := 2) c31 (by decide); have tc44 := lv_neT (a := 3) c44 (by decide); have tc51 := lv_neT (a := 4) c51 (by decide); omega) (by decide) ?_
  refine lv_aload_n M.x M.b d_L_changeBooks_87 rfl (lv_at hl 0 rfl) ?_
  replace hf := z_bind hf; obtain ⟨r60, e61, hf⟩ := hf
  refine z_get (ci := 2) (k := 1) M hH rfl (by decide) zinL q_276 (gA_spec e61) d_L_changeBooks_88 ?_
  refine lv_iload_n M.x M.b d_L_changeBooks_91 rfl (lv_at hl 3 rfl) ?_
  refine lv_iload M.x M.b d_L_changeBooks_92 (lv_at hl 4 rfl) ?_
  refine lv_aload_n M.x M.b d_L_changeBooks_94 rfl (lv_at hl 0 rfl) ?_
  replace hf := z_bind hf; obtain ⟨r62, e63, hf⟩ := hf
  refine z_get (ci := 2) (k := 1) M hH rfl (by decide) zinL q_276 (gA_spec e63) d_L_changeBooks_95 ?_
  refine lv_iload_n M.x M.b d_L_changeBooks_98 rfl (lv_at hl 3 rfl) ?_
  refine lv_iload M.x M.b d_L_changeBooks_99 (lv_at hl 4 rfl) ?_
  rcases r62 with _ | a64
  · exact absurd hf z_nb0
  replace hf := z_sb hf
  rcases r60 with _ | a66
  · exact absurd hf z_nb0
  replace hf := z_sb hf
  replace hf := z_bind hf; obtain ⟨i69, e68, hf⟩ := hf
  refine zk_V (ci := 0) (st1 := [.int i69, .int x4, .int x3, .ref a66]) M hH hS (c_B_priceOf e68) rfl (o_B_priceOf e68) w_B_priceOf q_258 [.int x4, .int x3, .ref a66] rfl ⟨Nat.le_of_ble_eq_true rfl, Nat.le_of_ble_eq_true rfl⟩ hl.1 rfl rfl (Nat.le_of_ble_eq_true rfl) d_L_changeBooks_101 (fun H locs hH hS => ?_)
  refine lv_iconst (v := (1 : Int32)) M.x M.b d_L_changeBooks_104 rfl ?_
  refine lv_iadd M.x M.b d_L_changeBooks_105 ?_
  replace hf := z_bind hf; obtain ⟨h71, e70, hf⟩ := hf
  refine zk_V (ci := 0) (st1 := []) M hH hS (c_B_setPrice e70) rfl (o_B_setPrice e70) w_B_setPrice q_277 [] rfl ⟨Nat.le_of_ble_eq_true rfl, Nat.le_of_ble_eq_true rfl⟩ hl.1 rfl rfl (Nat.le_of_ble_eq_true rfl) d_L_changeBooks_106 (fun H locs hH hS => ?_)
  obtain rfl := z_r1 hf
  exact z_vret M hH hS d_L_changeBooks_109
def f_L_isBroken_174 (this : Nat) (x1 : Int32) (h : Hp) : Option ((Int32 × Hp)) :=
  (gA h this 2 8).bind fun r1 =>
  (r1).bind fun a3 =>
  (gI h a3 1 3).bind fun i5 =>
  if i5 = 0 then
    (gA h this 2 9).bind fun r7 =>
    (r7).bind fun a9 =>
    (gI h a9 1 3).bind fun i11 =>
    if i11 = 0 then
      (gA h this 2 8).bind fun r13 =>
      (gA h this 2 9).bind fun r15 =>
      (r13).bind fun a17 =>
      (r15).bind fun a19 =>
      (f_F_orderOf h a17 a19).bind fun i22 =>
      if i22 = (-1 : Int32) then
        some ((1 : Int32), h)
      else
      if i22 = (1 : Int32) then
        if x1 = (5 : Int32) then
          some ((0 : Int32), h)
        else
        some ((1 : Int32), h)
      else
      some ((0 : Int32), h)
    else
    some ((0 : Int32), h)
  else
  some ((0 : Int32), h)
set_option maxRecDepth 100000 in
set_option maxHeartbeats 4000000 in
theorem w_L_isBroken_174 {p : Program} {l : Launch} {e : Env} {s : State} {m : MethodId} {args : Array Value} {below : List Frame} {meth : Method} {c : Code} {N0 : Nat} {D : va_G} {cs : Nat → ClassId} (M : ZC p s m args meth c "YearBaskets$Laws" "isBroken" b_L_isBroken 6 (some .boolean) N0 D cs) (this : Nat)  {r0 : Int32} {h0 : Hp}  (x1 : Int32) (h : Hp) (hf : f_L_isBroken_174 this x1 h = some (r0, h0)) : ZG p l e (zrm 34 0 0) s m args below meth c N0 D cs (some (.int r0)) h0 h 6 [(0, .ref this), (1, .int x1)] 174 [] := by
  intro H locs ls hH hS hl
  unfold f_L_isBroken_174 at hf
  refine lv_aload_n M.x M.b d_L_isBroken_174 rfl (lv_at hl 0 rfl) ?_
  replace hf := z_bind hf; obtain ⟨r1, e2, hf⟩ := hf
  refine z_get (ci := 2) (k := 8) M hH rfl (by decide) zinL q_242 (gA_spec e2) d_L_isBroken_175 ?_
  rcases r1 with _ | a3
  · exact absurd hf z_nb0
  replace hf := z_sb hf
  replace hf := z_bind hf; obtain ⟨i5, e6, hf⟩ := hf
  refine z_getN (ci := 1) (k := 3) M hH rfl (by decide) zinF q_243 (gI_spec e6) d_L_isBroken_178 ?_
  refine lv_if_ne (tgt := 194) M.x M.b d_L_isBroken_181 (by decide) (fun c27 => ?_) (fun c27 => ?_)
  · replace hf := z_f c27 hf
    refine lv_iconst (v := (0 : Int32)) M.x M.b d_L_isBroken_194 rfl ?_
    obtain ⟨rfl, rfl⟩ := z_r2 hf
    exact z_zret M hH hS (by decide) d_L_isBroken_195
  · replace hf := z_t c27 hf
    refine lv_aload_n M.x M.b d_L_isBroken_184 rfl (lv_at hl 0 rfl) ?_
    replace hf := z_bind hf; obtain ⟨r7, e8, hf⟩ := hf
    refine z_get (ci := 2) (k := 9) M hH rfl (by decide) zinL q_270 (gA_spec e8) d_L_isBroken_185 ?_
    rcases r7 with _ | a9
    · exact absurd hf z_nb0
    replace hf := z_sb hf
    replace hf := z_bind hf; obtain ⟨i11, e12, hf⟩ := hf
    refine z_getN (ci := 1) (k := 3) M hH rfl (by decide) zinF q_243 (gI_spec e12) d_L_isBroken_188 ?_
    refine lv_if_eq (tgt := 196) M.x M.b d_L_isBroken_191 (by decide) (fun c26 => ?_) (fun c26 => ?_)
    · replace hf := z_t c26 hf
      refine lv_aload_n M.x M.b d_L_isBroken_196 rfl (lv_at hl 0 rfl) ?_
      replace hf := z_bind hf; obtain ⟨r13, e14, hf⟩ := hf
      refine z_get (ci := 2) (k := 8) M hH rfl (by decide) zinL q_242 (gA_spec e14) d_L_isBroken_197 ?_
      refine lv_aload_n M.x M.b d_L_isBroken_200 rfl (lv_at hl 0 rfl) ?_
      replace hf := z_bind hf; obtain ⟨r15, e16, hf⟩ := hf
      refine z_get (ci := 2) (k := 9) M hH rfl (by decide) zinL q_270 (gA_spec e16) d_L_isBroken_201 ?_
      rcases r13 with _ | a17
      · exact absurd hf z_nb0
      replace hf := z_sb hf
      rcases r15 with _ | a19
      · exact absurd hf z_nb0
      replace hf := z_sb hf
      replace hf := z_bind hf; obtain ⟨i22, e21, hf⟩ := hf
      refine zk_S (st1 := [.int i22]) M hH hS (c_F_orderOf e21) w_F_orderOf q_269 [] rfl ⟨Nat.le_of_ble_eq_true rfl, Nat.le_of_ble_eq_true rfl⟩ hl.1 rfl rfl (Nat.le_of_ble_eq_true rfl) d_L_isBroken_204 (fun H locs hH hS => ?_)
      refine lv_istore (lv' := [(5, .int i22), (0, .ref this), (1, .int x1)]) M.x M.b d_L_isBroken_207 hl (by decide) rfl (fun ls hl => ?_)
      refine lv_iload M.x M.b d_L_isBroken_209 (lv_at hl 0 rfl) ?_
      refine lv_iconst (v := (-1 : Int32)) M.x M.b d_L_isBroken_211 rfl ?_
      refine lv_icmp_eq (tgt := 226) M.x M.b d_L_isBroken_212 (by decide) (fun c25 => ?_) (fun c25 => ?_)
      · replace hf := z_t c25 hf
        refine lv_iconst (v := (1 : Int32)) M.x M.b d_L_isBroken_226 rfl ?_
        refine lv_goto (tgt := 231) M.x M.b d_L_isBroken_227 (by decide) ?_
        obtain ⟨rfl, rfl⟩ := z_r2 hf
        exact z_zret M hH hS (by decide) d_L_isBroken_231
      · replace hf := z_f c25 hf
        refine lv_iload M.x M.b d_L_isBroken_215 (lv_at hl 0 rfl) ?_
        refine lv_iconst (v := (1 : Int32)) M.x M.b d_L_isBroken_217 rfl ?_
        refine lv_icmp_ne (tgt := 230) M.x M.b d_L_isBroken_218 (by decide) (fun c24 => ?_) (fun c24 => ?_)
        · replace hf := z_f c24 hf
          refine lv_iconst (v := (0 : Int32)) M.x M.b d_L_isBroken_230 rfl ?_
          obtain ⟨rfl, rfl⟩ := z_r2 hf
          exact z_zret M hH hS (by decide) d_L_isBroken_231
        · replace hf := z_t c24 hf
          refine lv_iload_n M.x M.b d_L_isBroken_221 rfl (lv_at hl 2 rfl) ?_
          refine lv_iconst (v := (5 : Int32)) M.x M.b d_L_isBroken_222 rfl ?_
          refine lv_icmp_eq (tgt := 230) M.x M.b d_L_isBroken_223 (by decide) (fun c23 => ?_) (fun c23 => ?_)
          · replace hf := z_t c23 hf
            refine lv_iconst (v := (0 : Int32)) M.x M.b d_L_isBroken_230 rfl ?_
            obtain ⟨rfl, rfl⟩ := z_r2 hf
            exact z_zret M hH hS (by decide) d_L_isBroken_231
          · replace hf := z_f c23 hf
            refine lv_iconst (v := (1 : Int32)) M.x M.b d_L_isBroken_226 rfl ?_
            refine lv_goto (tgt := 231) M.x M.b d_L_isBroken_227 (by decide) ?_
            obtain ⟨rfl, rfl⟩ := z_r2 hf
            exact z_zret M hH hS (by decide) d_L_isBroken_231
    · replace hf := z_f c26 hf
      refine lv_iconst (v := (0 : Int32)) M.x M.b d_L_isBroken_194 rfl ?_
      obtain ⟨rfl, rfl⟩ := z_r2 hf
      exact z_zret M hH hS (by decide) d_L_isBroken_195
def f_L_isBroken_162 (this : Nat) (x1 : Int32) (h : Hp) : Option ((Int32 × Hp)) :=
  if x1 = (3 : Int32) then
    (gA h this 2 9).bind fun r28 =>
    (r28).bind fun a30 =>
    (f_F_doubleIt a30 h).bind fun h33 =>
    f_L_isBroken_174 this x1 h33
  else
  f_L_isBroken_174 this x1 h
set_option maxRecDepth 100000 in
set_option maxHeartbeats 4000000 in
theorem w_L_isBroken_162 {p : Program} {l : Launch} {e : Env} {s : State} {m : MethodId} {args : Array Value} {below : List Frame} {meth : Method} {c : Code} {N0 : Nat} {D : va_G} {cs : Nat → ClassId} (M : ZC p s m args meth c "YearBaskets$Laws" "isBroken" b_L_isBroken 6 (some .boolean) N0 D cs) (this : Nat)  {r0 : Int32} {h0 : Hp}  (x1 : Int32) (h : Hp) (hf : f_L_isBroken_162 this x1 h = some (r0, h0)) : ZG p l e (zrm 34 0 0) s m args below meth c N0 D cs (some (.int r0)) h0 h 6 [(0, .ref this), (1, .int x1)] 162 [] := by
  intro H locs ls hH hS hl
  unfold f_L_isBroken_162 at hf
  refine lv_iload_n M.x M.b d_L_isBroken_162 rfl (lv_at hl 1 rfl) ?_
  refine lv_iconst (v := (3 : Int32)) M.x M.b d_L_isBroken_163 rfl ?_
  refine lv_icmp_ne (tgt := 174) M.x M.b d_L_isBroken_164 (by decide) (fun c34 => ?_) (fun c34 => ?_)
  · replace hf := z_f c34 hf
    exact w_L_isBroken_174 M this _ _ hf H locs ls hH hS (lv_sub hl [0, 1] rfl)
  · replace hf := z_t c34 hf
    refine lv_aload_n M.x M.b d_L_isBroken_167 rfl (lv_at hl 0 rfl) ?_
    replace hf := z_bind hf; obtain ⟨r28, e29, hf⟩ := hf
    refine z_get (ci := 2) (k := 9) M hH rfl (by decide) zinL q_270 (gA_spec e29) d_L_isBroken_168 ?_
    rcases r28 with _ | a30
    · exact absurd hf z_nb0
    replace hf := z_sb hf
    replace hf := z_bind hf; obtain ⟨h33, e32, hf⟩ := hf
    refine zk_V (ci := 1) (st1 := []) M hH hS (c_F_doubleIt e32) rfl (o_F_doubleIt e32) w_F_doubleIt q_284 [] rfl ⟨Nat.le_of_ble_eq_true rfl, Nat.le_of_ble_eq_true rfl⟩ hl.1 rfl rfl (Nat.le_of_ble_eq_true rfl) d_L_isBroken_171 (fun H locs hH hS => ?_)
    exact w_L_isBroken_174 M this _ _ hf H locs ls hH hS (lv_sub hl [0, 1] rfl)
def f_L_isBroken_155 (this : Nat) (s1 : Int32) (s2 : Int32) (x1 : Int32) (h : Hp) : Option ((Int32 × Hp)) :=
  (gA h this 2 9).bind fun r35 =>
  (r35).bind fun a37 =>
  (f_L_recall this s1 s2 a37 h).bind fun h40 =>
  f_L_isBroken_162 this x1 h40
set_option maxRecDepth 100000 in
set_option maxHeartbeats 4000000 in
theorem w_L_isBroken_155 {p : Program} {l : Launch} {e : Env} {s : State} {m : MethodId} {args : Array Value} {below : List Frame} {meth : Method} {c : Code} {N0 : Nat} {D : va_G} {cs : Nat → ClassId} (M : ZC p s m args meth c "YearBaskets$Laws" "isBroken" b_L_isBroken 6 (some .boolean) N0 D cs) (this : Nat)  {r0 : Int32} {h0 : Hp}  (s1 : Int32) (s2 : Int32) (x1 : Int32) (h : Hp) (hf : f_L_isBroken_155 this s1 s2 x1 h = some (r0, h0)) : ZG p l e (zrm 34 0 0) s m args below meth c N0 D cs (some (.int r0)) h0 h 6 [(0, .ref this), (1, .int x1)] 155 [.int s2, .int s1, .ref this] := by
  intro H locs ls hH hS hl
  unfold f_L_isBroken_155 at hf
  refine lv_aload_n M.x M.b d_L_isBroken_155 rfl (lv_at hl 0 rfl) ?_
  replace hf := z_bind hf; obtain ⟨r35, e36, hf⟩ := hf
  refine z_get (ci := 2) (k := 9) M hH rfl (by decide) zinL q_270 (gA_spec e36) d_L_isBroken_156 ?_
  rcases r35 with _ | a37
  · exact absurd hf z_nb0
  replace hf := z_sb hf
  replace hf := z_bind hf; obtain ⟨h40, e39, hf⟩ := hf
  refine zk_V (ci := 2) (st1 := []) M hH hS (c_L_recall e39) rfl (o_L_recall e39) w_L_recall q_271 [] rfl ⟨Nat.le_of_ble_eq_true rfl, Nat.le_of_ble_eq_true rfl⟩ hl.1 rfl rfl (Nat.le_of_ble_eq_true rfl) d_L_isBroken_159 (fun H locs hH hS => ?_)
  exact w_L_isBroken_162 M this _ _ hf H locs ls hH hS (lv_sub hl [0, 1] rfl)
def f_L_isBroken_130 (this : Nat) (x1 : Int32) (h : Hp) : Option ((Int32 × Hp)) :=
  (gA h this 2 9).bind fun r41 =>
  (r41).bind fun a43 =>
  (f_F_put a43 (1 : Int64) (1 : Int64) h).bind fun h46 =>
  f_L_isBroken_162 this x1 h46
set_option maxRecDepth 100000 in
set_option maxHeartbeats 4000000 in
theorem w_L_isBroken_130 {p : Program} {l : Launch} {e : Env} {s : State} {m : MethodId} {args : Array Value} {below : List Frame} {meth : Method} {c : Code} {N0 : Nat} {D : va_G} {cs : Nat → ClassId} (M : ZC p s m args meth c "YearBaskets$Laws" "isBroken" b_L_isBroken 6 (some .boolean) N0 D cs) (this : Nat)  {r0 : Int32} {h0 : Hp}  (x1 : Int32) (h : Hp) (hf : f_L_isBroken_130 this x1 h = some (r0, h0)) : ZG p l e (zrm 34 0 0) s m args below meth c N0 D cs (some (.int r0)) h0 h 6 [(0, .ref this), (1, .int x1)] 130 [] := by
  intro H locs ls hH hS hl
  unfold f_L_isBroken_130 at hf
  refine lv_aload_n M.x M.b d_L_isBroken_130 rfl (lv_at hl 0 rfl) ?_
  replace hf := z_bind hf; obtain ⟨r41, e42, hf⟩ := hf
  refine z_get (ci := 2) (k := 9) M hH rfl (by decide) zinL q_270 (gA_spec e42) d_L_isBroken_131 ?_
  refine lv_lconst (v := (1 : Int64)) M.x M.b d_L_isBroken_134 rfl ?_
  refine lv_lconst (v := (1 : Int64)) M.x M.b d_L_isBroken_135 rfl ?_
  rcases r41 with _ | a43
  · exact absurd hf z_nb0
  replace hf := z_sb hf
  replace hf := z_bind hf; obtain ⟨h46, e45, hf⟩ := hf
  refine zk_V (ci := 1) (st1 := []) M hH hS (c_F_put e45) rfl (o_F_put e45) w_F_put q_263 [] rfl ⟨Nat.le_of_ble_eq_true rfl, Nat.le_of_ble_eq_true rfl⟩ hl.1 rfl rfl (Nat.le_of_ble_eq_true rfl) d_L_isBroken_136 (fun H locs hH hS => ?_)
  refine lv_goto (tgt := 162) M.x M.b d_L_isBroken_139 (by decide) ?_
  exact w_L_isBroken_162 M this _ _ hf H locs ls hH hS (lv_sub hl [0, 1] rfl)
def f_L_isBroken_121 (this : Nat) (x1 : Int32) (x2 : Int32) (x3 : Int32) (x4 : Int32) (h : Hp) : Option ((Int32 × Hp)) :=
  if x1 = 0 then
    f_L_isBroken_130 this x1 h
  else
  if x1 = (1 : Int32) then
    f_L_isBroken_130 this x1 h
  else
  if x1 = (2 : Int32) then
    f_L_isBroken_155 this x2 x4 x1 h
  else
  f_L_isBroken_155 this x2 x3 x1 h
set_option maxRecDepth 100000 in
set_option maxHeartbeats 4000000 in
theorem w_L_isBroken_121 {p : Program} {l : Launch} {e : Env} {s : State} {m : MethodId} {args : Array Value} {below : List Frame} {meth : Method} {c : Code} {N0 : Nat} {D : va_G} {cs : Nat → ClassId} (M : ZC p s m args meth c "YearBaskets$Laws" "isBroken" b_L_isBroken 6 (some .boolean) N0 D cs) (this : Nat)  {r0 : Int32} {h0 : Hp}  (x1 : Int32) (x2 : Int32) (x3 : Int32) (x4 : Int32) (h : Hp) (hf : f_L_isBroken_121 this x1 x2 x3 x4 h = some (r0, h0)) : ZG p l e (zrm 34 0 0) s m args below meth c N0 D cs (some (.int r0)) h0 h 6 [(0, .ref this), (1, .int x1), (2, .int x2), (3, .int x3), (4, .int x4)] 121 [] := by
  intro H locs ls hH hS hl
  unfold f_L_isBroken_121 at hf
  refine lv_iload_n M.x M.b d_L_isBroken_121 rfl (lv_at hl 1 rfl) ?_
  refine lv_if_eq (tgt := 130) M.x M.b d_L_isBroken_122 (by decide) (fun c49 => ?_) (fun c49 => ?_)
  · replace hf := z_t c49 hf
    exact w_L_isBroken_130 M this _ _ hf H locs ls hH hS (lv_sub hl [0, 1] rfl)
  · replace hf := z_f c49 hf
    refine lv_iload_n M.x M.b d_L_isBroken_125 rfl (lv_at hl 1 rfl) ?_
    refine lv_iconst (v := (1 : Int32)) M.x M.b d_L_isBroken_126 rfl ?_
    refine lv_icmp_ne (tgt := 142) M.x M.b d_L_isBroken_127 (by decide) (fun c48 => ?_) (fun c48 => ?_)
    · replace hf := z_f c48 hf
      refine lv_aload_n M.x M.b d_L_isBroken_142 rfl (lv_at hl 0 rfl) ?_
      refine lv_iload_n M.x M.b d_L_isBroken_143 rfl (lv_at hl 2 rfl) ?_
      refine lv_iload_n M.x M.b d_L_isBroken_144 rfl (lv_at hl 1 rfl) ?_
      refine lv_iconst (v := (2 : Int32)) M.x M.b d_L_isBroken_145 rfl ?_
      refine lv_icmp_ne (tgt := 154) M.x M.b d_L_isBroken_146 (by decide) (fun c47 => ?_) (fun c47 => ?_)
      · replace hf := z_f c47 hf
        refine lv_iload_n M.x M.b d_L_isBroken_154 rfl (lv_at hl 3 rfl) ?_
        exact w_L_isBroken_155 M this _ _ _ _ hf H locs ls hH hS (lv_sub hl [0, 1] rfl)
      · replace hf := z_t c47 hf
        refine lv_iload M.x M.b d_L_isBroken_149 (lv_at hl 4 rfl) ?_
        refine lv_goto (tgt := 155) M.x M.b d_L_isBroken_151 (by decide) ?_
        exact w_L_isBroken_155 M this _ _ _ _ hf H locs ls hH hS (lv_sub hl [0, 1] rfl)
    · replace hf := z_t c48 hf
      exact w_L_isBroken_130 M this _ _ hf H locs ls hH hS (lv_sub hl [0, 1] rfl)
def f_L_isBroken_66 (this : Nat) (s1 : Int32) (s2 : Int32) (x1 : Int32) (x2 : Int32) (x3 : Int32) (x4 : Int32) (h : Hp) : Option ((Int32 × Hp)) :=
  (gA h this 2 9).bind fun r50 =>
  (r50).bind fun a52 =>
  (f_L_recall this s1 s2 a52 h).bind fun h55 =>
  (gA h55 this 2 8).bind fun r56 =>
  (gA h55 this 2 9).bind fun r58 =>
  (r58).bind fun a60 =>
  (r56).bind fun a62 =>
  (f_F_multiply a62 a60 h55).bind fun h65 =>
  f_L_isBroken_121 this x1 x2 x3 x4 h65
set_option maxRecDepth 100000 in
set_option maxHeartbeats 4000000 in
theorem w_L_isBroken_66 {p : Program} {l : Launch} {e : Env} {s : State} {m : MethodId} {args : Array Value} {below : List Frame} {meth : Method} {c : Code} {N0 : Nat} {D : va_G} {cs : Nat → ClassId} (M : ZC p s m args meth c "YearBaskets$Laws" "isBroken" b_L_isBroken 6 (some .boolean) N0 D cs) (this : Nat)  {r0 : Int32} {h0 : Hp}  (s1 : Int32) (s2 : Int32) (x1 : Int32) (x2 : Int32) (x3 : Int32) (x4 : Int32) (h : Hp) (hf : f_L_isBroken_66 this s1 s2 x1 x2 x3 x4 h = some (r0, h0)) : ZG p l e (zrm 34 0 0) s m args below meth c N0 D cs (some (.int r0)) h0 h 6 [(0, .ref this), (1, .int x1), (2, .int x2), (3, .int x3), (4, .int x4)] 66 [.int s2, .int s1, .ref this] := by
  intro H locs ls hH hS hl
  unfold f_L_isBroken_66 at hf
  refine lv_aload_n M.x M.b d_L_isBroken_66 rfl (lv_at hl 0 rfl) ?_
  replace hf := z_bind hf; obtain ⟨r50, e51, hf⟩ := hf
  refine z_get (ci := 2) (k := 9) M hH rfl (by decide) zinL q_270 (gA_spec e51) d_L_isBroken_67 ?_
  rcases r50 with _ | a52
  · exact absurd hf z_nb0
  replace hf := z_sb hf
  replace hf := z_bind hf; obtain ⟨h55, e54, hf⟩ := hf
  refine zk_V (ci := 2) (st1 := []) M hH hS (c_L_recall e54) rfl (o_L_recall e54) w_L_recall q_271 [] rfl ⟨Nat.le_of_ble_eq_true rfl, Nat.le_of_ble_eq_true rfl⟩ hl.1 rfl rfl (Nat.le_of_ble_eq_true rfl) d_L_isBroken_70 (fun H locs hH hS => ?_)
  refine lv_aload_n M.x M.b d_L_isBroken_73 rfl (lv_at hl 0 rfl) ?_
  replace hf := z_bind hf; obtain ⟨r56, e57, hf⟩ := hf
  refine z_get (ci := 2) (k := 8) M hH rfl (by decide) zinL q_242 (gA_spec e57) d_L_isBroken_74 ?_
  refine lv_aload_n M.x M.b d_L_isBroken_77 rfl (lv_at hl 0 rfl) ?_
  replace hf := z_bind hf; obtain ⟨r58, e59, hf⟩ := hf
  refine z_get (ci := 2) (k := 9) M hH rfl (by decide) zinL q_270 (gA_spec e59) d_L_isBroken_78 ?_
  rcases r58 with _ | a60
  · exact absurd hf z_nb0
  replace hf := z_sb hf
  rcases r56 with _ | a62
  · exact absurd hf z_nb0
  replace hf := z_sb hf
  replace hf := z_bind hf; obtain ⟨h65, e64, hf⟩ := hf
  refine zk_V (ci := 1) (st1 := []) M hH hS (c_F_multiply e64) rfl (o_F_multiply e64) w_F_multiply q_285 [] rfl ⟨Nat.le_of_ble_eq_true rfl, Nat.le_of_ble_eq_true rfl⟩ hl.1 rfl rfl (Nat.le_of_ble_eq_true rfl) d_L_isBroken_81 (fun H locs hH hS => ?_)
  refine lv_goto (tgt := 121) M.x M.b d_L_isBroken_84 (by decide) ?_
  exact w_L_isBroken_121 M this _ _ _ _ _ hf H locs ls hH hS (lv_sub hl [0, 1, 2, 3, 4] rfl)
def f_L_isBroken_43 (this : Nat) (x1 : Int32) (x2 : Int32) (x3 : Int32) (x4 : Int32) (h : Hp) : Option ((Int32 × Hp)) :=
  (gA h this 2 8).bind fun r66 =>
  (r66).bind fun a68 =>
  (f_L_recall this x2 x3 a68 h).bind fun h71 =>
  if x1 = (2 : Int32) then
    f_L_isBroken_66 this x3 x4 x1 x2 x3 x4 h71
  else
  f_L_isBroken_66 this x3 x2 x1 x2 x3 x4 h71
set_option maxRecDepth 100000 in
set_option maxHeartbeats 4000000 in
theorem w_L_isBroken_43 {p : Program} {l : Launch} {e : Env} {s : State} {m : MethodId} {args : Array Value} {below : List Frame} {meth : Method} {c : Code} {N0 : Nat} {D : va_G} {cs : Nat → ClassId} (M : ZC p s m args meth c "YearBaskets$Laws" "isBroken" b_L_isBroken 6 (some .boolean) N0 D cs) (this : Nat)  {r0 : Int32} {h0 : Hp}  (x1 : Int32) (x2 : Int32) (x3 : Int32) (x4 : Int32) (h : Hp) (hf : f_L_isBroken_43 this x1 x2 x3 x4 h = some (r0, h0)) : ZG p l e (zrm 34 0 0) s m args below meth c N0 D cs (some (.int r0)) h0 h 6 [(0, .ref this), (1, .int x1), (2, .int x2), (3, .int x3), (4, .int x4)] 43 [] := by
  intro H locs ls hH hS hl
  unfold f_L_isBroken_43 at hf
  refine lv_aload_n M.x M.b d_L_isBroken_43 rfl (lv_at hl 0 rfl) ?_
  refine lv_iload_n M.x M.b d_L_isBroken_44 rfl (lv_at hl 2 rfl) ?_
  refine lv_iload_n M.x M.b d_L_isBroken_45 rfl (lv_at hl 3 rfl) ?_
  refine lv_aload_n M.x M.b d_L_isBroken_46 rfl (lv_at hl 0 rfl) ?_
  replace hf := z_bind hf; obtain ⟨r66, e67, hf⟩ := hf
  refine z_get (ci := 2) (k := 8) M hH rfl (by decide) zinL q_242 (gA_spec e67) d_L_isBroken_47 ?_
  rcases r66 with _ | a68
  · exact absurd hf z_nb0
  replace hf := z_sb hf
  replace hf := z_bind hf; obtain ⟨h71, e70, hf⟩ := hf
  refine zk_V (ci := 2) (st1 := []) M hH hS (c_L_recall e70) rfl (o_L_recall e70) w_L_recall q_271 [] rfl ⟨Nat.le_of_ble_eq_true rfl, Nat.le_of_ble_eq_true rfl⟩ hl.1 rfl rfl (Nat.le_of_ble_eq_true rfl) d_L_isBroken_50 (fun H locs hH hS => ?_)
  refine lv_aload_n M.x M.b d_L_isBroken_53 rfl (lv_at hl 0 rfl) ?_
  refine lv_iload_n M.x M.b d_L_isBroken_54 rfl (lv_at hl 3 rfl) ?_
  refine lv_iload_n M.x M.b d_L_isBroken_55 rfl (lv_at hl 1 rfl) ?_
  refine lv_iconst (v := (2 : Int32)) M.x M.b d_L_isBroken_56 rfl ?_
  refine lv_icmp_ne (tgt := 65) M.x M.b d_L_isBroken_57 (by decide) (fun c72 => ?_) (fun c72 => ?_)
  · replace hf := z_f c72 hf
    refine lv_iload_n M.x M.b d_L_isBroken_65 rfl (lv_at hl 2 rfl) ?_
    exact w_L_isBroken_66 M this _ _ _ _ _ _ _ hf H locs ls hH hS (lv_sub hl [0, 1, 2, 3, 4] rfl)
  · replace hf := z_t c72 hf
    refine lv_iload M.x M.b d_L_isBroken_60 (lv_at hl 4 rfl) ?_
    refine lv_goto (tgt := 66) M.x M.b d_L_isBroken_62 (by decide) ?_
    exact w_L_isBroken_66 M this _ _ _ _ _ _ _ hf H locs ls hH hS (lv_sub hl [0, 1, 2, 3, 4] rfl)
def f_L_isBroken_33 (this : Nat) (x1 : Int32) (x2 : Int32) (x3 : Int32) (x4 : Int32) (h : Hp) : Option ((Int32 × Hp)) :=
  if x1 = (1 : Int32) then
    f_L_isBroken_43 this x1 x2 x3 x4 h
  else
  if x1 = (2 : Int32) then
    f_L_isBroken_43 this x1 x2 x3 x4 h
  else
  (f_L_changeBooks this x1 x2 x3 x4 h).bind fun h74 =>
  (gA h74 this 2 2).bind fun r75 =>
  (gA h74 this 2 10).bind fun r77 =>
  (gA h74 this 2 1).bind fun r79 =>
  (gI h74 this 2 11).bind fun i81 =>
  (gA h74 this 2 8).bind fun r83 =>
  (r77).bind fun a85 =>
  (r79).bind fun a87 =>
  (r83).bind fun a89 =>
  (r75).bind fun a91 =>
  (f_T_tell a91 a85 a87 i81 x2 x3 a89 h74).bind fun h94 =>
  f_L_isBroken_121 this x1 x2 x3 x4 h94
set_option maxRecDepth 100000 in
set_option maxHeartbeats 4000000 in
theorem w_L_isBroken_33 {p : Program} {l : Launch} {e : Env} {s : State} {m : MethodId} {args : Array Value} {below : List Frame} {meth : Method} {c : Code} {N0 : Nat} {D : va_G} {cs : Nat → ClassId} (M : ZC p s m args meth c "YearBaskets$Laws" "isBroken" b_L_isBroken 6 (some .boolean) N0 D cs) (this : Nat)  {r0 : Int32} {h0 : Hp}  (x1 : Int32) (x2 : Int32) (x3 : Int32) (x4 : Int32) (h : Hp) (hf : f_L_isBroken_33 this x1 x2 x3 x4 h = some (r0, h0)) : ZG p l e (zrm 34 0 0) s m args below meth c N0 D cs (some (.int r0)) h0 h 6 [(0, .ref this), (1, .int x1), (2, .int x2), (3, .int x3), (4, .int x4)] 33 [] := by
  intro H locs ls hH hS hl
  unfold f_L_isBroken_33 at hf
  refine lv_iload_n M.x M.b d_L_isBroken_33 rfl (lv_at hl 1 rfl) ?_
  refine lv_iconst (v := (1 : Int32)) M.x M.b d_L_isBroken_34 rfl ?_
  refine lv_icmp_eq (tgt := 43) M.x M.b d_L_isBroken_35 (by decide) (fun c96 => ?_) (fun c96 => ?_)
  · replace hf := z_t c96 hf
    exact w_L_isBroken_43 M this _ _ _ _ _ hf H locs ls hH hS (lv_sub hl [0, 1, 2, 3, 4] rfl)
  · replace hf := z_f c96 hf
    refine lv_iload_n M.x M.b d_L_isBroken_38 rfl (lv_at hl 1 rfl) ?_
    refine lv_iconst (v := (2 : Int32)) M.x M.b d_L_isBroken_39 rfl ?_
    refine lv_icmp_ne (tgt := 87) M.x M.b d_L_isBroken_40 (by decide) (fun c95 => ?_) (fun c95 => ?_)
    · replace hf := z_f c95 hf
      refine lv_aload_n M.x M.b d_L_isBroken_87 rfl (lv_at hl 0 rfl) ?_
      refine lv_iload_n M.x M.b d_L_isBroken_88 rfl (lv_at hl 1 rfl) ?_
      refine lv_iload_n M.x M.b d_L_isBroken_89 rfl (lv_at hl 2 rfl) ?_
      refine lv_iload_n M.x M.b d_L_isBroken_90 rfl (lv_at hl 3 rfl) ?_
      refine lv_iload M.x M.b d_L_isBroken_91 (lv_at hl 4 rfl) ?_
      replace hf := z_bind hf; obtain ⟨h74, e73, hf⟩ := hf
      refine zk_V (ci := 2) (st1 := []) M hH hS (c_L_changeBooks e73) rfl (o_L_changeBooks e73) w_L_changeBooks q_286 [] rfl ⟨Nat.le_of_ble_eq_true rfl, Nat.le_of_ble_eq_true rfl⟩ hl.1 rfl rfl (Nat.le_of_ble_eq_true rfl) d_L_isBroken_93 (fun H locs hH hS => ?_)
      refine lv_aload_n M.x M.b d_L_isBroken_96 rfl (lv_at hl 0 rfl) ?_
      replace hf := z_bind hf; obtain ⟨r75, e76, hf⟩ := hf
      refine z_get (ci := 2) (k := 2) M hH rfl (by decide) zinL q_253 (gA_spec e76) d_L_isBroken_97 ?_
      refine lv_aload_n M.x M.b d_L_isBroken_100 rfl (lv_at hl 0 rfl) ?_
      replace hf := z_bind hf; obtain ⟨r77, e78, hf⟩ := hf
      refine z_get (ci := 2) (k := 10) M hH rfl (by decide) zinL q_252 (gA_spec e78) d_L_isBroken_101 ?_
      refine lv_aload_n M.x M.b d_L_isBroken_104 rfl (lv_at hl 0 rfl) ?_
      replace hf := z_bind hf; obtain ⟨r79, e80, hf⟩ := hf
      refine z_get (ci := 2) (k := 1) M hH rfl (by decide) zinL q_276 (gA_spec e80) d_L_isBroken_105 ?_
      refine lv_aload_n M.x M.b d_L_isBroken_108 rfl (lv_at hl 0 rfl) ?_
      replace hf := z_bind hf; obtain ⟨i81, e82, hf⟩ := hf
      refine z_get (ci := 2) (k := 11) M hH rfl (by decide) zinL q_250 (gI_spec e82) d_L_isBroken_109 ?_
      refine lv_iload_n M.x M.b d_L_isBroken_112 rfl (lv_at hl 2 rfl) ?_
      refine lv_iload_n M.x M.b d_L_isBroken_113 rfl (lv_at hl 3 rfl) ?_
      refine lv_aload_n M.x M.b d_L_isBroken_114 rfl (lv_at hl 0 rfl) ?_
      replace hf := z_bind hf; obtain ⟨r83, e84, hf⟩ := hf
      refine z_get (ci := 2) (k := 8) M hH rfl (by decide) zinL q_242 (gA_spec e84) d_L_isBroken_115 ?_
      rcases r77 with _ | a85
      · exact absurd hf z_nb0
      replace hf := z_sb hf
      rcases r79 with _ | a87
      · exact absurd hf z_nb0
      replace hf := z_sb hf
      rcases r83 with _ | a89
      · exact absurd hf z_nb0
      replace hf := z_sb hf
      rcases r75 with _ | a91
      · exact absurd hf z_nb0
      replace hf := z_sb hf
      replace hf := z_bind hf; obtain ⟨h94, e93, hf⟩ := hf
      refine zk_V (ci := 6) (st1 := []) M hH hS (c_T_tell e93) rfl (o_T_tell e93) w_T_tell q_249 [] rfl ⟨Nat.le_of_ble_eq_true rfl, Nat.le_of_ble_eq_true rfl⟩ hl.1 rfl rfl (Nat.le_of_ble_eq_true rfl) d_L_isBroken_118 (fun H locs hH hS => ?_)
      exact w_L_isBroken_121 M this _ _ _ _ _ hf H locs ls hH hS (lv_sub hl [0, 1, 2, 3, 4] rfl)
    · replace hf := z_t c95 hf
      exact w_L_isBroken_43 M this _ _ _ _ _ hf H locs ls hH hS (lv_sub hl [0, 1, 2, 3, 4] rfl)
def f_L_isBroken (this : Nat) (x1 : Int32) (x2 : Int32) (x3 : Int32) (x4 : Int32) (h : Hp) : Option ((Int32 × Hp)) :=
  if isO h this 2 = true then
  if x1 = (6 : Int32) then
    zb2 (f_L_isBeyondRatios this x2 x3 h) fun i106 h107 =>
    (zB i106).bind fun _ =>
    some (i106, h107)
  else
  if x1 = (5 : Int32) then
    (gA h this 2 0).bind fun r97 =>
    (r97).bind fun a99 =>
    (f_B_priceOf a99 h x3 x4).bind fun i102 =>
    if i102 = 0 then
      some ((0 : Int32), h)
    else
    f_L_isBroken_33 this x1 x2 x3 x4 h
  else
  f_L_isBroken_33 this x1 x2 x3 x4 h
  else none
theorem o_L_isBroken {this : Nat} {x1 : Int32} {x2 : Int32} {x3 : Int32} {x4 : Int32} {h : Hp} {r0 : Int32} {h0 : Hp} (hf : f_L_isBroken this x1 x2 x3 x4 h = some (r0, h0)) : isO h this 2 = true := by
  unfold f_L_isBroken at hf
  exact (z_gd hf).1
set_option maxRecDepth 100000 in
set_option maxHeartbeats 4000000 in
theorem c_L_isBroken {l : Launch} {N0 : Nat} {D : va_G} {cs : Nat → ClassId} {this : Nat} {x1 : Int32} {x2 : Int32} {x3 : Int32} {x4 : Int32} {h : Hp} {r0 : Int32} {h0 : Hp} (hf : f_L_isBroken this x1 x2 x3 x4 h = some (r0, h0)) : Fn l N0 D cs y_L_isBroken b_L_isBroken 6 (some .boolean) 34 0 0 [.ref this, .int x1, .int x2, .int x3, .int x4] h (some (.int r0)) h0 := by
  refine z_start (by decide) (Nat.le_of_ble_eq_true rfl) ?_
  intro p e s m args below meth c M hH hS ls hl
  unfold f_L_isBroken at hf
  obtain ⟨hO, hf⟩ := z_gd hf
  have hl : lv_has ls 6 [(0, .ref this), (1, .int x1), (2, .int x2), (3, .int x3), (4, .int x4)] := hl
  obtain ⟨H, hHe⟩ : ∃ H, H = s.heap := ⟨_, rfl⟩
  obtain ⟨locs, hLe⟩ : ∃ locs : List Loc, locs = [] := ⟨_, rfl⟩
  have hS : va_S (zA N0) s.heap H locs := by rw [hHe, hLe]; exact hS
  have hH : HH N0 D cs h H := by rw [hHe]; exact hH
  suffices hg : W p l e (zrm 34 0 0) s m args below meth c H locs 0 0 (MQ below (zQ N0 D cs (some (.int r0)) h0) args s 0 0 (zA N0)) (F0 m 0 ls []) by rw [hHe, hLe] at hg; exact hg
  clear hHe hLe
  refine lv_iload_n M.x M.b d_L_isBroken_0 rfl (lv_at hl 1 rfl) ?_
  refine lv_bipush (v := (6 : Int32)) M.x M.b d_L_isBroken_1 rfl ?_
  refine lv_icmp_ne (tgt := 13) M.x M.b d_L_isBroken_3 (by decide) (fun c110 => ?_) (fun c110 => ?_)
  · replace hf := z_f c110 hf
    refine lv_iload_n M.x M.b d_L_isBroken_13 rfl (lv_at hl 1 rfl) ?_
    refine lv_iconst (v := (5 : Int32)) M.x M.b d_L_isBroken_14 rfl ?_
    refine lv_icmp_ne (tgt := 33) M.x M.b d_L_isBroken_15 (by decide) (fun c104 => ?_) (fun c104 => ?_)
    · replace hf := z_f c104 hf
      exact w_L_isBroken_33 M this _ _ _ _ _ hf H locs ls hH hS (lv_sub hl [0, 1, 2, 3, 4] rfl)
    · replace hf := z_t c104 hf
      refine lv_aload_n M.x M.b d_L_isBroken_18 rfl (lv_at hl 0 rfl) ?_
      replace hf := z_bind hf; obtain ⟨r97, e98, hf⟩ := hf
      refine z_get (ci := 2) (k := 0) M hH rfl (by decide) zinL q_251 (gA_spec e98) d_L_isBroken_19 ?_
      refine lv_iload_n M.x M.b d_L_isBroken_22 rfl (lv_at hl 3 rfl) ?_
      refine lv_iload M.x M.b d_L_isBroken_23 (lv_at hl 4 rfl) ?_
      rcases r97 with _ | a99
      · exact absurd hf z_nb0
      replace hf := z_sb hf
      replace hf := z_bind hf; obtain ⟨i102, e101, hf⟩ := hf
      refine zk_V (ci := 0) (st1 := [.int i102]) M hH hS (c_B_priceOf e101) rfl (o_B_priceOf e101) w_B_priceOf q_258 [] rfl ⟨Nat.le_of_ble_eq_true rfl, Nat.le_of_ble_eq_true rfl⟩ hl.1 rfl rfl (Nat.le_of_ble_eq_true rfl) d_L_isBroken_25 (fun H locs hH hS => ?_)
      refine lv_if_ne (tgt := 33) M.x M.b d_L_isBroken_28 (by decide) (fun c103 => ?_) (fun c103 => ?_)
      · replace hf := z_f c103 hf
        exact w_L_isBroken_33 M this _ _ _ _ _ hf H locs ls hH hS (lv_sub hl [0, 1, 2, 3, 4] rfl)
      · replace hf := z_t c103 hf
        refine lv_iconst (v := (0 : Int32)) M.x M.b d_L_isBroken_31 rfl ?_
        obtain ⟨rfl, rfl⟩ := z_r2 hf
        exact z_zret M hH hS (by decide) d_L_isBroken_32
  · replace hf := z_t c110 hf
    refine lv_aload_n M.x M.b d_L_isBroken_6 rfl (lv_at hl 0 rfl) ?_
    refine lv_iload_n M.x M.b d_L_isBroken_7 rfl (lv_at hl 2 rfl) ?_
    refine lv_iload_n M.x M.b d_L_isBroken_8 rfl (lv_at hl 3 rfl) ?_
    replace hf := z_bind2 hf; obtain ⟨i106, h107, e105, hf⟩ := hf
    refine zk_V (ci := 2) (st1 := [.int i106]) M hH hS (c_L_isBeyondRatios e105) rfl (o_L_isBeyondRatios e105) w_L_isBeyondRatios q_287 [] rfl ⟨Nat.le_of_ble_eq_true rfl, Nat.le_of_ble_eq_true rfl⟩ hl.1 rfl rfl (Nat.le_of_ble_eq_true rfl) d_L_isBroken_9 (fun H locs hH hS => ?_)
    replace hf := z_bind hf; obtain ⟨_, e108, hf⟩ := hf
    have z109 := (zB_spec e108).2
    obtain ⟨rfl, rfl⟩ := z_r2 hf
    exact z_zret M hH hS z109 d_L_isBroken_12
def f_L_breachOf_320 (this : Nat) (k174 : Int32 → Int32 → Int32 → Int32 → Int32 → Int32 → Hp → Option ((Int32 × Hp))) (k184 : Int32 → Int32 → Int32 → Int32 → Int32 → Int32 → Int32 → Hp → Option ((Int32 × Hp))) (x4 : Int32) (x5 : Int32) (x6 : Int32) (x7 : Int32) (x8 : Int32) (x9 : Int32) (x10 : Int32) (h : Hp) : Option ((Int32 × Hp)) :=
  k184 x4 x5 x6 x7 x8 x9 (x10 + (1 : Int32)) h
set_option maxRecDepth 100000 in
set_option maxHeartbeats 4000000 in
theorem w_L_breachOf_320 {p : Program} {l : Launch} {e : Env} {s : State} {m : MethodId} {args : Array Value} {below : List Frame} {meth : Method} {c : Code} {N0 : Nat} {D : va_G} {cs : Nat → ClassId} (M : ZC p s m args meth c "YearBaskets$Laws" "breachOf" b_L_breachOf 13 (some .int) N0 D cs) (this : Nat) (k174 : Int32 → Int32 → Int32 → Int32 → Int32 → Int32 → Hp → Option ((Int32 × Hp))) (k184 : Int32 → Int32 → Int32 → Int32 → Int32 → Int32 → Int32 → Hp → Option ((Int32 × Hp))) {r0 : Int32} {h0 : Hp} (hk174 : ∀ (x4 : Int32) (x5 : Int32) (x6 : Int32) (x7 : Int32) (x8 : Int32) (x9 : Int32) (h : Hp), k174 x4 x5 x6 x7 x8 x9 h = some (r0, h0) → ZG p l e (zrm 35 0 0) s m args below meth c N0 D cs (some (.int r0)) h0 h 13 [(0, .ref this), (4, .int x4), (5, .int x5), (6, .int x6), (7, .int x7), (8, .int x8), (9, .int x9)] 174 []) (hk184 : ∀ (x4 : Int32) (x5 : Int32) (x6 : Int32) (x7 : Int32) (x8 : Int32) (x9 : Int32) (x10 : Int32) (h : Hp), k184 x4 x5 x6 x7 x8 x9 x10 h = some (r0, h0) → ZG p l e (zrm 35 0 0) s m args below meth c N0 D cs (some (.int r0)) h0 h 13 [(0, .ref this), (4, .int x4), (5, .int x5), (6, .int x6), (7, .int x7), (8, .int x8), (9, .int x9), (10, .int x10)] 184 []) (x4 : Int32) (x5 : Int32) (x6 : Int32) (x7 : Int32) (x8 : Int32) (x9 : Int32) (x10 : Int32) (h : Hp) (hf : f_L_breachOf_320 this k174 k184 x4 x5 x6 x7 x8 x9 x10 h = some (r0, h0)) : ZG p l e (zrm 35 0 0) s m args below meth c N0 D cs (some (.int r0)) h0 h 13 [(0, .ref this), (4, .int x4), (5, .int x5), (6, .int x6), (7, .int x7), (8, .int x8), (9, .int x9), (10, .int x10)] 320 [] := by
  intro H locs ls hH hS hl
  unfold f_L_breachOf_320 at hf
  refine lv_iinc (v := (x10 + (1 : Int32))) (lv' := [(10, .int (x10 + (1 : Int32))), (0, .ref this), (4, .int x4), (5, .int x5), (6, .int x6), (7, .int x7), (8, .int x8), (9, .int x9)]) M.x M.b d_L_breachOf_320 hl (k := 7) rfl rfl (by decide) rfl (fun ls hl => ?_)
  refine lv_goto (tgt := 184) M.x M.b d_L_breachOf_323 (by decide) ?_
  exact hk184 _ _ _ _ _ _ _ _ hf H locs ls hH hS (lv_sub hl [1, 2, 3, 4, 5, 6, 7, 0] rfl)
def f_L_breachOf_314 (this : Nat) (k174 : Int32 → Int32 → Int32 → Int32 → Int32 → Int32 → Hp → Option ((Int32 × Hp))) (k184 : Int32 → Int32 → Int32 → Int32 → Int32 → Int32 → Int32 → Hp → Option ((Int32 × Hp))) (k195 : Int32 → Int32 → Int32 → Int32 → Int32 → Int32 → Int32 → Int32 → Hp → Option ((Int32 × Hp))) (x4 : Int32) (x5 : Int32) (x6 : Int32) (x7 : Int32) (x8 : Int32) (x9 : Int32) (x10 : Int32) (x11 : Int32) (h : Hp) : Option ((Int32 × Hp)) :=
  k195 x4 x5 x6 x7 x8 x9 x10 (x11 + (1 : Int32)) h
set_option maxRecDepth 100000 in
set_option maxHeartbeats 4000000 in
theorem w_L_breachOf_314 {p : Program} {l : Launch} {e : Env} {s : State} {m : MethodId} {args : Array Value} {below : List Frame} {meth : Method} {c : Code} {N0 : Nat} {D : va_G} {cs : Nat → ClassId} (M : ZC p s m args meth c "YearBaskets$Laws" "breachOf" b_L_breachOf 13 (some .int) N0 D cs) (this : Nat) (k174 : Int32 → Int32 → Int32 → Int32 → Int32 → Int32 → Hp → Option ((Int32 × Hp))) (k184 : Int32 → Int32 → Int32 → Int32 → Int32 → Int32 → Int32 → Hp → Option ((Int32 × Hp))) (k195 : Int32 → Int32 → Int32 → Int32 → Int32 → Int32 → Int32 → Int32 → Hp → Option ((Int32 × Hp))) {r0 : Int32} {h0 : Hp} (hk174 : ∀ (x4 : Int32) (x5 : Int32) (x6 : Int32) (x7 : Int32) (x8 : Int32) (x9 : Int32) (h : Hp), k174 x4 x5 x6 x7 x8 x9 h = some (r0, h0) → ZG p l e (zrm 35 0 0) s m args below meth c N0 D cs (some (.int r0)) h0 h 13 [(0, .ref this), (4, .int x4), (5, .int x5), (6, .int x6), (7, .int x7), (8, .int x8), (9, .int x9)] 174 []) (hk184 : ∀ (x4 : Int32) (x5 : Int32) (x6 : Int32) (x7 : Int32) (x8 : Int32) (x9 : Int32) (x10 : Int32) (h : Hp), k184 x4 x5 x6 x7 x8 x9 x10 h = some (r0, h0) → ZG p l e (zrm 35 0 0) s m args below meth c N0 D cs (some (.int r0)) h0 h 13 [(0, .ref this), (4, .int x4), (5, .int x5), (6, .int x6), (7, .int x7), (8, .int x8), (9, .int x9), (10, .int x10)] 184 []) (hk195 : ∀ (x4 : Int32) (x5 : Int32) (x6 : Int32) (x7 : Int32) (x8 : Int32) (x9 : Int32) (x10 : Int32) (x11 : Int32) (h : Hp), k195 x4 x5 x6 x7 x8 x9 x10 x11 h = some (r0, h0) → ZG p l e (zrm 35 0 0) s m args below meth c N0 D cs (some (.int r0)) h0 h 13 [(0, .ref this), (4, .int x4), (5, .int x5), (6, .int x6), (7, .int x7), (8, .int x8), (9, .int x9), (10, .int x10), (11, .int x11)] 195 []) (x4 : Int32) (x5 : Int32) (x6 : Int32) (x7 : Int32) (x8 : Int32) (x9 : Int32) (x10 : Int32) (x11 : Int32) (h : Hp) (hf : f_L_breachOf_314 this k174 k184 k195 x4 x5 x6 x7 x8 x9 x10 x11 h = some (r0, h0)) : ZG p l e (zrm 35 0 0) s m args below meth c N0 D cs (some (.int r0)) h0 h 13 [(0, .ref this), (4, .int x4), (5, .int x5), (6, .int x6), (7, .int x7), (8, .int x8), (9, .int x9), (10, .int x10), (11, .int x11)] 314 [] := by
  intro H locs ls hH hS hl
  unfold f_L_breachOf_314 at hf
  refine lv_iinc (v := (x11 + (1 : Int32))) (lv' := [(11, .int (x11 + (1 : Int32))), (0, .ref this), (4, .int x4), (5, .int x5), (6, .int x6), (7, .int x7), (8, .int x8), (9, .int x9), (10, .int x10)]) M.x M.b d_L_breachOf_314 hl (k := 8) rfl rfl (by decide) rfl (fun ls hl => ?_)
  refine lv_goto (tgt := 195) M.x M.b d_L_breachOf_317 (by decide) ?_
  exact hk195 _ _ _ _ _ _ _ _ _ hf H locs ls hH hS (lv_sub hl [1, 2, 3, 4, 5, 6, 7, 8, 0] rfl)
def f_L_breachOf_259 (this : Nat) (k174 : Int32 → Int32 → Int32 → Int32 → Int32 → Int32 → Hp → Option ((Int32 × Hp))) (k184 : Int32 → Int32 → Int32 → Int32 → Int32 → Int32 → Int32 → Hp → Option ((Int32 × Hp))) (k195 : Int32 → Int32 → Int32 → Int32 → Int32 → Int32 → Int32 → Int32 → Hp → Option ((Int32 × Hp))) (s0 : Int32) (x4 : Int32) (x5 : Int32) (x6 : Int32) (x7 : Int32) (x8 : Int32) (x9 : Int32) (x10 : Int32) (x11 : Int32) (h : Hp) : Option ((Int32 × Hp)) :=
  if s0 = 0 then
    f_L_breachOf_314 this k174 k184 k195 x4 x5 x6 x7 x8 x9 x10 x11 h
  else
  zb2 (f_L_isBroken this x4 x9 x10 x11 h) fun i2 h3 =>
  if i2 = 0 then
    f_L_breachOf_314 this k174 k184 k195 x4 x5 x6 x7 x8 x9 x10 x11 h3
  else
  (gA h3 this 2 6).bind fun r4 =>
  (r4).bind fun a6 =>
  (sI h3 a6 x5 ((((2 : Int32) + (((x9 * (8 : Int32)) + x10) * (9 : Int32))) + x11) + (1 : Int32))).bind fun h9 =>
  (gA h9 this 2 6).bind fun r10 =>
  (r10).bind fun a12 =>
  (aI h9 0 a12 x5).bind fun i15 =>
  some (i15, h9)
set_option maxRecDepth 100000 in
set_option maxHeartbeats 4000000 in
theorem w_L_breachOf_259 {p : Program} {l : Launch} {e : Env} {s : State} {m : MethodId} {args : Array Value} {below : List Frame} {meth : Method} {c : Code} {N0 : Nat} {D : va_G} {cs : Nat → ClassId} (M : ZC p s m args meth c "YearBaskets$Laws" "breachOf" b_L_breachOf 13 (some .int) N0 D cs) (this : Nat) (k174 : Int32 → Int32 → Int32 → Int32 → Int32 → Int32 → Hp → Option ((Int32 × Hp))) (k184 : Int32 → Int32 → Int32 → Int32 → Int32 → Int32 → Int32 → Hp → Option ((Int32 × Hp))) (k195 : Int32 → Int32 → Int32 → Int32 → Int32 → Int32 → Int32 → Int32 → Hp → Option ((Int32 × Hp))) {r0 : Int32} {h0 : Hp} (hk174 : ∀ (x4 : Int32) (x5 : Int32) (x6 : Int32) (x7 : Int32) (x8 : Int32) (x9 : Int32) (h : Hp), k174 x4 x5 x6 x7 x8 x9 h = some (r0, h0) → ZG p l e (zrm 35 0 0) s m args below meth c N0 D cs (some (.int r0)) h0 h 13 [(0, .ref this), (4, .int x4), (5, .int x5), (6, .int x6), (7, .int x7), (8, .int x8), (9, .int x9)] 174 []) (hk184 : ∀ (x4 : Int32) (x5 : Int32) (x6 : Int32) (x7 : Int32) (x8 : Int32) (x9 : Int32) (x10 : Int32) (h : Hp), k184 x4 x5 x6 x7 x8 x9 x10 h = some (r0, h0) → ZG p l e (zrm 35 0 0) s m args below meth c N0 D cs (some (.int r0)) h0 h 13 [(0, .ref this), (4, .int x4), (5, .int x5), (6, .int x6), (7, .int x7), (8, .int x8), (9, .int x9), (10, .int x10)] 184 []) (hk195 : ∀ (x4 : Int32) (x5 : Int32) (x6 : Int32) (x7 : Int32) (x8 : Int32) (x9 : Int32) (x10 : Int32) (x11 : Int32) (h : Hp), k195 x4 x5 x6 x7 x8 x9 x10 x11 h = some (r0, h0) → ZG p l e (zrm 35 0 0) s m args below meth c N0 D cs (some (.int r0)) h0 h 13 [(0, .ref this), (4, .int x4), (5, .int x5), (6, .int x6), (7, .int x7), (8, .int x8), (9, .int x9), (10, .int x10), (11, .int x11)] 195 []) (s0 : Int32) (x4 : Int32) (x5 : Int32) (x6 : Int32) (x7 : Int32) (x8 : Int32) (x9 : Int32) (x10 : Int32) (x11 : Int32) (h : Hp) (hf : f_L_breachOf_259 this k174 k184 k195 s0 x4 x5 x6 x7 x8 x9 x10 x11 h = some (r0, h0)) : ZG p l e (zrm 35 0 0) s m args below meth c N0 D cs (some (.int r0)) h0 h 13 [(0, .ref this), (4, .int x4), (5, .int x5), (6, .int x6), (7, .int x7), (8, .int x8), (9, .int x9), (10, .int x10), (11, .int x11)] 259 [.int s0] := by
  intro H locs ls hH hS hl
  unfold f_L_breachOf_259 at hf
  refine lv_istore (lv' := [(12, .int s0), (0, .ref this), (4, .int x4), (5, .int x5), (6, .int x6), (7, .int x7), (8, .int x8), (9, .int x9), (10, .int x10), (11, .int x11)]) M.x M.b d_L_breachOf_259 hl (by decide) rfl (fun ls hl => ?_)
  refine lv_iload M.x M.b d_L_breachOf_261 (lv_at hl 0 rfl) ?_
  refine lv_if_eq (tgt := 314) M.x M.b d_L_breachOf_263 (by decide) (fun c17 => ?_) (fun c17 => ?_)
  · replace hf := z_t c17 hf
    exact w_L_breachOf_314 M this k174 k184 k195 hk174 hk184 hk195 _ _ _ _ _ _ _ _ _ hf H locs ls hH hS (lv_sub hl [1, 2, 3, 4, 5, 6, 7, 8, 9] rfl)
  · replace hf := z_f c17 hf
    refine lv_aload_n M.x M.b d_L_breachOf_266 rfl (lv_at hl 1 rfl) ?_
    refine lv_iload M.x M.b d_L_breachOf_267 (lv_at hl 2 rfl) ?_
    refine lv_iload M.x M.b d_L_breachOf_269 (lv_at hl 7 rfl) ?_
    refine lv_iload M.x M.b d_L_breachOf_271 (lv_at hl 8 rfl) ?_
    refine lv_iload M.x M.b d_L_breachOf_273 (lv_at hl 9 rfl) ?_
    replace hf := z_bind2 hf; obtain ⟨i2, h3, e1, hf⟩ := hf
    refine zk_V (ci := 2) (st1 := [.int i2]) M hH hS (c_L_isBroken e1) rfl (o_L_isBroken e1) w_L_isBroken q_291 [] rfl ⟨Nat.le_of_ble_eq_true rfl, Nat.le_of_ble_eq_true rfl⟩ hl.1 rfl rfl (Nat.le_of_ble_eq_true rfl) d_L_breachOf_275 (fun H locs hH hS => ?_)
    refine lv_if_eq (tgt := 314) M.x M.b d_L_breachOf_278 (by decide) (fun c16 => ?_) (fun c16 => ?_)
    · replace hf := z_t c16 hf
      exact w_L_breachOf_314 M this k174 k184 k195 hk174 hk184 hk195 _ _ _ _ _ _ _ _ _ hf H locs ls hH hS (lv_sub hl [1, 2, 3, 4, 5, 6, 7, 8, 9] rfl)
    · replace hf := z_f c16 hf
      refine lv_aload_n M.x M.b d_L_breachOf_281 rfl (lv_at hl 1 rfl) ?_
      replace hf := z_bind hf; obtain ⟨r4, e5, hf⟩ := hf
      refine z_get (ci := 2) (k := 6) M hH rfl (by decide) zinL q_235 (gA_spec e5) d_L_breachOf_282 ?_
      refine lv_iload M.x M.b d_L_breachOf_285 (lv_at hl 3 rfl) ?_
      refine lv_iconst (v := (2 : Int32)) M.x M.b d_L_breachOf_287 rfl ?_
      refine lv_iload M.x M.b d_L_breachOf_288 (lv_at hl 7 rfl) ?_
      refine lv_bipush (v := (8 : Int32)) M.x M.b d_L_breachOf_290 rfl ?_
      refine lv_imul M.x M.b d_L_breachOf_292 ?_
      refine lv_iload M.x M.b d_L_breachOf_293 (lv_at hl 8 rfl) ?_
      refine lv_iadd M.x M.b d_L_breachOf_295 ?_
      refine lv_bipush (v := (9 : Int32)) M.x M.b d_L_breachOf_296 rfl ?_
      refine lv_imul M.x M.b d_L_breachOf_298 ?_
      refine lv_iadd M.x M.b d_L_breachOf_299 ?_
      refine lv_iload M.x M.b d_L_breachOf_300 (lv_at hl 9 rfl) ?_
      refine lv_iadd M.x M.b d_L_breachOf_302 ?_
      refine lv_iconst (v := (1 : Int32)) M.x M.b d_L_breachOf_303 rfl ?_
      refine lv_iadd M.x M.b d_L_breachOf_304 ?_
      rcases r4 with _ | a6
      · exact absurd hf z_nb0
      replace hf := z_sb hf
      replace hf := z_bind hf; obtain ⟨h9, e8, hf⟩ := hf
      refine z_iast M hH hS e8 d_L_breachOf_305 (fun H locs hH hS => ?_)
      refine lv_aload_n M.x M.b d_L_breachOf_306 rfl (lv_at hl 1 rfl) ?_
      replace hf := z_bind hf; obtain ⟨r10, e11, hf⟩ := hf
      refine z_get (ci := 2) (k := 6) M hH rfl (by decide) zinL q_235 (gA_spec e11) d_L_breachOf_307 ?_
      refine lv_iload M.x M.b d_L_breachOf_310 (lv_at hl 3 rfl) ?_
      rcases r10 with _ | a12
      · exact absurd hf z_nb0
      replace hf := z_sb hf
      replace hf := z_bind hf; obtain ⟨i15, e14, hf⟩ := hf
      refine z_iald M hH e14 d_L_breachOf_312 ?_
      obtain ⟨rfl, rfl⟩ := z_r2 hf
      exact z_iret M hH hS d_L_breachOf_313
def f_L_breachOf_254 (this : Nat) (k174 : Int32 → Int32 → Int32 → Int32 → Int32 → Int32 → Hp → Option ((Int32 × Hp))) (k184 : Int32 → Int32 → Int32 → Int32 → Int32 → Int32 → Int32 → Hp → Option ((Int32 × Hp))) (k195 : Int32 → Int32 → Int32 → Int32 → Int32 → Int32 → Int32 → Int32 → Hp → Option ((Int32 × Hp))) (x4 : Int32) (x5 : Int32) (x6 : Int32) (x7 : Int32) (x8 : Int32) (x9 : Int32) (x10 : Int32) (x11 : Int32) (h : Hp) : Option ((Int32 × Hp)) :=
  f_L_breachOf_259 this k174 k184 k195 (1 : Int32) x4 x5 x6 x7 x8 x9 x10 x11 h
set_option maxRecDepth 100000 in
set_option maxHeartbeats 4000000 in
theorem w_L_breachOf_254 {p : Program} {l : Launch} {e : Env} {s : State} {m : MethodId} {args : Array Value} {below : List Frame} {meth : Method} {c : Code} {N0 : Nat} {D : va_G} {cs : Nat → ClassId} (M : ZC p s m args meth c "YearBaskets$Laws" "breachOf" b_L_breachOf 13 (some .int) N0 D cs) (this : Nat) (k174 : Int32 → Int32 → Int32 → Int32 → Int32 → Int32 → Hp → Option ((Int32 × Hp))) (k184 : Int32 → Int32 → Int32 → Int32 → Int32 → Int32 → Int32 → Hp → Option ((Int32 × Hp))) (k195 : Int32 → Int32 → Int32 → Int32 → Int32 → Int32 → Int32 → Int32 → Hp → Option ((Int32 × Hp))) {r0 : Int32} {h0 : Hp} (hk174 : ∀ (x4 : Int32) (x5 : Int32) (x6 : Int32) (x7 : Int32) (x8 : Int32) (x9 : Int32) (h : Hp), k174 x4 x5 x6 x7 x8 x9 h = some (r0, h0) → ZG p l e (zrm 35 0 0) s m args below meth c N0 D cs (some (.int r0)) h0 h 13 [(0, .ref this), (4, .int x4), (5, .int x5), (6, .int x6), (7, .int x7), (8, .int x8), (9, .int x9)] 174 []) (hk184 : ∀ (x4 : Int32) (x5 : Int32) (x6 : Int32) (x7 : Int32) (x8 : Int32) (x9 : Int32) (x10 : Int32) (h : Hp), k184 x4 x5 x6 x7 x8 x9 x10 h = some (r0, h0) → ZG p l e (zrm 35 0 0) s m args below meth c N0 D cs (some (.int r0)) h0 h 13 [(0, .ref this), (4, .int x4), (5, .int x5), (6, .int x6), (7, .int x7), (8, .int x8), (9, .int x9), (10, .int x10)] 184 []) (hk195 : ∀ (x4 : Int32) (x5 : Int32) (x6 : Int32) (x7 : Int32) (x8 : Int32) (x9 : Int32) (x10 : Int32) (x11 : Int32) (h : Hp), k195 x4 x5 x6 x7 x8 x9 x10 x11 h = some (r0, h0) → ZG p l e (zrm 35 0 0) s m args below meth c N0 D cs (some (.int r0)) h0 h 13 [(0, .ref this), (4, .int x4), (5, .int x5), (6, .int x6), (7, .int x7), (8, .int x8), (9, .int x9), (10, .int x10), (11, .int x11)] 195 []) (x4 : Int32) (x5 : Int32) (x6 : Int32) (x7 : Int32) (x8 : Int32) (x9 : Int32) (x10 : Int32) (x11 : Int32) (h : Hp) (hf : f_L_breachOf_254 this k174 k184 k195 x4 x5 x6 x7 x8 x9 x10 x11 h = some (r0, h0)) : ZG p l e (zrm 35 0 0) s m args below meth c N0 D cs (some (.int r0)) h0 h 13 [(0, .ref this), (4, .int x4), (5, .int x5), (6, .int x6), (7, .int x7), (8, .int x8), (9, .int x9), (10, .int x10), (11, .int x11)] 254 [] := by
  intro H locs ls hH hS hl
  unfold f_L_breachOf_254 at hf
  refine lv_iconst (v := (1 : Int32)) M.x M.b d_L_breachOf_254 rfl ?_
  refine lv_goto (tgt := 259) M.x M.b d_L_breachOf_255 (by decide) ?_
  exact w_L_breachOf_259 M this k174 k184 k195 hk174 hk184 hk195 _ _ _ _ _ _ _ _ _ _ hf H locs ls hH hS (lv_sub hl [0, 1, 2, 3, 4, 5, 6, 7, 8] rfl)
def f_L_breachOf_233 (this : Nat) (k174 : Int32 → Int32 → Int32 → Int32 → Int32 → Int32 → Hp → Option ((Int32 × Hp))) (k184 : Int32 → Int32 → Int32 → Int32 → Int32 → Int32 → Int32 → Hp → Option ((Int32 × Hp))) (k195 : Int32 → Int32 → Int32 → Int32 → Int32 → Int32 → Int32 → Int32 → Hp → Option ((Int32 × Hp))) (x4 : Int32) (x5 : Int32) (x6 : Int32) (x7 : Int32) (x8 : Int32) (x9 : Int32) (x10 : Int32) (x11 : Int32) (h : Hp) : Option ((Int32 × Hp)) :=
  f_L_breachOf_259 this k174 k184 k195 (0 : Int32) x4 x5 x6 x7 x8 x9 x10 x11 h
set_option maxRecDepth 100000 in
set_option maxHeartbeats 4000000 in
theorem w_L_breachOf_233 {p : Program} {l : Launch} {e : Env} {s : State} {m : MethodId} {args : Array Value} {below : List Frame} {meth : Method} {c : Code} {N0 : Nat} {D : va_G} {cs : Nat → ClassId} (M : ZC p s m args meth c "YearBaskets$Laws" "breachOf" b_L_breachOf 13 (some .int) N0 D cs) (this : Nat) (k174 : Int32 → Int32 → Int32 → Int32 → Int32 → Int32 → Hp → Option ((Int32 × Hp))) (k184 : Int32 → Int32 → Int32 → Int32 → Int32 → Int32 → Int32 → Hp → Option ((Int32 × Hp))) (k195 : Int32 → Int32 → Int32 → Int32 → Int32 → Int32 → Int32 → Int32 → Hp → Option ((Int32 × Hp))) {r0 : Int32} {h0 : Hp} (hk174 : ∀ (x4 : Int32) (x5 : Int32) (x6 : Int32) (x7 : Int32) (x8 : Int32) (x9 : Int32) (h : Hp), k174 x4 x5 x6 x7 x8 x9 h = some (r0, h0) → ZG p l e (zrm 35 0 0) s m args below meth c N0 D cs (some (.int r0)) h0 h 13 [(0, .ref this), (4, .int x4), (5, .int x5), (6, .int x6), (7, .int x7), (8, .int x8), (9, .int x9)] 174 []) (hk184 : ∀ (x4 : Int32) (x5 : Int32) (x6 : Int32) (x7 : Int32) (x8 : Int32) (x9 : Int32) (x10 : Int32) (h : Hp), k184 x4 x5 x6 x7 x8 x9 x10 h = some (r0, h0) → ZG p l e (zrm 35 0 0) s m args below meth c N0 D cs (some (.int r0)) h0 h 13 [(0, .ref this), (4, .int x4), (5, .int x5), (6, .int x6), (7, .int x7), (8, .int x8), (9, .int x9), (10, .int x10)] 184 []) (hk195 : ∀ (x4 : Int32) (x5 : Int32) (x6 : Int32) (x7 : Int32) (x8 : Int32) (x9 : Int32) (x10 : Int32) (x11 : Int32) (h : Hp), k195 x4 x5 x6 x7 x8 x9 x10 x11 h = some (r0, h0) → ZG p l e (zrm 35 0 0) s m args below meth c N0 D cs (some (.int r0)) h0 h 13 [(0, .ref this), (4, .int x4), (5, .int x5), (6, .int x6), (7, .int x7), (8, .int x8), (9, .int x9), (10, .int x10), (11, .int x11)] 195 []) (x4 : Int32) (x5 : Int32) (x6 : Int32) (x7 : Int32) (x8 : Int32) (x9 : Int32) (x10 : Int32) (x11 : Int32) (h : Hp) (hf : f_L_breachOf_233 this k174 k184 k195 x4 x5 x6 x7 x8 x9 x10 x11 h = some (r0, h0)) : ZG p l e (zrm 35 0 0) s m args below meth c N0 D cs (some (.int r0)) h0 h 13 [(0, .ref this), (4, .int x4), (5, .int x5), (6, .int x6), (7, .int x7), (8, .int x8), (9, .int x9), (10, .int x10), (11, .int x11)] 233 [] := by
  intro H locs ls hH hS hl
  unfold f_L_breachOf_233 at hf
  refine lv_iconst (v := (0 : Int32)) M.x M.b d_L_breachOf_233 rfl ?_
  refine lv_goto (tgt := 259) M.x M.b d_L_breachOf_234 (by decide) ?_
  exact w_L_breachOf_259 M this k174 k184 k195 hk174 hk184 hk195 _ _ _ _ _ _ _ _ _ _ hf H locs ls hH hS (lv_sub hl [0, 1, 2, 3, 4, 5, 6, 7, 8] rfl)
def t_L_breachOf_195 (this : Nat) (k174 : Int32 → Int32 → Int32 → Int32 → Int32 → Int32 → Hp → Option ((Int32 × Hp))) (k184 : Int32 → Int32 → Int32 → Int32 → Int32 → Int32 → Int32 → Hp → Option ((Int32 × Hp))) (k195 : Int32 → Int32 → Int32 → Int32 → Int32 → Int32 → Int32 → Int32 → Hp → Option ((Int32 × Hp))) (x4 : Int32) (x5 : Int32) (x6 : Int32) (x7 : Int32) (x8 : Int32) (x9 : Int32) (x10 : Int32) (x11 : Int32) (h : Hp) : Option ((Int32 × Hp)) :=
  if x8 < x11 then
    f_L_breachOf_320 this k174 k184 x4 x5 x6 x7 x8 x9 x10 h
  else
  if x9 = x10 then
    f_L_breachOf_320 this k174 k184 x4 x5 x6 x7 x8 x9 x10 h
  else
  if x4 = (2 : Int32) then
    if x11 = x9 then
      f_L_breachOf_233 this k174 k184 k195 x4 x5 x6 x7 x8 x9 x10 x11 h
    else
    if x11 = x10 then
      f_L_breachOf_233 this k174 k184 k195 x4 x5 x6 x7 x8 x9 x10 x11 h
    else
    f_L_breachOf_259 this k174 k184 k195 (1 : Int32) x4 x5 x6 x7 x8 x9 x10 x11 h
  else
  if x11 = (-1 : Int32) then
    f_L_breachOf_254 this k174 k184 k195 x4 x5 x6 x7 x8 x9 x10 x11 h
  else
  if ((x6 >>> (x11 &&& 31)) &&& (1 : Int32)) = (1 : Int32) then
    f_L_breachOf_254 this k174 k184 k195 x4 x5 x6 x7 x8 x9 x10 x11 h
  else
  f_L_breachOf_259 this k174 k184 k195 (0 : Int32) x4 x5 x6 x7 x8 x9 x10 x11 h
set_option maxRecDepth 100000 in
set_option maxHeartbeats 4000000 in
theorem v_L_breachOf_195 {p : Program} {l : Launch} {e : Env} {s : State} {m : MethodId} {args : Array Value} {below : List Frame} {meth : Method} {c : Code} {N0 : Nat} {D : va_G} {cs : Nat → ClassId} (M : ZC p s m args meth c "YearBaskets$Laws" "breachOf" b_L_breachOf 13 (some .int) N0 D cs) (this : Nat) (k174 : Int32 → Int32 → Int32 → Int32 → Int32 → Int32 → Hp → Option ((Int32 × Hp))) (k184 : Int32 → Int32 → Int32 → Int32 → Int32 → Int32 → Int32 → Hp → Option ((Int32 × Hp))) (k195 : Int32 → Int32 → Int32 → Int32 → Int32 → Int32 → Int32 → Int32 → Hp → Option ((Int32 × Hp))) {r0 : Int32} {h0 : Hp} (hk174 : ∀ (x4 : Int32) (x5 : Int32) (x6 : Int32) (x7 : Int32) (x8 : Int32) (x9 : Int32) (h : Hp), k174 x4 x5 x6 x7 x8 x9 h = some (r0, h0) → ZG p l e (zrm 35 0 0) s m args below meth c N0 D cs (some (.int r0)) h0 h 13 [(0, .ref this), (4, .int x4), (5, .int x5), (6, .int x6), (7, .int x7), (8, .int x8), (9, .int x9)] 174 []) (hk184 : ∀ (x4 : Int32) (x5 : Int32) (x6 : Int32) (x7 : Int32) (x8 : Int32) (x9 : Int32) (x10 : Int32) (h : Hp), k184 x4 x5 x6 x7 x8 x9 x10 h = some (r0, h0) → ZG p l e (zrm 35 0 0) s m args below meth c N0 D cs (some (.int r0)) h0 h 13 [(0, .ref this), (4, .int x4), (5, .int x5), (6, .int x6), (7, .int x7), (8, .int x8), (9, .int x9), (10, .int x10)] 184 []) (hk195 : ∀ (x4 : Int32) (x5 : Int32) (x6 : Int32) (x7 : Int32) (x8 : Int32) (x9 : Int32) (x10 : Int32) (x11 : Int32) (h : Hp), k195 x4 x5 x6 x7 x8 x9 x10 x11 h = some (r0, h0) → ZG p l e (zrm 35 0 0) s m args below meth c N0 D cs (some (.int r0)) h0 h 13 [(0, .ref this), (4, .int x4), (5, .int x5), (6, .int x6), (7, .int x7), (8, .int x8), (9, .int x9), (10, .int x10), (11, .int x11)] 195 []) (x4 : Int32) (x5 : Int32) (x6 : Int32) (x7 : Int32) (x8 : Int32) (x9 : Int32) (x10 : Int32) (x11 : Int32) (h : Hp) (hf : t_L_breachOf_195 this k174 k184 k195 x4 x5 x6 x7 x8 x9 x10 x11 h = some (r0, h0)) : ZG p l e (zrm 35 0 0) s m args below meth c N0 D cs (some (.int r0)) h0 h 13 [(0, .ref this), (4, .int x4), (5, .int x5), (6, .int x6), (7, .int x7), (8, .int x8), (9, .int x9), (10, .int x10), (11, .int x11)] 195 [] := by
  intro H locs ls hH hS hl
  unfold t_L_breachOf_195 at hf
  refine lv_iload M.x M.b d_L_breachOf_195 (lv_at hl 8 rfl) ?_
  refine lv_iload M.x M.b d_L_breachOf_197 (lv_at hl 5 rfl) ?_
  refine lv_icmp_gt (tgt := 320) M.x M.b d_L_breachOf_199 (by decide) (fun c24 => ?_) (fun c24 => ?_)
  · replace hf := z_t c24 hf
    exact w_L_breachOf_320 M this k174 k184 hk174 hk184 _ _ _ _ _ _ _ _ hf H locs ls hH hS (lv_sub hl [0, 1, 2, 3, 4, 5, 6, 7] rfl)
  · replace hf := z_f c24 hf
    refine lv_iload M.x M.b d_L_breachOf_202 (lv_at hl 6 rfl) ?_
    refine lv_iload M.x M.b d_L_breachOf_204 (lv_at hl 7 rfl) ?_
    refine lv_icmp_eq (tgt := 320) M.x M.b d_L_breachOf_206 (by decide) (fun c23 => ?_) (fun c23 => ?_)
    · replace hf := z_t c23 hf
      exact w_L_breachOf_320 M this k174 k184 hk174 hk184 _ _ _ _ _ _ _ _ hf H locs ls hH hS (lv_sub hl [0, 1, 2, 3, 4, 5, 6, 7] rfl)
    · replace hf := z_f c23 hf
      refine lv_iload M.x M.b d_L_breachOf_209 (lv_at hl 1 rfl) ?_
      refine lv_iconst (v := (2 : Int32)) M.x M.b d_L_breachOf_211 rfl ?_
      refine lv_icmp_ne (tgt := 237) M.x M.b d_L_breachOf_212 (by decide) (fun c22 => ?_) (fun c22 => ?_)
      · replace hf := z_f c22 hf
        refine lv_iload M.x M.b d_L_breachOf_237 (lv_at hl 8 rfl) ?_
        refine lv_iconst (v := (-1 : Int32)) M.x M.b d_L_breachOf_239 rfl ?_
        refine lv_icmp_eq (tgt := 254) M.x M.b d_L_breachOf_240 (by decide) (fun c19 => ?_) (fun c19 => ?_)
        · replace hf := z_t c19 hf
          exact w_L_breachOf_254 M this k174 k184 k195 hk174 hk184 hk195 _ _ _ _ _ _ _ _ _ hf H locs ls hH hS (lv_sub hl [0, 1, 2, 3, 4, 5, 6, 7, 8] rfl)
        · replace hf := z_f c19 hf
          refine lv_iload M.x M.b d_L_breachOf_243 (lv_at hl 3 rfl) ?_
          refine lv_iload M.x M.b d_L_breachOf_245 (lv_at hl 8 rfl) ?_
          refine lv_ishr M.x M.b d_L_breachOf_247 ?_
          refine lv_iconst (v := (1 : Int32)) M.x M.b d_L_breachOf_248 rfl ?_
          refine lv_iand M.x M.b d_L_breachOf_249 ?_
          refine lv_iconst (v := (1 : Int32)) M.x M.b d_L_breachOf_250 rfl ?_
          refine lv_icmp_ne (tgt := 258) M.x M.b d_L_breachOf_251 (by decide) (fun c18 => ?_) (fun c18 => ?_)
          · replace hf := z_f c18 hf
            refine lv_iconst (v := (0 : Int32)) M.x M.b d_L_breachOf_258 rfl ?_
            exact w_L_breachOf_259 M this k174 k184 k195 hk174 hk184 hk195 _ _ _ _ _ _ _ _ _ _ hf H locs ls hH hS (lv_sub hl [0, 1, 2, 3, 4, 5, 6, 7, 8] rfl)
          · replace hf := z_t c18 hf
            exact w_L_breachOf_254 M this k174 k184 k195 hk174 hk184 hk195 _ _ _ _ _ _ _ _ _ hf H locs ls hH hS (lv_sub hl [0, 1, 2, 3, 4, 5, 6, 7, 8] rfl)
      · replace hf := z_t c22 hf
        refine lv_iload M.x M.b d_L_breachOf_215 (lv_at hl 8 rfl) ?_
        refine lv_iload M.x M.b d_L_breachOf_217 (lv_at hl 6 rfl) ?_
        refine lv_icmp_eq (tgt := 233) M.x M.b d_L_breachOf_219 (by decide) (fun c21 => ?_) (fun c21 => ?_)
        · replace hf := z_t c21 hf
          exact w_L_breachOf_233 M this k174 k184 k195 hk174 hk184 hk195 _ _ _ _ _ _ _ _ _ hf H locs ls hH hS (lv_sub hl [0, 1, 2, 3, 4, 5, 6, 7, 8] rfl)
        · replace hf := z_f c21 hf
          refine lv_iload M.x M.b d_L_breachOf_222 (lv_at hl 8 rfl) ?_
          refine lv_iload M.x M.b d_L_breachOf_224 (lv_at hl 7 rfl) ?_
          refine lv_icmp_eq (tgt := 233) M.x M.b d_L_breachOf_226 (by decide) (fun c20 => ?_) (fun c20 => ?_)
          · replace hf := z_t c20 hf
            exact w_L_breachOf_233 M this k174 k184 k195 hk174 hk184 hk195 _ _ _ _ _ _ _ _ _ hf H locs ls hH hS (lv_sub hl [0, 1, 2, 3, 4, 5, 6, 7, 8] rfl)
          · replace hf := z_f c20 hf
            refine lv_iconst (v := (1 : Int32)) M.x M.b d_L_breachOf_229 rfl ?_
            refine lv_goto (tgt := 259) M.x M.b d_L_breachOf_230 (by decide) ?_
            exact w_L_breachOf_259 M this k174 k184 k195 hk174 hk184 hk195 _ _ _ _ _ _ _ _ _ _ hf H locs ls hH hS (lv_sub hl [0, 1, 2, 3, 4, 5, 6, 7, 8] rfl)
def f_L_breachOf_195 (this : Nat) (k174 : Int32 → Int32 → Int32 → Int32 → Int32 → Int32 → Hp → Option ((Int32 × Hp))) (k184 : Int32 → Int32 → Int32 → Int32 → Int32 → Int32 → Int32 → Hp → Option ((Int32 × Hp))) : Nat → Int32 → Int32 → Int32 → Int32 → Int32 → Int32 → Int32 → Int32 → Hp → Option ((Int32 × Hp))
  | 0, _, _, _, _, _, _, _, _, _ => none
  | n + 1, x4, x5, x6, x7, x8, x9, x10, x11, h => t_L_breachOf_195 this k174 k184 (f_L_breachOf_195 this k174 k184 n) x4 x5 x6 x7 x8 x9 x10 x11 h
theorem w_L_breachOf_195 {p : Program} {l : Launch} {e : Env} {s : State} {m : MethodId} {args : Array Value} {below : List Frame} {meth : Method} {c : Code} {N0 : Nat} {D : va_G} {cs : Nat → ClassId} (M : ZC p s m args meth c "YearBaskets$Laws" "breachOf" b_L_breachOf 13 (some .int) N0 D cs) (this : Nat) (k174 : Int32 → Int32 → Int32 → Int32 → Int32 → Int32 → Hp → Option ((Int32 × Hp))) (k184 : Int32 → Int32 → Int32 → Int32 → Int32 → Int32 → Int32 → Hp → Option ((Int32 × Hp))) {r0 : Int32} {h0 : Hp} (hk174 : ∀ (x4 : Int32) (x5 : Int32) (x6 : Int32) (x7 : Int32) (x8 : Int32) (x9 : Int32) (h : Hp), k174 x4 x5 x6 x7 x8 x9 h = some (r0, h0) → ZG p l e (zrm 35 0 0) s m args below meth c N0 D cs (some (.int r0)) h0 h 13 [(0, .ref this), (4, .int x4), (5, .int x5), (6, .int x6), (7, .int x7), (8, .int x8), (9, .int x9)] 174 []) (hk184 : ∀ (x4 : Int32) (x5 : Int32) (x6 : Int32) (x7 : Int32) (x8 : Int32) (x9 : Int32) (x10 : Int32) (h : Hp), k184 x4 x5 x6 x7 x8 x9 x10 h = some (r0, h0) → ZG p l e (zrm 35 0 0) s m args below meth c N0 D cs (some (.int r0)) h0 h 13 [(0, .ref this), (4, .int x4), (5, .int x5), (6, .int x6), (7, .int x7), (8, .int x8), (9, .int x9), (10, .int x10)] 184 []) : ∀ (n : Nat) (x4 : Int32) (x5 : Int32) (x6 : Int32) (x7 : Int32) (x8 : Int32) (x9 : Int32) (x10 : Int32) (x11 : Int32) (h : Hp), f_L_breachOf_195 this k174 k184 n x4 x5 x6 x7 x8 x9 x10 x11 h = some (r0, h0) → ZG p l e (zrm 35 0 0) s m args below meth c N0 D cs (some (.int r0)) h0 h 13 [(0, .ref this), (4, .int x4), (5, .int x5), (6, .int x6), (7, .int x7), (8, .int x8), (9, .int x9), (10, .int x10), (11, .int x11)] 195 [] := by
  intro n
  induction n with
  | zero => intro x4 x5 x6 x7 x8 x9 x10 x11 h hf; exact absurd (show none = some _ from hf) (fun q => by cases q)
  | succ n ih => intro x4 x5 x6 x7 x8 x9 x10 x11 h hf; exact v_L_breachOf_195 M this k174 k184 (f_L_breachOf_195 this k174 k184 n) hk174 hk184 ih _ _ _ _ _ _ _ _ _ hf
def t_L_breachOf_184 (this : Nat) (k174 : Int32 → Int32 → Int32 → Int32 → Int32 → Int32 → Hp → Option ((Int32 × Hp))) (k184 : Int32 → Int32 → Int32 → Int32 → Int32 → Int32 → Int32 → Hp → Option ((Int32 × Hp))) (x4 : Int32) (x5 : Int32) (x6 : Int32) (x7 : Int32) (x8 : Int32) (x9 : Int32) (x10 : Int32) (h : Hp) : Option ((Int32 × Hp)) :=
  if (8 : Int32) ≤ x10 then
    k174 x4 x5 x6 x7 x8 (x9 + (1 : Int32)) h
  else
  f_L_breachOf_195 this k174 k184 FU x4 x5 x6 x7 x8 x9 x10 x7 h
set_option maxRecDepth 100000 in
set_option maxHeartbeats 4000000 in
theorem v_L_breachOf_184 {p : Program} {l : Launch} {e : Env} {s : State} {m : MethodId} {args : Array Value} {below : List Frame} {meth : Method} {c : Code} {N0 : Nat} {D : va_G} {cs : Nat → ClassId} (M : ZC p s m args meth c "YearBaskets$Laws" "breachOf" b_L_breachOf 13 (some .int) N0 D cs) (this : Nat) (k174 : Int32 → Int32 → Int32 → Int32 → Int32 → Int32 → Hp → Option ((Int32 × Hp))) (k184 : Int32 → Int32 → Int32 → Int32 → Int32 → Int32 → Int32 → Hp → Option ((Int32 × Hp))) {r0 : Int32} {h0 : Hp} (hk174 : ∀ (x4 : Int32) (x5 : Int32) (x6 : Int32) (x7 : Int32) (x8 : Int32) (x9 : Int32) (h : Hp), k174 x4 x5 x6 x7 x8 x9 h = some (r0, h0) → ZG p l e (zrm 35 0 0) s m args below meth c N0 D cs (some (.int r0)) h0 h 13 [(0, .ref this), (4, .int x4), (5, .int x5), (6, .int x6), (7, .int x7), (8, .int x8), (9, .int x9)] 174 []) (hk184 : ∀ (x4 : Int32) (x5 : Int32) (x6 : Int32) (x7 : Int32) (x8 : Int32) (x9 : Int32) (x10 : Int32) (h : Hp), k184 x4 x5 x6 x7 x8 x9 x10 h = some (r0, h0) → ZG p l e (zrm 35 0 0) s m args below meth c N0 D cs (some (.int r0)) h0 h 13 [(0, .ref this), (4, .int x4), (5, .int x5), (6, .int x6), (7, .int x7), (8, .int x8), (9, .int x9), (10, .int x10)] 184 []) (x4 : Int32) (x5 : Int32) (x6 : Int32) (x7 : Int32) (x8 : Int32) (x9 : Int32) (x10 : Int32) (h : Hp) (hf : t_L_breachOf_184 this k174 k184 x4 x5 x6 x7 x8 x9 x10 h = some (r0, h0)) : ZG p l e (zrm 35 0 0) s m args below meth c N0 D cs (some (.int r0)) h0 h 13 [(0, .ref this), (4, .int x4), (5, .int x5), (6, .int x6), (7, .int x7), (8, .int x8), (9, .int x9), (10, .int x10)] 184 [] := by
  intro H locs ls hH hS hl
  unfold t_L_breachOf_184 at hf
  refine lv_iload M.x M.b d_L_breachOf_184 (lv_at hl 7 rfl) ?_
  refine lv_bipush (v := (8 : Int32)) M.x M.b d_L_breachOf_186 rfl ?_
  refine lv_icmp_ge (tgt := 326) M.x M.b d_L_breachOf_188 (by decide) (fun c25 => ?_) (fun c25 => ?_)
  · replace hf := z_t c25 hf
    refine lv_iinc (v := (x9 + (1 : Int32))) (lv' := [(9, .int (x9 + (1 : Int32))), (0, .ref this), (4, .int x4), (5, .int x5), (6, .int x6), (7, .int x7), (8, .int x8), (10, .int x10)]) M.x M.b d_L_breachOf_326 hl (k := 6) rfl rfl (by decide) rfl (fun ls hl => ?_)
    refine lv_goto (tgt := 174) M.x M.b d_L_breachOf_329 (by decide) ?_
    exact hk174 _ _ _ _ _ _ _ hf H locs ls hH hS (lv_sub hl [1, 2, 3, 4, 5, 6, 0] rfl)
  · replace hf := z_f c25 hf
    refine lv_iload M.x M.b d_L_breachOf_191 (lv_at hl 4 rfl) ?_
    refine lv_istore (lv' := [(11, .int x7), (0, .ref this), (4, .int x4), (5, .int x5), (6, .int x6), (7, .int x7), (8, .int x8), (9, .int x9), (10, .int x10)]) M.x M.b d_L_breachOf_193 hl (by decide) rfl (fun ls hl => ?_)
    exact w_L_breachOf_195 M this k174 k184 hk174 hk184 FU _ _ _ _ _ _ _ _ _ hf H locs ls hH hS (lv_sub hl [1, 2, 3, 4, 5, 6, 7, 8, 0] rfl)
def f_L_breachOf_184 (this : Nat) (k174 : Int32 → Int32 → Int32 → Int32 → Int32 → Int32 → Hp → Option ((Int32 × Hp))) : Nat → Int32 → Int32 → Int32 → Int32 → Int32 → Int32 → Int32 → Hp → Option ((Int32 × Hp))
  | 0, _, _, _, _, _, _, _, _ => none
  | n + 1, x4, x5, x6, x7, x8, x9, x10, h => t_L_breachOf_184 this k174 (f_L_breachOf_184 this k174 n) x4 x5 x6 x7 x8 x9 x10 h
theorem w_L_breachOf_184 {p : Program} {l : Launch} {e : Env} {s : State} {m : MethodId} {args : Array Value} {below : List Frame} {meth : Method} {c : Code} {N0 : Nat} {D : va_G} {cs : Nat → ClassId} (M : ZC p s m args meth c "YearBaskets$Laws" "breachOf" b_L_breachOf 13 (some .int) N0 D cs) (this : Nat) (k174 : Int32 → Int32 → Int32 → Int32 → Int32 → Int32 → Hp → Option ((Int32 × Hp))) {r0 : Int32} {h0 : Hp} (hk174 : ∀ (x4 : Int32) (x5 : Int32) (x6 : Int32) (x7 : Int32) (x8 : Int32) (x9 : Int32) (h : Hp), k174 x4 x5 x6 x7 x8 x9 h = some (r0, h0) → ZG p l e (zrm 35 0 0) s m args below meth c N0 D cs (some (.int r0)) h0 h 13 [(0, .ref this), (4, .int x4), (5, .int x5), (6, .int x6), (7, .int x7), (8, .int x8), (9, .int x9)] 174 []) : ∀ (n : Nat) (x4 : Int32) (x5 : Int32) (x6 : Int32) (x7 : Int32) (x8 : Int32) (x9 : Int32) (x10 : Int32) (h : Hp), f_L_breachOf_184 this k174 n x4 x5 x6 x7 x8 x9 x10 h = some (r0, h0) → ZG p l e (zrm 35 0 0) s m args below meth c N0 D cs (some (.int r0)) h0 h 13 [(0, .ref this), (4, .int x4), (5, .int x5), (6, .int x6), (7, .int x7), (8, .int x8), (9, .int x9), (10, .int x10)] 184 [] := by
  intro n
  induction n with
  | zero => intro x4 x5 x6 x7 x8 x9 x10 h hf; exact absurd (show none = some _ from hf) (fun q => by cases q)
  | succ n ih => intro x4 x5 x6 x7 x8 x9 x10 h hf; exact v_L_breachOf_184 M this k174 (f_L_breachOf_184 this k174 n) hk174 ih _ _ _ _ _ _ _ _ hf
def t_L_breachOf_174 (this : Nat) (k174 : Int32 → Int32 → Int32 → Int32 → Int32 → Int32 → Hp → Option ((Int32 × Hp))) (x4 : Int32) (x5 : Int32) (x6 : Int32) (x7 : Int32) (x8 : Int32) (x9 : Int32) (h : Hp) : Option ((Int32 × Hp)) :=
  if (8 : Int32) ≤ x9 then
    (gA h this 2 6).bind fun r26 =>
    (r26).bind fun a28 =>
    (sI h a28 x5 (1 : Int32)).bind fun h31 =>
    some ((1 : Int32), h31)
  else
  f_L_breachOf_184 this k174 FU x4 x5 x6 x7 x8 x9 (0 : Int32) h
set_option maxRecDepth 100000 in
set_option maxHeartbeats 4000000 in
theorem v_L_breachOf_174 {p : Program} {l : Launch} {e : Env} {s : State} {m : MethodId} {args : Array Value} {below : List Frame} {meth : Method} {c : Code} {N0 : Nat} {D : va_G} {cs : Nat → ClassId} (M : ZC p s m args meth c "YearBaskets$Laws" "breachOf" b_L_breachOf 13 (some .int) N0 D cs) (this : Nat) (k174 : Int32 → Int32 → Int32 → Int32 → Int32 → Int32 → Hp → Option ((Int32 × Hp))) {r0 : Int32} {h0 : Hp} (hk174 : ∀ (x4 : Int32) (x5 : Int32) (x6 : Int32) (x7 : Int32) (x8 : Int32) (x9 : Int32) (h : Hp), k174 x4 x5 x6 x7 x8 x9 h = some (r0, h0) → ZG p l e (zrm 35 0 0) s m args below meth c N0 D cs (some (.int r0)) h0 h 13 [(0, .ref this), (4, .int x4), (5, .int x5), (6, .int x6), (7, .int x7), (8, .int x8), (9, .int x9)] 174 []) (x4 : Int32) (x5 : Int32) (x6 : Int32) (x7 : Int32) (x8 : Int32) (x9 : Int32) (h : Hp) (hf : t_L_breachOf_174 this k174 x4 x5 x6 x7 x8 x9 h = some (r0, h0)) : ZG p l e (zrm 35 0 0) s m args below meth c N0 D cs (some (.int r0)) h0 h 13 [(0, .ref this), (4, .int x4), (5, .int x5), (6, .int x6), (7, .int x7), (8, .int x8), (9, .int x9)] 174 [] := by
  intro H locs ls hH hS hl
  unfold t_L_breachOf_174 at hf
  refine lv_iload M.x M.b d_L_breachOf_174 (lv_at hl 6 rfl) ?_
  refine lv_bipush (v := (8 : Int32)) M.x M.b d_L_breachOf_176 rfl ?_
  refine lv_icmp_ge (tgt := 332) M.x M.b d_L_breachOf_178 (by decide) (fun c32 => ?_) (fun c32 => ?_)
  · replace hf := z_t c32 hf
    refine lv_aload_n M.x M.b d_L_breachOf_332 rfl (lv_at hl 0 rfl) ?_
    replace hf := z_bind hf; obtain ⟨r26, e27, hf⟩ := hf
    refine z_get (ci := 2) (k := 6) M hH rfl (by decide) zinL q_235 (gA_spec e27) d_L_breachOf_333 ?_
    refine lv_iload M.x M.b d_L_breachOf_336 (lv_at hl 2 rfl) ?_
    refine lv_iconst (v := (1 : Int32)) M.x M.b d_L_breachOf_338 rfl ?_
    rcases r26 with _ | a28
    · exact absurd hf z_nb0
    replace hf := z_sb hf
    replace hf := z_bind hf; obtain ⟨h31, e30, hf⟩ := hf
    refine z_iast M hH hS e30 d_L_breachOf_339 (fun H locs hH hS => ?_)
    refine lv_iconst (v := (1 : Int32)) M.x M.b d_L_breachOf_340 rfl ?_
    obtain ⟨rfl, rfl⟩ := z_r2 hf
    exact z_iret M hH hS d_L_breachOf_341
  · replace hf := z_f c32 hf
    refine lv_iconst (v := (0 : Int32)) M.x M.b d_L_breachOf_181 rfl ?_
    refine lv_istore (lv' := [(10, .int (0 : Int32)), (0, .ref this), (4, .int x4), (5, .int x5), (6, .int x6), (7, .int x7), (8, .int x8), (9, .int x9)]) M.x M.b d_L_breachOf_182 hl (by decide) rfl (fun ls hl => ?_)
    exact w_L_breachOf_184 M this k174 hk174 FU _ _ _ _ _ _ _ _ hf H locs ls hH hS (lv_sub hl [1, 2, 3, 4, 5, 6, 7, 0] rfl)
def f_L_breachOf_174 (this : Nat) : Nat → Int32 → Int32 → Int32 → Int32 → Int32 → Int32 → Hp → Option ((Int32 × Hp))
  | 0, _, _, _, _, _, _, _ => none
  | n + 1, x4, x5, x6, x7, x8, x9, h => t_L_breachOf_174 this (f_L_breachOf_174 this n) x4 x5 x6 x7 x8 x9 h
theorem w_L_breachOf_174 {p : Program} {l : Launch} {e : Env} {s : State} {m : MethodId} {args : Array Value} {below : List Frame} {meth : Method} {c : Code} {N0 : Nat} {D : va_G} {cs : Nat → ClassId} (M : ZC p s m args meth c "YearBaskets$Laws" "breachOf" b_L_breachOf 13 (some .int) N0 D cs) (this : Nat)  {r0 : Int32} {h0 : Hp}  : ∀ (n : Nat) (x4 : Int32) (x5 : Int32) (x6 : Int32) (x7 : Int32) (x8 : Int32) (x9 : Int32) (h : Hp), f_L_breachOf_174 this n x4 x5 x6 x7 x8 x9 h = some (r0, h0) → ZG p l e (zrm 35 0 0) s m args below meth c N0 D cs (some (.int r0)) h0 h 13 [(0, .ref this), (4, .int x4), (5, .int x5), (6, .int x6), (7, .int x7), (8, .int x8), (9, .int x9)] 174 [] := by
  intro n
  induction n with
  | zero => intro x4 x5 x6 x7 x8 x9 h hf; exact absurd (show none = some _ from hf) (fun q => by cases q)
  | succ n ih => intro x4 x5 x6 x7 x8 x9 h hf; exact v_L_breachOf_174 M this (f_L_breachOf_174 this n)  ih _ _ _ _ _ _ _ hf
def f_L_breachOf_169 (this : Nat) (s0 : Int32) (x4 : Int32) (x5 : Int32) (x6 : Int32) (x7 : Int32) (h : Hp) : Option ((Int32 × Hp)) :=
  f_L_breachOf_174 this FU x4 x5 x6 x7 s0 (0 : Int32) h
set_option maxRecDepth 100000 in
set_option maxHeartbeats 4000000 in
theorem w_L_breachOf_169 {p : Program} {l : Launch} {e : Env} {s : State} {m : MethodId} {args : Array Value} {below : List Frame} {meth : Method} {c : Code} {N0 : Nat} {D : va_G} {cs : Nat → ClassId} (M : ZC p s m args meth c "YearBaskets$Laws" "breachOf" b_L_breachOf 13 (some .int) N0 D cs) (this : Nat)  {r0 : Int32} {h0 : Hp}  (s0 : Int32) (x4 : Int32) (x5 : Int32) (x6 : Int32) (x7 : Int32) (h : Hp) (hf : f_L_breachOf_169 this s0 x4 x5 x6 x7 h = some (r0, h0)) : ZG p l e (zrm 35 0 0) s m args below meth c N0 D cs (some (.int r0)) h0 h 13 [(0, .ref this), (4, .int x4), (5, .int x5), (6, .int x6), (7, .int x7)] 169 [.int s0] := by
  intro H locs ls hH hS hl
  unfold f_L_breachOf_169 at hf
  refine lv_istore (lv' := [(8, .int s0), (0, .ref this), (4, .int x4), (5, .int x5), (6, .int x6), (7, .int x7)]) M.x M.b d_L_breachOf_169 hl (by decide) rfl (fun ls hl => ?_)
  refine lv_iconst (v := (0 : Int32)) M.x M.b d_L_breachOf_171 rfl ?_
  refine lv_istore (lv' := [(9, .int (0 : Int32)), (8, .int s0), (0, .ref this), (4, .int x4), (5, .int x5), (6, .int x6), (7, .int x7)]) M.x M.b d_L_breachOf_172 hl (by decide) rfl (fun ls hl => ?_)
  exact w_L_breachOf_174 M this FU _ _ _ _ _ _ _ hf H locs ls hH hS (lv_sub hl [2, 3, 4, 5, 6, 1, 0] rfl)
def f_L_breachOf_146 (this : Nat) (s0 : Int32) (x4 : Int32) (x5 : Int32) (x6 : Int32) (h : Hp) : Option ((Int32 × Hp)) :=
  if x4 = (2 : Int32) then
    f_L_breachOf_169 this (7 : Int32) x4 x5 x6 s0 h
  else
  if s0 = 0 then
    f_L_breachOf_169 this (4 : Int32) x4 x5 x6 s0 h
  else
  f_L_breachOf_169 this (-1 : Int32) x4 x5 x6 s0 h
set_option maxRecDepth 100000 in
set_option maxHeartbeats 4000000 in
theorem w_L_breachOf_146 {p : Program} {l : Launch} {e : Env} {s : State} {m : MethodId} {args : Array Value} {below : List Frame} {meth : Method} {c : Code} {N0 : Nat} {D : va_G} {cs : Nat → ClassId} (M : ZC p s m args meth c "YearBaskets$Laws" "breachOf" b_L_breachOf 13 (some .int) N0 D cs) (this : Nat)  {r0 : Int32} {h0 : Hp}  (s0 : Int32) (x4 : Int32) (x5 : Int32) (x6 : Int32) (h : Hp) (hf : f_L_breachOf_146 this s0 x4 x5 x6 h = some (r0, h0)) : ZG p l e (zrm 35 0 0) s m args below meth c N0 D cs (some (.int r0)) h0 h 13 [(0, .ref this), (4, .int x4), (5, .int x5), (6, .int x6)] 146 [.int s0] := by
  intro H locs ls hH hS hl
  unfold f_L_breachOf_146 at hf
  refine lv_istore (lv' := [(7, .int s0), (0, .ref this), (4, .int x4), (5, .int x5), (6, .int x6)]) M.x M.b d_L_breachOf_146 hl (by decide) rfl (fun ls hl => ?_)
  refine lv_iload M.x M.b d_L_breachOf_148 (lv_at hl 2 rfl) ?_
  refine lv_iconst (v := (2 : Int32)) M.x M.b d_L_breachOf_150 rfl ?_
  refine lv_icmp_ne (tgt := 159) M.x M.b d_L_breachOf_151 (by decide) (fun c34 => ?_) (fun c34 => ?_)
  · replace hf := z_f c34 hf
    refine lv_iload M.x M.b d_L_breachOf_159 (lv_at hl 0 rfl) ?_
    refine lv_if_ne (tgt := 168) M.x M.b d_L_breachOf_161 (by decide) (fun c33 => ?_) (fun c33 => ?_)
    · replace hf := z_f c33 hf
      refine lv_iconst (v := (-1 : Int32)) M.x M.b d_L_breachOf_168 rfl ?_
      exact w_L_breachOf_169 M this _ _ _ _ _ _ hf H locs ls hH hS (lv_sub hl [1, 2, 3, 4, 0] rfl)
    · replace hf := z_t c33 hf
      refine lv_iconst (v := (4 : Int32)) M.x M.b d_L_breachOf_164 rfl ?_
      refine lv_goto (tgt := 169) M.x M.b d_L_breachOf_165 (by decide) ?_
      exact w_L_breachOf_169 M this _ _ _ _ _ _ hf H locs ls hH hS (lv_sub hl [1, 2, 3, 4, 0] rfl)
  · replace hf := z_t c34 hf
    refine lv_bipush (v := (7 : Int32)) M.x M.b d_L_breachOf_154 rfl ?_
    refine lv_goto (tgt := 169) M.x M.b d_L_breachOf_156 (by decide) ?_
    exact w_L_breachOf_169 M this _ _ _ _ _ _ hf H locs ls hH hS (lv_sub hl [1, 2, 3, 4, 0] rfl)
def f_L_breachOf_141 (this : Nat) (x4 : Int32) (x5 : Int32) (x6 : Int32) (h : Hp) : Option ((Int32 × Hp)) :=
  f_L_breachOf_146 this (0 : Int32) x4 x5 x6 h
set_option maxRecDepth 100000 in
set_option maxHeartbeats 4000000 in
theorem w_L_breachOf_141 {p : Program} {l : Launch} {e : Env} {s : State} {m : MethodId} {args : Array Value} {below : List Frame} {meth : Method} {c : Code} {N0 : Nat} {D : va_G} {cs : Nat → ClassId} (M : ZC p s m args meth c "YearBaskets$Laws" "breachOf" b_L_breachOf 13 (some .int) N0 D cs) (this : Nat)  {r0 : Int32} {h0 : Hp}  (x4 : Int32) (x5 : Int32) (x6 : Int32) (h : Hp) (hf : f_L_breachOf_141 this x4 x5 x6 h = some (r0, h0)) : ZG p l e (zrm 35 0 0) s m args below meth c N0 D cs (some (.int r0)) h0 h 13 [(0, .ref this), (4, .int x4), (5, .int x5), (6, .int x6)] 141 [] := by
  intro H locs ls hH hS hl
  unfold f_L_breachOf_141 at hf
  refine lv_iconst (v := (0 : Int32)) M.x M.b d_L_breachOf_141 rfl ?_
  refine lv_goto (tgt := 146) M.x M.b d_L_breachOf_142 (by decide) ?_
  exact w_L_breachOf_146 M this _ _ _ _ _ hf H locs ls hH hS (lv_sub hl [0, 1, 2, 3] rfl)
def f_L_breachOf_114 (this : Nat) (x4 : Int32) (x5 : Int32) (h : Hp) : Option ((Int32 × Hp)) :=
  (gA h this 2 0).bind fun r35 =>
  (r35).bind fun a37 =>
  (f_B_goodsThere a37 h).bind fun i40 =>
  if x4 = (2 : Int32) then
    f_L_breachOf_141 this x4 x5 i40 h
  else
  if x4 = (4 : Int32) then
    f_L_breachOf_141 this x4 x5 i40 h
  else
  if x4 = (5 : Int32) then
    f_L_breachOf_141 this x4 x5 i40 h
  else
  f_L_breachOf_146 this (-1 : Int32) x4 x5 i40 h
set_option maxRecDepth 100000 in
set_option maxHeartbeats 4000000 in
theorem w_L_breachOf_114 {p : Program} {l : Launch} {e : Env} {s : State} {m : MethodId} {args : Array Value} {below : List Frame} {meth : Method} {c : Code} {N0 : Nat} {D : va_G} {cs : Nat → ClassId} (M : ZC p s m args meth c "YearBaskets$Laws" "breachOf" b_L_breachOf 13 (some .int) N0 D cs) (this : Nat)  {r0 : Int32} {h0 : Hp}  (x4 : Int32) (x5 : Int32) (h : Hp) (hf : f_L_breachOf_114 this x4 x5 h = some (r0, h0)) : ZG p l e (zrm 35 0 0) s m args below meth c N0 D cs (some (.int r0)) h0 h 13 [(0, .ref this), (4, .int x4), (5, .int x5)] 114 [] := by
  intro H locs ls hH hS hl
  unfold f_L_breachOf_114 at hf
  refine lv_aload_n M.x M.b d_L_breachOf_114 rfl (lv_at hl 0 rfl) ?_
  replace hf := z_bind hf; obtain ⟨r35, e36, hf⟩ := hf
  refine z_get (ci := 2) (k := 0) M hH rfl (by decide) zinL q_251 (gA_spec e36) d_L_breachOf_115 ?_
  rcases r35 with _ | a37
  · exact absurd hf z_nb0
  replace hf := z_sb hf
  replace hf := z_bind hf; obtain ⟨i40, e39, hf⟩ := hf
  refine zk_V (ci := 0) (st1 := [.int i40]) M hH hS (c_B_goodsThere e39) rfl (o_B_goodsThere e39) w_B_goodsThere q_292 [] rfl ⟨Nat.le_of_ble_eq_true rfl, Nat.le_of_ble_eq_true rfl⟩ hl.1 rfl rfl (Nat.le_of_ble_eq_true rfl) d_L_breachOf_118 (fun H locs hH hS => ?_)
  refine lv_istore (lv' := [(6, .int i40), (0, .ref this), (4, .int x4), (5, .int x5)]) M.x M.b d_L_breachOf_121 hl (by decide) rfl (fun ls hl => ?_)
  refine lv_iload M.x M.b d_L_breachOf_123 (lv_at hl 2 rfl) ?_
  refine lv_iconst (v := (2 : Int32)) M.x M.b d_L_breachOf_125 rfl ?_
  refine lv_icmp_eq (tgt := 141) M.x M.b d_L_breachOf_126 (by decide) (fun c43 => ?_) (fun c43 => ?_)
  · replace hf := z_t c43 hf
    exact w_L_breachOf_141 M this _ _ _ _ hf H locs ls hH hS (lv_sub hl [1, 2, 3, 0] rfl)
  · replace hf := z_f c43 hf
    refine lv_iload M.x M.b d_L_breachOf_129 (lv_at hl 2 rfl) ?_
    refine lv_iconst (v := (4 : Int32)) M.x M.b d_L_breachOf_131 rfl ?_
    refine lv_icmp_eq (tgt := 141) M.x M.b d_L_breachOf_132 (by decide) (fun c42 => ?_) (fun c42 => ?_)
    · replace hf := z_t c42 hf
      exact w_L_breachOf_141 M this _ _ _ _ hf H locs ls hH hS (lv_sub hl [1, 2, 3, 0] rfl)
    · replace hf := z_f c42 hf
      refine lv_iload M.x M.b d_L_breachOf_135 (lv_at hl 2 rfl) ?_
      refine lv_iconst (v := (5 : Int32)) M.x M.b d_L_breachOf_137 rfl ?_
      refine lv_icmp_ne (tgt := 145) M.x M.b d_L_breachOf_138 (by decide) (fun c41 => ?_) (fun c41 => ?_)
      · replace hf := z_f c41 hf
        refine lv_iconst (v := (-1 : Int32)) M.x M.b d_L_breachOf_145 rfl ?_
        exact w_L_breachOf_146 M this _ _ _ _ _ hf H locs ls hH hS (lv_sub hl [1, 2, 3, 0] rfl)
      · replace hf := z_t c41 hf
        exact w_L_breachOf_141 M this _ _ _ _ hf H locs ls hH hS (lv_sub hl [1, 2, 3, 0] rfl)
def f_L_breachOf (this : Nat) (x1 : Int32) (x2 : Nat) (x3 : Int32) (x4 : Int32) (h : Hp) : Option ((Int32 × Hp)) :=
  if isO h this 2 = true then
  if ((((x1 * (4 : Int32)) + x3) * (7 : Int32)) + x4) < 0 then
    some ((1 : Int32), h)
  else
  (gA h this 2 6).bind fun r44 =>
  (r44).bind fun a46 =>
  (aN h a46).bind fun i49 =>
  if i49 ≤ ((((x1 * (4 : Int32)) + x3) * (7 : Int32)) + x4) then
    some ((1 : Int32), h)
  else
  (gA h this 2 0).bind fun r50 =>
  zm r50 (
    some ((1 : Int32), h)
  ) fun a52 =>
  (gA h this 2 1).bind fun r53 =>
  zm r53 (
    some ((1 : Int32), h)
  ) fun a55 =>
  (gA h this 2 2).bind fun r56 =>
  zm r56 (
    some ((1 : Int32), h)
  ) fun a58 =>
  (gA h this 2 6).bind fun r59 =>
  (r59).bind fun a61 =>
  (aI h 0 a61 ((((x1 * (4 : Int32)) + x3) * (7 : Int32)) + x4)).bind fun i64 =>
  if i64 = 0 then
    (pV h this 2 10 (.ref x2)).bind fun h65 =>
    (pV h65 this 2 11 (.int x3)).bind fun h67 =>
    (gI h67 this 2 12).bind fun i69 =>
    (gI h67 this 2 11).bind fun i71 =>
    if i69 = ((x1 * (4 : Int32)) + i71) then
      f_L_breachOf_114 this x4 ((((x1 * (4 : Int32)) + x3) * (7 : Int32)) + x4) h67
    else
    (f_L_tellAllYears this h67).bind fun h74 =>
    (gI h74 this 2 11).bind fun i75 =>
    (pV h74 this 2 12 (.int ((x1 * (4 : Int32)) + i75))).bind fun h77 =>
    f_L_breachOf_114 this x4 ((((x1 * (4 : Int32)) + x3) * (7 : Int32)) + x4) h77
  else
  (gA h this 2 6).bind fun r80 =>
  (r80).bind fun a82 =>
  (aI h 0 a82 ((((x1 * (4 : Int32)) + x3) * (7 : Int32)) + x4)).bind fun i85 =>
  some (i85, h)
  else none
theorem o_L_breachOf {this : Nat} {x1 : Int32} {x2 : Nat} {x3 : Int32} {x4 : Int32} {h : Hp} {r0 : Int32} {h0 : Hp} (hf : f_L_breachOf this x1 x2 x3 x4 h = some (r0, h0)) : isO h this 2 = true := by
  unfold f_L_breachOf at hf
  exact (z_gd hf).1
set_option maxRecDepth 100000 in
set_option maxHeartbeats 4000000 in
theorem c_L_breachOf {l : Launch} {N0 : Nat} {D : va_G} {cs : Nat → ClassId} {this : Nat} {x1 : Int32} {x2 : Nat} {x3 : Int32} {x4 : Int32} {h : Hp} {r0 : Int32} {h0 : Hp} (hf : f_L_breachOf this x1 x2 x3 x4 h = some (r0, h0)) : Fn l N0 D cs y_L_breachOf b_L_breachOf 13 (some .int) 35 0 0 [.ref this, .int x1, .ref x2, .int x3, .int x4] h (some (.int r0)) h0 := by
  refine z_start (by decide) (Nat.le_of_ble_eq_true rfl) ?_
  intro p e s m args below meth c M hH hS ls hl
  unfold f_L_breachOf at hf
  obtain ⟨hO, hf⟩ := z_gd hf
  have hl : lv_has ls 13 [(0, .ref this), (1, .int x1), (2, .ref x2), (3, .int x3), (4, .int x4)] := hl
  obtain ⟨H, hHe⟩ : ∃ H, H = s.heap := ⟨_, rfl⟩
  obtain ⟨locs, hLe⟩ : ∃ locs : List Loc, locs = [] := ⟨_, rfl⟩
  have hS : va_S (zA N0) s.heap H locs := by rw [hHe, hLe]; exact hS
  have hH : HH N0 D cs h H := by rw [hHe]; exact hH
  suffices hg : W p l e (zrm 35 0 0) s m args below meth c H locs 0 0 (MQ below (zQ N0 D cs (some (.int r0)) h0) args s 0 0 (zA N0)) (F0 m 0 ls []) by rw [hHe, hLe] at hg; exact hg
  clear hHe hLe
  refine lv_iload_n M.x M.b d_L_breachOf_0 rfl (lv_at hl 1 rfl) ?_
  refine lv_iconst (v := (4 : Int32)) M.x M.b d_L_breachOf_1 rfl ?_
  refine lv_imul M.x M.b d_L_breachOf_2 ?_
  refine lv_iload_n M.x M.b d_L_breachOf_3 rfl (lv_at hl 3 rfl) ?_
  refine lv_iadd M.x M.b d_L_breachOf_4 ?_
  refine lv_bipush (v := (7 : Int32)) M.x M.b d_L_breachOf_5 rfl ?_
  refine lv_imul M.x M.b d_L_breachOf_7 ?_
  refine lv_iload M.x M.b d_L_breachOf_8 (lv_at hl 4 rfl) ?_
  refine lv_iadd M.x M.b d_L_breachOf_10 ?_
  refine lv_istore (lv' := [(5, .int ((((x1 * (4 : Int32)) + x3) * (7 : Int32)) + x4)), (0, .ref this), (1, .int x1), (2, .ref x2), (3, .int x3), (4, .int x4)]) M.x M.b d_L_breachOf_11 hl (by decide) rfl (fun ls hl => ?_)
  refine lv_iload M.x M.b d_L_breachOf_13 (lv_at hl 0 rfl) ?_
  refine lv_if_lt (tgt := 53) M.x M.b d_L_breachOf_15 (by decide) (fun c88 => ?_) (fun c88 => ?_)
  · replace hf := z_t c88 hf
    refine lv_iconst (v := (1 : Int32)) M.x M.b d_L_breachOf_53 rfl ?_
    obtain ⟨rfl, rfl⟩ := z_r2 hf
    exact z_iret M hH hS d_L_breachOf_54
  · replace hf := z_f c88 hf
    refine lv_iload M.x M.b d_L_breachOf_18 (lv_at hl 0 rfl) ?_
    refine lv_aload_n M.x M.b d_L_breachOf_20 rfl (lv_at hl 1 rfl) ?_
    replace hf := z_bind hf; obtain ⟨r44, e45, hf⟩ := hf
    refine z_get (ci := 2) (k := 6) M hH rfl (by decide) zinL q_235 (gA_spec e45) d_L_breachOf_21 ?_
    rcases r44 with _ | a46
    · exact absurd hf z_nb0
    replace hf := z_sb hf
    replace hf := z_bind hf; obtain ⟨i49, e48, hf⟩ := hf
    refine z_alen M hH e48 d_L_breachOf_24 ?_
    refine lv_icmp_ge (tgt := 53) M.x M.b d_L_breachOf_25 (by decide) (fun c87 => ?_) (fun c87 => ?_)
    · replace hf := z_t c87 hf
      refine lv_iconst (v := (1 : Int32)) M.x M.b d_L_breachOf_53 rfl ?_
      obtain ⟨rfl, rfl⟩ := z_r2 hf
      exact z_iret M hH hS d_L_breachOf_54
    · replace hf := z_f c87 hf
      refine lv_aload_n M.x M.b d_L_breachOf_28 rfl (lv_at hl 3 rfl) ?_
      refine lv_ifnull M.x M.b d_L_breachOf_29 ?_
      refine lv_aload_n M.x M.b d_L_breachOf_32 rfl (lv_at hl 1 rfl) ?_
      replace hf := z_bind hf; obtain ⟨r50, e51, hf⟩ := hf
      refine z_get (ci := 2) (k := 0) M hH rfl (by decide) zinL q_251 (gA_spec e51) d_L_breachOf_33 ?_
      rcases r50 with _ | a52
      · replace hf := zm_n hf
        refine lv_ifnullN (tgt := 53) M.x M.b d_L_breachOf_36 (by decide) ?_
        refine lv_iconst (v := (1 : Int32)) M.x M.b d_L_breachOf_53 rfl ?_
        obtain ⟨rfl, rfl⟩ := z_r2 hf
        exact z_iret M hH hS d_L_breachOf_54
      · replace hf := zm_s hf
        refine lv_ifnull M.x M.b d_L_breachOf_36 ?_
        refine lv_aload_n M.x M.b d_L_breachOf_39 rfl (lv_at hl 1 rfl) ?_
        replace hf := z_bind hf; obtain ⟨r53, e54, hf⟩ := hf
        refine z_get (ci := 2) (k := 1) M hH rfl (by decide) zinL q_276 (gA_spec e54) d_L_breachOf_40 ?_
        rcases r53 with _ | a55
        · replace hf := zm_n hf
          refine lv_ifnullN (tgt := 53) M.x M.b d_L_breachOf_43 (by decide) ?_
          refine lv_iconst (v := (1 : Int32)) M.x M.b d_L_breachOf_53 rfl ?_
          obtain ⟨rfl, rfl⟩ := z_r2 hf
          exact z_iret M hH hS d_L_breachOf_54
        · replace hf := zm_s hf
          refine lv_ifnull M.x M.b d_L_breachOf_43 ?_
          refine lv_aload_n M.x M.b d_L_breachOf_46 rfl (lv_at hl 1 rfl) ?_
          replace hf := z_bind hf; obtain ⟨r56, e57, hf⟩ := hf
          refine z_get (ci := 2) (k := 2) M hH rfl (by decide) zinL q_253 (gA_spec e57) d_L_breachOf_47 ?_
          rcases r56 with _ | a58
          · replace hf := zm_n hf
            refine lv_ifnonnullN M.x M.b d_L_breachOf_50 ?_
            refine lv_iconst (v := (1 : Int32)) M.x M.b d_L_breachOf_53 rfl ?_
            obtain ⟨rfl, rfl⟩ := z_r2 hf
            exact z_iret M hH hS d_L_breachOf_54
          · replace hf := zm_s hf
            refine lv_ifnonnull (tgt := 55) M.x M.b d_L_breachOf_50 (by decide) ?_
            refine lv_aload_n M.x M.b d_L_breachOf_55 rfl (lv_at hl 1 rfl) ?_
            replace hf := z_bind hf; obtain ⟨r59, e60, hf⟩ := hf
            refine z_get (ci := 2) (k := 6) M hH rfl (by decide) zinL q_235 (gA_spec e60) d_L_breachOf_56 ?_
            refine lv_iload M.x M.b d_L_breachOf_59 (lv_at hl 0 rfl) ?_
            rcases r59 with _ | a61
            · exact absurd hf z_nb0
            replace hf := z_sb hf
            replace hf := z_bind hf; obtain ⟨i64, e63, hf⟩ := hf
            refine z_iald M hH e63 d_L_breachOf_61 ?_
            refine lv_if_eq (tgt := 73) M.x M.b d_L_breachOf_62 (by decide) (fun c86 => ?_) (fun c86 => ?_)
            · replace hf := z_t c86 hf
              refine lv_aload_n M.x M.b d_L_breachOf_73 rfl (lv_at hl 1 rfl) ?_
              refine lv_aload_n M.x M.b d_L_breachOf_74 rfl (lv_at hl 3 rfl) ?_
              replace hf := z_bind hf; obtain ⟨h65, e66, hf⟩ := hf
              refine z_put (ci := 2) (k := 10) M hH hS rfl (by decide) zinL zYL zYL_ok zNL_ok rfl q_252 rfl rfl rfl e66 d_L_breachOf_75 (fun H locs hH hS => ?_)
              refine lv_aload_n M.x M.b d_L_breachOf_78 rfl (lv_at hl 1 rfl) ?_
              refine lv_iload_n M.x M.b d_L_breachOf_79 rfl (lv_at hl 4 rfl) ?_
              replace hf := z_bind hf; obtain ⟨h67, e68, hf⟩ := hf
              refine z_put (ci := 2) (k := 11) M hH hS rfl (by decide) zinL zYL zYL_ok zNL_ok rfl q_250 rfl rfl rfl e68 d_L_breachOf_80 (fun H locs hH hS => ?_)
              refine lv_aload_n M.x M.b d_L_breachOf_83 rfl (lv_at hl 1 rfl) ?_
              replace hf := z_bind hf; obtain ⟨i69, e70, hf⟩ := hf
              refine z_get (ci := 2) (k := 12) M hH rfl (by decide) zinL q_234 (gI_spec e70) d_L_breachOf_84 ?_
              refine lv_iload_n M.x M.b d_L_breachOf_87 rfl (lv_at hl 2 rfl) ?_
              refine lv_iconst (v := (4 : Int32)) M.x M.b d_L_breachOf_88 rfl ?_
              refine lv_imul M.x M.b d_L_breachOf_89 ?_
              refine lv_aload_n M.x M.b d_L_breachOf_90 rfl (lv_at hl 1 rfl) ?_
              replace hf := z_bind hf; obtain ⟨i71, e72, hf⟩ := hf
              refine z_get (ci := 2) (k := 11) M hH rfl (by decide) zinL q_250 (gI_spec e72) d_L_breachOf_91 ?_
              refine lv_iadd M.x M.b d_L_breachOf_94 ?_
              refine lv_icmp_eq (tgt := 114) M.x M.b d_L_breachOf_95 (by decide) (fun c79 => ?_) (fun c79 => ?_)
              · replace hf := z_t c79 hf
                exact w_L_breachOf_114 M this _ _ _ hf H locs ls hH hS (lv_sub hl [1, 5, 0] rfl)
              · replace hf := z_f c79 hf
                refine lv_aload_n M.x M.b d_L_breachOf_98 rfl (lv_at hl 1 rfl) ?_
                replace hf := z_bind hf; obtain ⟨h74, e73, hf⟩ := hf
                refine zk_V (ci := 2) (st1 := []) M hH hS (c_L_tellAllYears e73) rfl (o_L_tellAllYears e73) w_L_tellAllYears q_293 [] rfl ⟨Nat.le_of_ble_eq_true rfl, Nat.le_of_ble_eq_true rfl⟩ hl.1 rfl rfl (Nat.le_of_ble_eq_true rfl) d_L_breachOf_99 (fun H locs hH hS => ?_)
                refine lv_aload_n M.x M.b d_L_breachOf_102 rfl (lv_at hl 1 rfl) ?_
                refine lv_iload_n M.x M.b d_L_breachOf_103 rfl (lv_at hl 2 rfl) ?_
                refine lv_iconst (v := (4 : Int32)) M.x M.b d_L_breachOf_104 rfl ?_
                refine lv_imul M.x M.b d_L_breachOf_105 ?_
                refine lv_aload_n M.x M.b d_L_breachOf_106 rfl (lv_at hl 1 rfl) ?_
                replace hf := z_bind hf; obtain ⟨i75, e76, hf⟩ := hf
                refine z_get (ci := 2) (k := 11) M hH rfl (by decide) zinL q_250 (gI_spec e76) d_L_breachOf_107 ?_
                refine lv_iadd M.x M.b d_L_breachOf_110 ?_
                replace hf := z_bind hf; obtain ⟨h77, e78, hf⟩ := hf
                refine z_put (ci := 2) (k := 12) M hH hS rfl (by decide) zinL zYL zYL_ok zNL_ok rfl q_234 rfl rfl rfl e78 d_L_breachOf_111 (fun H locs hH hS => ?_)
                exact w_L_breachOf_114 M this _ _ _ hf H locs ls hH hS (lv_sub hl [1, 5, 0] rfl)
            · replace hf := z_f c86 hf
              refine lv_aload_n M.x M.b d_L_breachOf_65 rfl (lv_at hl 1 rfl) ?_
              replace hf := z_bind hf; obtain ⟨r80, e81, hf⟩ := hf
              refine z_get (ci := 2) (k := 6) M hH rfl (by decide) zinL q_235 (gA_spec e81) d_L_breachOf_66 ?_
              refine lv_iload M.x M.b d_L_breachOf_69 (lv_at hl 0 rfl) ?_
              rcases r80 with _ | a82
              · exact absurd hf z_nb0
              replace hf := z_sb hf
              replace hf := z_bind hf; obtain ⟨i85, e84, hf⟩ := hf
              refine z_iald M hH e84 d_L_breachOf_71 ?_
              obtain ⟨rfl, rfl⟩ := z_r2 hf
              exact z_iret M hH hS d_L_breachOf_72
def f_L_setKept (this : Nat) (x1 : Int32) (x2 : Int32) (h : Hp) : Option (Hp) :=
  if isO h this 2 = true then
  if x1 < 0 then
    some h
  else
  (gA h this 2 7).bind fun r1 =>
  (r1).bind fun a3 =>
  (aN h a3).bind fun i6 =>
  if i6 ≤ x1 then
    some h
  else
  (gA h this 2 7).bind fun r7 =>
  (r7).bind fun a9 =>
  (sI h a9 x1 x2).bind fun h12 =>
  some h12
  else none
theorem o_L_setKept {this : Nat} {x1 : Int32} {x2 : Int32} {h : Hp} {h0 : Hp} (hf : f_L_setKept this x1 x2 h = some h0) : isO h this 2 = true := by
  unfold f_L_setKept at hf
  exact (z_gd hf).1
set_option maxRecDepth 100000 in
set_option maxHeartbeats 4000000 in
theorem c_L_setKept {l : Launch} {N0 : Nat} {D : va_G} {cs : Nat → ClassId} {this : Nat} {x1 : Int32} {x2 : Int32} {h : Hp} {h0 : Hp} (hf : f_L_setKept this x1 x2 h = some h0) : Fn l N0 D cs y_L_setKept b_L_setKept 3 (none) 1 0 0 [.ref this, .int x1, .int x2] h none h0 := by
  refine z_start (by decide) (Nat.le_of_ble_eq_true rfl) ?_
  intro p e s m args below meth c M hH hS ls hl
  unfold f_L_setKept at hf
  obtain ⟨hO, hf⟩ := z_gd hf
  have hl : lv_has ls 3 [(0, .ref this), (1, .int x1), (2, .int x2)] := hl
  obtain ⟨H, hHe⟩ : ∃ H, H = s.heap := ⟨_, rfl⟩
  obtain ⟨locs, hLe⟩ : ∃ locs : List Loc, locs = [] := ⟨_, rfl⟩
  have hS : va_S (zA N0) s.heap H locs := by rw [hHe, hLe]; exact hS
  have hH : HH N0 D cs h H := by rw [hHe]; exact hH
  suffices hg : W p l e (zrm 1 0 0) s m args below meth c H locs 0 0 (MQ below (zQ N0 D cs none h0) args s 0 0 (zA N0)) (F0 m 0 ls []) by rw [hHe, hLe] at hg; exact hg
  clear hHe hLe
  refine lv_iload_n M.x M.b d_L_setKept_0 rfl (lv_at hl 1 rfl) ?_
  refine lv_if_lt (tgt := 20) M.x M.b d_L_setKept_1 (by decide) (fun c14 => ?_) (fun c14 => ?_)
  · replace hf := z_t c14 hf
    obtain rfl := z_r1 hf
    exact z_vret M hH hS d_L_setKept_20
  · replace hf := z_f c14 hf
    refine lv_iload_n M.x M.b d_L_setKept_4 rfl (lv_at hl 1 rfl) ?_
    refine lv_aload_n M.x M.b d_L_setKept_5 rfl (lv_at hl 0 rfl) ?_
    replace hf := z_bind hf; obtain ⟨r1, e2, hf⟩ := hf
    refine z_get (ci := 2) (k := 7) M hH rfl (by decide) zinL q_297 (gA_spec e2) d_L_setKept_6 ?_
    rcases r1 with _ | a3
    · exact absurd hf z_nb0
    replace hf := z_sb hf
    replace hf := z_bind hf; obtain ⟨i6, e5, hf⟩ := hf
    refine z_alen M hH e5 d_L_setKept_9 ?_
    refine lv_icmp_ge (tgt := 20) M.x M.b d_L_setKept_10 (by decide) (fun c13 => ?_) (fun c13 => ?_)
    · replace hf := z_t c13 hf
      obtain rfl := z_r1 hf
      exact z_vret M hH hS d_L_setKept_20
    · replace hf := z_f c13 hf
      refine lv_aload_n M.x M.b d_L_setKept_13 rfl (lv_at hl 0 rfl) ?_
      replace hf := z_bind hf; obtain ⟨r7, e8, hf⟩ := hf
      refine z_get (ci := 2) (k := 7) M hH rfl (by decide) zinL q_297 (gA_spec e8) d_L_setKept_14 ?_
      refine lv_iload_n M.x M.b d_L_setKept_17 rfl (lv_at hl 1 rfl) ?_
      refine lv_iload_n M.x M.b d_L_setKept_18 rfl (lv_at hl 2 rfl) ?_
      rcases r7 with _ | a9
      · exact absurd hf z_nb0
      replace hf := z_sb hf
      replace hf := z_bind hf; obtain ⟨h12, e11, hf⟩ := hf
      refine z_iast M hH hS e11 d_L_setKept_19 (fun H locs hH hS => ?_)
      obtain rfl := z_r1 hf
      exact z_vret M hH hS d_L_setKept_20
def t_L_isKeptByOne_2 (this : Nat) (h : Hp) (k2 : Int32 → Int32 → Int32 → Option (Int32)) (x1 : Int32) (x2 : Int32) (x3 : Int32) : Option (Int32) :=
  if x2 ≤ x3 then
    some (0 : Int32)
  else
  (gA h this 2 7).bind fun r1 =>
  (r1).bind fun a3 =>
  (aN h a3).bind fun i6 =>
  if i6 ≤ x3 then
    some (0 : Int32)
  else
  (gA h this 2 7).bind fun r7 =>
  (r7).bind fun a9 =>
  (aI h 0 a9 x3).bind fun i12 =>
  if (x1 &&& (i12 ^^^ (-1 : Int32))) = 0 then
    some (1 : Int32)
  else
  k2 x1 x2 (x3 + (1 : Int32))
set_option maxRecDepth 100000 in
set_option maxHeartbeats 4000000 in
theorem v_L_isKeptByOne_2 {p : Program} {l : Launch} {e : Env} {s : State} {m : MethodId} {args : Array Value} {below : List Frame} {meth : Method} {c : Code} {N0 : Nat} {D : va_G} {cs : Nat → ClassId} (M : ZC p s m args meth c "YearBaskets$Laws" "isKeptByOne" b_L_isKeptByOne 4 (some .boolean) N0 D cs) (this : Nat) (h : Hp) (k2 : Int32 → Int32 → Int32 → Option (Int32)) {r0 : Int32} (hk2 : ∀ (x1 : Int32) (x2 : Int32) (x3 : Int32), k2 x1 x2 x3 = some r0 → ZG p l e (zrm 1 0 0) s m args below meth c N0 D cs (some (.int r0)) h h 4 [(0, .ref this), (1, .int x1), (2, .int x2), (3, .int x3)] 2 []) (x1 : Int32) (x2 : Int32) (x3 : Int32) (hf : t_L_isKeptByOne_2 this h k2 x1 x2 x3 = some r0) : ZG p l e (zrm 1 0 0) s m args below meth c N0 D cs (some (.int r0)) h h 4 [(0, .ref this), (1, .int x1), (2, .int x2), (3, .int x3)] 2 [] := by
  intro H locs ls hH hS hl
  unfold t_L_isKeptByOne_2 at hf
  refine lv_iload_n M.x M.b d_L_isKeptByOne_2 rfl (lv_at hl 3 rfl) ?_
  refine lv_iload_n M.x M.b d_L_isKeptByOne_3 rfl (lv_at hl 2 rfl) ?_
  refine lv_icmp_ge (tgt := 37) M.x M.b d_L_isKeptByOne_4 (by decide) (fun c15 => ?_) (fun c15 => ?_)
  · replace hf := z_t c15 hf
    refine lv_iconst (v := (0 : Int32)) M.x M.b d_L_isKeptByOne_37 rfl ?_
    obtain rfl := z_r1 hf
    exact z_zret M hH hS (by decide) d_L_isKeptByOne_38
  · replace hf := z_f c15 hf
    refine lv_iload_n M.x M.b d_L_isKeptByOne_7 rfl (lv_at hl 3 rfl) ?_
    refine lv_aload_n M.x M.b d_L_isKeptByOne_8 rfl (lv_at hl 0 rfl) ?_
    replace hf := z_bind hf; obtain ⟨r1, e2, hf⟩ := hf
    refine z_get (ci := 2) (k := 7) M hH rfl (by decide) zinL q_297 (gA_spec e2) d_L_isKeptByOne_9 ?_
    rcases r1 with _ | a3
    · exact absurd hf z_nb0
    replace hf := z_sb hf
    replace hf := z_bind hf; obtain ⟨i6, e5, hf⟩ := hf
    refine z_alen M hH e5 d_L_isKeptByOne_12 ?_
    refine lv_icmp_ge (tgt := 37) M.x M.b d_L_isKeptByOne_13 (by decide) (fun c14 => ?_) (fun c14 => ?_)
    · replace hf := z_t c14 hf
      refine lv_iconst (v := (0 : Int32)) M.x M.b d_L_isKeptByOne_37 rfl ?_
      obtain rfl := z_r1 hf
      exact z_zret M hH hS (by decide) d_L_isKeptByOne_38
    · replace hf := z_f c14 hf
      refine lv_iload_n M.x M.b d_L_isKeptByOne_16 rfl (lv_at hl 1 rfl) ?_
      refine lv_aload_n M.x M.b d_L_isKeptByOne_17 rfl (lv_at hl 0 rfl) ?_
      replace hf := z_bind hf; obtain ⟨r7, e8, hf⟩ := hf
      refine z_get (ci := 2) (k := 7) M hH rfl (by decide) zinL q_297 (gA_spec e8) d_L_isKeptByOne_18 ?_
      refine lv_iload_n M.x M.b d_L_isKeptByOne_21 rfl (lv_at hl 3 rfl) ?_
      rcases r7 with _ | a9
      · exact absurd hf z_nb0
      replace hf := z_sb hf
      replace hf := z_bind hf; obtain ⟨i12, e11, hf⟩ := hf
      refine z_iald M hH e11 d_L_isKeptByOne_22 ?_
      refine lv_iconst (v := (-1 : Int32)) M.x M.b d_L_isKeptByOne_23 rfl ?_
      refine lv_ixor M.x M.b d_L_isKeptByOne_24 ?_
      refine lv_iand M.x M.b d_L_isKeptByOne_25 ?_
      refine lv_if_ne (tgt := 31) M.x M.b d_L_isKeptByOne_26 (by decide) (fun c13 => ?_) (fun c13 => ?_)
      · replace hf := z_f c13 hf
        refine lv_iinc (v := (x3 + (1 : Int32))) (lv' := [(3, .int (x3 + (1 : Int32))), (0, .ref this), (1, .int x1), (2, .int x2)]) M.x M.b d_L_isKeptByOne_31 hl (k := 3) rfl rfl (by decide) rfl (fun ls hl => ?_)
        refine lv_goto (tgt := 2) M.x M.b d_L_isKeptByOne_34 (by decide) ?_
        exact hk2 _ _ _ hf H locs ls hH hS (lv_sub hl [1, 2, 3, 0] rfl)
      · replace hf := z_t c13 hf
        refine lv_iconst (v := (1 : Int32)) M.x M.b d_L_isKeptByOne_29 rfl ?_
        obtain rfl := z_r1 hf
        exact z_zret M hH hS (by decide) d_L_isKeptByOne_30
def f_L_isKeptByOne_2 (this : Nat) (h : Hp) : Nat → Int32 → Int32 → Int32 → Option (Int32)
  | 0, _, _, _ => none
  | n + 1, x1, x2, x3 => t_L_isKeptByOne_2 this h (f_L_isKeptByOne_2 this h n) x1 x2 x3
theorem w_L_isKeptByOne_2 {p : Program} {l : Launch} {e : Env} {s : State} {m : MethodId} {args : Array Value} {below : List Frame} {meth : Method} {c : Code} {N0 : Nat} {D : va_G} {cs : Nat → ClassId} (M : ZC p s m args meth c "YearBaskets$Laws" "isKeptByOne" b_L_isKeptByOne 4 (some .boolean) N0 D cs) (this : Nat) (h : Hp)  {r0 : Int32}  : ∀ (n : Nat) (x1 : Int32) (x2 : Int32) (x3 : Int32), f_L_isKeptByOne_2 this h n x1 x2 x3 = some r0 → ZG p l e (zrm 1 0 0) s m args below meth c N0 D cs (some (.int r0)) h h 4 [(0, .ref this), (1, .int x1), (2, .int x2), (3, .int x3)] 2 [] := by
  intro n
  induction n with
  | zero => intro x1 x2 x3 hf; exact absurd (show none = some _ from hf) (fun q => by cases q)
  | succ n ih => intro x1 x2 x3 hf; exact v_L_isKeptByOne_2 M this h (f_L_isKeptByOne_2 this h n)  ih _ _ _ hf
def f_L_isKeptByOne (this : Nat) (h : Hp) (x1 : Int32) (x2 : Int32) : Option (Int32) :=
  if isO h this 2 = true then
  f_L_isKeptByOne_2 this h FU x1 x2 (0 : Int32)
  else none
theorem o_L_isKeptByOne {this : Nat} {h : Hp} {x1 : Int32} {x2 : Int32} {r0 : Int32} (hf : f_L_isKeptByOne this h x1 x2 = some r0) : isO h this 2 = true := by
  unfold f_L_isKeptByOne at hf
  exact (z_gd hf).1
set_option maxRecDepth 100000 in
set_option maxHeartbeats 4000000 in
theorem c_L_isKeptByOne {l : Launch} {N0 : Nat} {D : va_G} {cs : Nat → ClassId} {this : Nat} {h : Hp} {x1 : Int32} {x2 : Int32} {r0 : Int32} (hf : f_L_isKeptByOne this h x1 x2 = some r0) : Fn l N0 D cs y_L_isKeptByOne b_L_isKeptByOne 4 (some .boolean) 1 0 0 [.ref this, .int x1, .int x2] h (some (.int r0)) h := by
  refine z_start (by decide) (Nat.le_of_ble_eq_true rfl) ?_
  intro p e s m args below meth c M hH hS ls hl
  unfold f_L_isKeptByOne at hf
  obtain ⟨hO, hf⟩ := z_gd hf
  have hl : lv_has ls 4 [(0, .ref this), (1, .int x1), (2, .int x2)] := hl
  obtain ⟨H, hHe⟩ : ∃ H, H = s.heap := ⟨_, rfl⟩
  obtain ⟨locs, hLe⟩ : ∃ locs : List Loc, locs = [] := ⟨_, rfl⟩
  have hS : va_S (zA N0) s.heap H locs := by rw [hHe, hLe]; exact hS
  have hH : HH N0 D cs h H := by rw [hHe]; exact hH
  suffices hg : W p l e (zrm 1 0 0) s m args below meth c H locs 0 0 (MQ below (zQ N0 D cs (some (.int r0)) h) args s 0 0 (zA N0)) (F0 m 0 ls []) by rw [hHe, hLe] at hg; exact hg
  clear hHe hLe
  refine lv_iconst (v := (0 : Int32)) M.x M.b d_L_isKeptByOne_0 rfl ?_
  refine lv_istore_n (lv' := [(3, .int (0 : Int32)), (0, .ref this), (1, .int x1), (2, .int x2)]) M.x M.b d_L_isKeptByOne_1 rfl hl (by decide) rfl (fun ls hl => ?_)
  exact w_L_isKeptByOne_2 M this h FU _ _ _ hf H locs ls hH hS (lv_sub hl [1, 2, 3, 0] rfl)
def f_L_leastKeptByNone_36 (this : Nat) (h : Hp) (k2 : Int32 → Int32 → Option (Int32)) (k10 : Int32 → Int32 → Int32 → Option (Int32)) (x1 : Int32) (x2 : Int32) (x3 : Int32) : Option (Int32) :=
  k10 x1 x2 (x3 + (1 : Int32))
set_option maxRecDepth 100000 in
set_option maxHeartbeats 4000000 in
theorem w_L_leastKeptByNone_36 {p : Program} {l : Launch} {e : Env} {s : State} {m : MethodId} {args : Array Value} {below : List Frame} {meth : Method} {c : Code} {N0 : Nat} {D : va_G} {cs : Nat → ClassId} (M : ZC p s m args meth c "YearBaskets$Laws" "leastKeptByNone" b_L_leastKeptByNone 4 (some .int) N0 D cs) (this : Nat) (h : Hp) (k2 : Int32 → Int32 → Option (Int32)) (k10 : Int32 → Int32 → Int32 → Option (Int32)) {r0 : Int32} (hk2 : ∀ (x1 : Int32) (x2 : Int32), k2 x1 x2 = some r0 → ZG p l e (zrm 2 0 0) s m args below meth c N0 D cs (some (.int r0)) h h 4 [(0, .ref this), (1, .int x1), (2, .int x2)] 2 []) (hk10 : ∀ (x1 : Int32) (x2 : Int32) (x3 : Int32), k10 x1 x2 x3 = some r0 → ZG p l e (zrm 2 0 0) s m args below meth c N0 D cs (some (.int r0)) h h 4 [(0, .ref this), (1, .int x1), (2, .int x2), (3, .int x3)] 10 []) (x1 : Int32) (x2 : Int32) (x3 : Int32) (hf : f_L_leastKeptByNone_36 this h k2 k10 x1 x2 x3 = some r0) : ZG p l e (zrm 2 0 0) s m args below meth c N0 D cs (some (.int r0)) h h 4 [(0, .ref this), (1, .int x1), (2, .int x2), (3, .int x3)] 36 [] := by
  intro H locs ls hH hS hl
  unfold f_L_leastKeptByNone_36 at hf
  refine lv_iinc (v := (x3 + (1 : Int32))) (lv' := [(3, .int (x3 + (1 : Int32))), (0, .ref this), (1, .int x1), (2, .int x2)]) M.x M.b d_L_leastKeptByNone_36 hl (k := 3) rfl rfl (by decide) rfl (fun ls hl => ?_)
  refine lv_goto (tgt := 10) M.x M.b d_L_leastKeptByNone_39 (by decide) ?_
  exact hk10 _ _ _ hf H locs ls hH hS (lv_sub hl [1, 2, 3, 0] rfl)
def t_L_leastKeptByNone_10 (this : Nat) (h : Hp) (k2 : Int32 → Int32 → Option (Int32)) (k10 : Int32 → Int32 → Int32 → Option (Int32)) (x1 : Int32) (x2 : Int32) (x3 : Int32) : Option (Int32) :=
  if (128 : Int32) ≤ x3 then
    k2 x1 (x2 + (1 : Int32))
  else
  (f_JI_bitCount x3).bind fun i2 =>
  if i2 = x2 then
    (f_L_isKeptByOne this h x3 x1).bind fun i4 =>
    if i4 = 0 then
      some x3
    else
    f_L_leastKeptByNone_36 this h k2 k10 x1 x2 x3
  else
  f_L_leastKeptByNone_36 this h k2 k10 x1 x2 x3
set_option maxRecDepth 100000 in
set_option maxHeartbeats 4000000 in
theorem v_L_leastKeptByNone_10 {p : Program} {l : Launch} {e : Env} {s : State} {m : MethodId} {args : Array Value} {below : List Frame} {meth : Method} {c : Code} {N0 : Nat} {D : va_G} {cs : Nat → ClassId} (M : ZC p s m args meth c "YearBaskets$Laws" "leastKeptByNone" b_L_leastKeptByNone 4 (some .int) N0 D cs) (this : Nat) (h : Hp) (k2 : Int32 → Int32 → Option (Int32)) (k10 : Int32 → Int32 → Int32 → Option (Int32)) {r0 : Int32} (hk2 : ∀ (x1 : Int32) (x2 : Int32), k2 x1 x2 = some r0 → ZG p l e (zrm 2 0 0) s m args below meth c N0 D cs (some (.int r0)) h h 4 [(0, .ref this), (1, .int x1), (2, .int x2)] 2 []) (hk10 : ∀ (x1 : Int32) (x2 : Int32) (x3 : Int32), k10 x1 x2 x3 = some r0 → ZG p l e (zrm 2 0 0) s m args below meth c N0 D cs (some (.int r0)) h h 4 [(0, .ref this), (1, .int x1), (2, .int x2), (3, .int x3)] 10 []) (x1 : Int32) (x2 : Int32) (x3 : Int32) (hf : t_L_leastKeptByNone_10 this h k2 k10 x1 x2 x3 = some r0) : ZG p l e (zrm 2 0 0) s m args below meth c N0 D cs (some (.int r0)) h h 4 [(0, .ref this), (1, .int x1), (2, .int x2), (3, .int x3)] 10 [] := by
  intro H locs ls hH hS hl
  unfold t_L_leastKeptByNone_10 at hf
  refine lv_iload_n M.x M.b d_L_leastKeptByNone_10 rfl (lv_at hl 3 rfl) ?_
  refine lv_sipush (v := (128 : Int32)) M.x M.b d_L_leastKeptByNone_11 rfl ?_
  refine lv_icmp_ge (tgt := 42) M.x M.b d_L_leastKeptByNone_14 (by decide) (fun c7 => ?_) (fun c7 => ?_)
  · replace hf := z_t c7 hf
    refine lv_iinc (v := (x2 + (1 : Int32))) (lv' := [(2, .int (x2 + (1 : Int32))), (0, .ref this), (1, .int x1), (3, .int x3)]) M.x M.b d_L_leastKeptByNone_42 hl (k := 2) rfl rfl (by decide) rfl (fun ls hl => ?_)
    refine lv_goto (tgt := 2) M.x M.b d_L_leastKeptByNone_45 (by decide) ?_
    exact hk2 _ _ hf H locs ls hH hS (lv_sub hl [1, 2, 0] rfl)
  · replace hf := z_f c7 hf
    refine lv_iload_n M.x M.b d_L_leastKeptByNone_17 rfl (lv_at hl 3 rfl) ?_
    replace hf := z_bind hf; obtain ⟨i2, e1, hf⟩ := hf
    refine zk_S (st1 := [.int i2]) M hH hS (c_JI_bitCount e1) w_JI_bitCount q_305 [] rfl ⟨Nat.le_of_ble_eq_true rfl, Nat.le_of_ble_eq_true rfl⟩ hl.1 rfl rfl (Nat.le_of_ble_eq_true rfl) d_L_leastKeptByNone_18 (fun H locs hH hS => ?_)
    refine lv_iload_n M.x M.b d_L_leastKeptByNone_21 rfl (lv_at hl 2 rfl) ?_
    refine lv_icmp_ne (tgt := 36) M.x M.b d_L_leastKeptByNone_22 (by decide) (fun c6 => ?_) (fun c6 => ?_)
    · replace hf := z_f c6 hf
      exact w_L_leastKeptByNone_36 M this h k2 k10 hk2 hk10 _ _ _ hf H locs ls hH hS (lv_sub hl [0, 1, 2, 3] rfl)
    · replace hf := z_t c6 hf
      refine lv_aload_n M.x M.b d_L_leastKeptByNone_25 rfl (lv_at hl 0 rfl) ?_
      refine lv_iload_n M.x M.b d_L_leastKeptByNone_26 rfl (lv_at hl 3 rfl) ?_
      refine lv_iload_n M.x M.b d_L_leastKeptByNone_27 rfl (lv_at hl 1 rfl) ?_
      replace hf := z_bind hf; obtain ⟨i4, e3, hf⟩ := hf
      refine zk_V (ci := 2) (st1 := [.int i4]) M hH hS (c_L_isKeptByOne e3) rfl (o_L_isKeptByOne e3) w_L_isKeptByOne q_304 [] rfl ⟨Nat.le_of_ble_eq_true rfl, Nat.le_of_ble_eq_true rfl⟩ hl.1 rfl rfl (Nat.le_of_ble_eq_true rfl) d_L_leastKeptByNone_28 (fun H locs hH hS => ?_)
      refine lv_if_ne (tgt := 36) M.x M.b d_L_leastKeptByNone_31 (by decide) (fun c5 => ?_) (fun c5 => ?_)
      · replace hf := z_f c5 hf
        exact w_L_leastKeptByNone_36 M this h k2 k10 hk2 hk10 _ _ _ hf H locs ls hH hS (lv_sub hl [0, 1, 2, 3] rfl)
      · replace hf := z_t c5 hf
        refine lv_iload_n M.x M.b d_L_leastKeptByNone_34 rfl (lv_at hl 3 rfl) ?_
        obtain rfl := z_r1 hf
        exact z_iret M hH hS d_L_leastKeptByNone_35
def f_L_leastKeptByNone_10 (this : Nat) (h : Hp) (k2 : Int32 → Int32 → Option (Int32)) : Nat → Int32 → Int32 → Int32 → Option (Int32)
  | 0, _, _, _ => none
  | n + 1, x1, x2, x3 => t_L_leastKeptByNone_10 this h k2 (f_L_leastKeptByNone_10 this h k2 n) x1 x2 x3
theorem w_L_leastKeptByNone_10 {p : Program} {l : Launch} {e : Env} {s : State} {m : MethodId} {args : Array Value} {below : List Frame} {meth : Method} {c : Code} {N0 : Nat} {D : va_G} {cs : Nat → ClassId} (M : ZC p s m args meth c "YearBaskets$Laws" "leastKeptByNone" b_L_leastKeptByNone 4 (some .int) N0 D cs) (this : Nat) (h : Hp) (k2 : Int32 → Int32 → Option (Int32)) {r0 : Int32} (hk2 : ∀ (x1 : Int32) (x2 : Int32), k2 x1 x2 = some r0 → ZG p l e (zrm 2 0 0) s m args below meth c N0 D cs (some (.int r0)) h h 4 [(0, .ref this), (1, .int x1), (2, .int x2)] 2 []) : ∀ (n : Nat) (x1 : Int32) (x2 : Int32) (x3 : Int32), f_L_leastKeptByNone_10 this h k2 n x1 x2 x3 = some r0 → ZG p l e (zrm 2 0 0) s m args below meth c N0 D cs (some (.int r0)) h h 4 [(0, .ref this), (1, .int x1), (2, .int x2), (3, .int x3)] 10 [] := by
  intro n
  induction n with
  | zero => intro x1 x2 x3 hf; exact absurd (show none = some _ from hf) (fun q => by cases q)
  | succ n ih => intro x1 x2 x3 hf; exact v_L_leastKeptByNone_10 M this h k2 (f_L_leastKeptByNone_10 this h k2 n) hk2 ih _ _ _ hf
def t_L_leastKeptByNone_2 (this : Nat) (h : Hp) (k2 : Int32 → Int32 → Option (Int32)) (x1 : Int32) (x2 : Int32) : Option (Int32) :=
  if (7 : Int32) < x2 then
    some (-1 : Int32)
  else
  f_L_leastKeptByNone_10 this h k2 FU x1 x2 (0 : Int32)
set_option maxRecDepth 100000 in
set_option maxHeartbeats 4000000 in
theorem v_L_leastKeptByNone_2 {p : Program} {l : Launch} {e : Env} {s : State} {m : MethodId} {args : Array Value} {below : List Frame} {meth : Method} {c : Code} {N0 : Nat} {D : va_G} {cs : Nat → ClassId} (M : ZC p s m args meth c "YearBaskets$Laws" "leastKeptByNone" b_L_leastKeptByNone 4 (some .int) N0 D cs) (this : Nat) (h : Hp) (k2 : Int32 → Int32 → Option (Int32)) {r0 : Int32} (hk2 : ∀ (x1 : Int32) (x2 : Int32), k2 x1 x2 = some r0 → ZG p l e (zrm 2 0 0) s m args below meth c N0 D cs (some (.int r0)) h h 4 [(0, .ref this), (1, .int x1), (2, .int x2)] 2 []) (x1 : Int32) (x2 : Int32) (hf : t_L_leastKeptByNone_2 this h k2 x1 x2 = some r0) : ZG p l e (zrm 2 0 0) s m args below meth c N0 D cs (some (.int r0)) h h 4 [(0, .ref this), (1, .int x1), (2, .int x2)] 2 [] := by
  intro H locs ls hH hS hl
  unfold t_L_leastKeptByNone_2 at hf
  refine lv_iload_n M.x M.b d_L_leastKeptByNone_2 rfl (lv_at hl 2 rfl) ?_
  refine lv_bipush (v := (7 : Int32)) M.x M.b d_L_leastKeptByNone_3 rfl ?_
  refine lv_icmp_gt (tgt := 48) M.x M.b d_L_leastKeptByNone_5 (by decide) (fun c8 => ?_) (fun c8 => ?_)
  · replace hf := z_t c8 hf
    refine lv_iconst (v := (-1 : Int32)) M.x M.b d_L_leastKeptByNone_48 rfl ?_
    obtain rfl := z_r1 hf
    exact z_iret M hH hS d_L_leastKeptByNone_49
  · replace hf := z_f c8 hf
    refine lv_iconst (v := (0 : Int32)) M.x M.b d_L_leastKeptByNone_8 rfl ?_
    refine lv_istore_n (lv' := [(3, .int (0 : Int32)), (0, .ref this), (1, .int x1), (2, .int x2)]) M.x M.b d_L_leastKeptByNone_9 rfl hl (by decide) rfl (fun ls hl => ?_)
    exact w_L_leastKeptByNone_10 M this h k2 hk2 FU _ _ _ hf H locs ls hH hS (lv_sub hl [1, 2, 3, 0] rfl)
def f_L_leastKeptByNone_2 (this : Nat) (h : Hp) : Nat → Int32 → Int32 → Option (Int32)
  | 0, _, _ => none
  | n + 1, x1, x2 => t_L_leastKeptByNone_2 this h (f_L_leastKeptByNone_2 this h n) x1 x2
theorem w_L_leastKeptByNone_2 {p : Program} {l : Launch} {e : Env} {s : State} {m : MethodId} {args : Array Value} {below : List Frame} {meth : Method} {c : Code} {N0 : Nat} {D : va_G} {cs : Nat → ClassId} (M : ZC p s m args meth c "YearBaskets$Laws" "leastKeptByNone" b_L_leastKeptByNone 4 (some .int) N0 D cs) (this : Nat) (h : Hp)  {r0 : Int32}  : ∀ (n : Nat) (x1 : Int32) (x2 : Int32), f_L_leastKeptByNone_2 this h n x1 x2 = some r0 → ZG p l e (zrm 2 0 0) s m args below meth c N0 D cs (some (.int r0)) h h 4 [(0, .ref this), (1, .int x1), (2, .int x2)] 2 [] := by
  intro n
  induction n with
  | zero => intro x1 x2 hf; exact absurd (show none = some _ from hf) (fun q => by cases q)
  | succ n ih => intro x1 x2 hf; exact v_L_leastKeptByNone_2 M this h (f_L_leastKeptByNone_2 this h n)  ih _ _ hf
def f_L_leastKeptByNone (this : Nat) (h : Hp) (x1 : Int32) : Option (Int32) :=
  if isO h this 2 = true then
  f_L_leastKeptByNone_2 this h FU x1 (0 : Int32)
  else none
theorem o_L_leastKeptByNone {this : Nat} {h : Hp} {x1 : Int32} {r0 : Int32} (hf : f_L_leastKeptByNone this h x1 = some r0) : isO h this 2 = true := by
  unfold f_L_leastKeptByNone at hf
  exact (z_gd hf).1
set_option maxRecDepth 100000 in
set_option maxHeartbeats 4000000 in
theorem c_L_leastKeptByNone {l : Launch} {N0 : Nat} {D : va_G} {cs : Nat → ClassId} {this : Nat} {h : Hp} {x1 : Int32} {r0 : Int32} (hf : f_L_leastKeptByNone this h x1 = some r0) : Fn l N0 D cs y_L_leastKeptByNone b_L_leastKeptByNone 4 (some .int) 2 0 0 [.ref this, .int x1] h (some (.int r0)) h := by
  refine z_start (by decide) (Nat.le_of_ble_eq_true rfl) ?_
  intro p e s m args below meth c M hH hS ls hl
  unfold f_L_leastKeptByNone at hf
  obtain ⟨hO, hf⟩ := z_gd hf
  have hl : lv_has ls 4 [(0, .ref this), (1, .int x1)] := hl
  obtain ⟨H, hHe⟩ : ∃ H, H = s.heap := ⟨_, rfl⟩
  obtain ⟨locs, hLe⟩ : ∃ locs : List Loc, locs = [] := ⟨_, rfl⟩
  have hS : va_S (zA N0) s.heap H locs := by rw [hHe, hLe]; exact hS
  have hH : HH N0 D cs h H := by rw [hHe]; exact hH
  suffices hg : W p l e (zrm 2 0 0) s m args below meth c H locs 0 0 (MQ below (zQ N0 D cs (some (.int r0)) h) args s 0 0 (zA N0)) (F0 m 0 ls []) by rw [hHe, hLe] at hg; exact hg
  clear hHe hLe
  refine lv_iconst (v := (0 : Int32)) M.x M.b d_L_leastKeptByNone_0 rfl ?_
  refine lv_istore_n (lv' := [(2, .int (0 : Int32)), (0, .ref this), (1, .int x1)]) M.x M.b d_L_leastKeptByNone_1 rfl hl (by decide) rfl (fun ls hl => ?_)
  exact w_L_leastKeptByNone_2 M this h FU _ _ hf H locs ls hH hS (lv_sub hl [1, 2, 0] rfl)
