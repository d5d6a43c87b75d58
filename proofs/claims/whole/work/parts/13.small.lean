/-! ===== small static methods: printed by wip/whole/drive.py out of the bytecode ===== -/
theorem q_149 : (Jvm.Cond.static ({ cls := "YearBaskets", name := "isNoYear", desc := "(I)Z" } : Jvm.MethodName)) ∈ zG := zt_2 (List.mem_of_getElem? (i := 6) rfl) rfl
theorem q_150 : (Jvm.Cond.code ({ cls := "YearBaskets", name := "isNoYear", desc := "(I)Z" } : Jvm.MethodName) prog_1_method_23_code (1 : Nat) (Option.some Jvm.ClassFile.FieldType.boolean)) ∈ zG := zt_2 (List.mem_of_getElem? (i := 7) rfl) rfl
theorem q_151 : (Jvm.Cond.initialized "YearBaskets") ∈ zG := zt_1 (List.mem_of_getElem? (i := 1) rfl) rfl
theorem q_152 : (Jvm.Cond.static ({ cls := "YearBaskets", name := "isNoGood", desc := "(I)Z" } : Jvm.MethodName)) ∈ zG := zt_2 (List.mem_of_getElem? (i := 9) rfl) rfl
theorem q_153 : (Jvm.Cond.code ({ cls := "YearBaskets", name := "isNoGood", desc := "(I)Z" } : Jvm.MethodName) prog_1_method_24_code (1 : Nat) (Option.some Jvm.ClassFile.FieldType.boolean)) ∈ zG := zt_2 (List.mem_of_getElem? (i := 10) rfl) rfl
theorem q_154 : (Jvm.Cond.static ({ cls := "YearBaskets", name := "isNoPerson", desc := "(I)Z" } : Jvm.MethodName)) ∈ zG := zt_2 (List.mem_of_getElem? (i := 28) rfl) rfl
theorem q_155 : (Jvm.Cond.code ({ cls := "YearBaskets", name := "isNoPerson", desc := "(I)Z" } : Jvm.MethodName) prog_1_method_25_code (1 : Nat) (Option.some Jvm.ClassFile.FieldType.boolean)) ∈ zG := zt_2 (List.mem_of_getElem? (i := 29) rfl) rfl
theorem q_156 : (Jvm.Cond.static ({ cls := "YearBaskets", name := "isNoWho", desc := "(I)Z" } : Jvm.MethodName)) ∈ zG := zt_2 (List.mem_of_getElem? (i := 43) rfl) rfl
theorem q_157 : (Jvm.Cond.code ({ cls := "YearBaskets", name := "isNoWho", desc := "(I)Z" } : Jvm.MethodName) prog_1_method_26_code (1 : Nat) (Option.some Jvm.ClassFile.FieldType.boolean)) ∈ zG := zt_2 (List.mem_of_getElem? (i := 44) rfl) rfl
theorem q_158 : (Jvm.Cond.static ({ cls := "YearBaskets", name := "isNoLaw", desc := "(I)Z" } : Jvm.MethodName)) ∈ zG := zt_3 (List.mem_of_getElem? (i := 93) rfl) rfl
theorem q_159 : (Jvm.Cond.code ({ cls := "YearBaskets", name := "isNoLaw", desc := "(I)Z" } : Jvm.MethodName) prog_1_method_27_code (1 : Nat) (Option.some Jvm.ClassFile.FieldType.boolean)) ∈ zG := zt_3 (List.mem_of_getElem? (i := 94) rfl) rfl
theorem q_160 : (Jvm.Cond.static ({ cls := "YearBaskets", name := "inLeastTerms", desc := "(III)I" } : Jvm.MethodName)) ∈ zG := zt_4 (List.mem_of_getElem? (i := 13) rfl) rfl
theorem q_161 : (Jvm.Cond.code ({ cls := "YearBaskets", name := "inLeastTerms", desc := "(III)I" } : Jvm.MethodName) prog_1_method_30_code (4 : Nat) (Option.some Jvm.ClassFile.FieldType.int)) ∈ zG := zt_4 (List.mem_of_getElem? (i := 14) rfl) rfl
theorem q_162 : (Jvm.Cond.methodLink "YearBaskets" (252 : Nat) ({ cls := "YearBaskets$Fraction", name := "commonDivisor", desc := "(JJ)J" } : Jvm.MethodName)) ∈ zG := zt_4 (List.mem_of_getElem? (i := 16) rfl) rfl
theorem q_163 : (Jvm.Cond.methodLink "YearBaskets" (247 : Nat) ({ cls := "java/lang/Math", name := "abs", desc := "(I)I" } : Jvm.MethodName)) ∈ zG := zt_4 (List.mem_of_getElem? (i := 15) rfl) rfl
theorem q_164 : (Jvm.Cond.static ({ cls := "java/lang/Math", name := "abs", desc := "(I)I" } : Jvm.MethodName)) ∈ zG := zt_3 (List.mem_of_getElem? (i := 68) rfl) rfl
theorem q_165 : (Jvm.Cond.initialized "java/lang/Math") ∈ zG := zt_1 (List.mem_of_getElem? (i := 15) rfl) rfl
theorem q_166 : (Jvm.Cond.code ({ cls := "java/lang/Math", name := "abs", desc := "(I)I" } : Jvm.MethodName) prog_12_method_59_code (1 : Nat) (Option.some Jvm.ClassFile.FieldType.int)) ∈ zG := zt_3 (List.mem_of_getElem? (i := 69) rfl) rfl
theorem q_167 : (Jvm.Cond.static ({ cls := "YearBaskets", name := "wholeRoot", desc := "(J)J" } : Jvm.MethodName)) ∈ zG := zt_4 (List.mem_of_getElem? (i := 30) rfl) rfl
theorem q_168 : (Jvm.Cond.code ({ cls := "YearBaskets", name := "wholeRoot", desc := "(J)J" } : Jvm.MethodName) prog_1_method_31_code (7 : Nat) (Option.some Jvm.ClassFile.FieldType.long)) ∈ zG := zt_4 (List.mem_of_getElem? (i := 31) rfl) rfl
abbrev b_Y_isNoYear : ByteArray := prog_1_method_23_code
abbrev y_Y_isNoYear : MethodName := ⟨"YearBaskets", "isNoYear", "(I)Z"⟩
abbrev b_Y_isNoGood : ByteArray := prog_1_method_24_code
abbrev y_Y_isNoGood : MethodName := ⟨"YearBaskets", "isNoGood", "(I)Z"⟩
abbrev b_Y_isNoPerson : ByteArray := prog_1_method_25_code
abbrev y_Y_isNoPerson : MethodName := ⟨"YearBaskets", "isNoPerson", "(I)Z"⟩
abbrev b_Y_isNoWho : ByteArray := prog_1_method_26_code
abbrev y_Y_isNoWho : MethodName := ⟨"YearBaskets", "isNoWho", "(I)Z"⟩
abbrev b_Y_isNoLaw : ByteArray := prog_1_method_27_code
abbrev y_Y_isNoLaw : MethodName := ⟨"YearBaskets", "isNoLaw", "(I)Z"⟩
abbrev b_Y_inLeastTerms : ByteArray := prog_1_method_30_code
abbrev y_Y_inLeastTerms : MethodName := ⟨"YearBaskets", "inLeastTerms", "(III)I"⟩
abbrev b_Y_wholeRoot : ByteArray := prog_1_method_31_code
abbrev y_Y_wholeRoot : MethodName := ⟨"YearBaskets", "wholeRoot", "(J)J"⟩
theorem w_Y_isNoYear : Cond.code y_Y_isNoYear b_Y_isNoYear 1 (some .boolean) ∈ zG ∧ Cond.static y_Y_isNoYear ∈ zG ∧ Cond.initialized y_Y_isNoYear.cls ∈ zG ∧ zY y_Y_isNoYear 1 := ⟨q_150, q_149, q_151, by decide +kernel⟩
theorem w_Y_isNoGood : Cond.code y_Y_isNoGood b_Y_isNoGood 1 (some .boolean) ∈ zG ∧ Cond.static y_Y_isNoGood ∈ zG ∧ Cond.initialized y_Y_isNoGood.cls ∈ zG ∧ zY y_Y_isNoGood 1 := ⟨q_153, q_152, q_151, by decide +kernel⟩
theorem w_Y_isNoPerson : Cond.code y_Y_isNoPerson b_Y_isNoPerson 1 (some .boolean) ∈ zG ∧ Cond.static y_Y_isNoPerson ∈ zG ∧ Cond.initialized y_Y_isNoPerson.cls ∈ zG ∧ zY y_Y_isNoPerson 1 := ⟨q_155, q_154, q_151, by decide +kernel⟩
theorem w_Y_isNoWho : Cond.code y_Y_isNoWho b_Y_isNoWho 1 (some .boolean) ∈ zG ∧ Cond.static y_Y_isNoWho ∈ zG ∧ Cond.initialized y_Y_isNoWho.cls ∈ zG ∧ zY y_Y_isNoWho 1 := ⟨q_157, q_156, q_151, by decide +kernel⟩
theorem w_Y_isNoLaw : Cond.code y_Y_isNoLaw b_Y_isNoLaw 1 (some .boolean) ∈ zG ∧ Cond.static y_Y_isNoLaw ∈ zG ∧ Cond.initialized y_Y_isNoLaw.cls ∈ zG ∧ zY y_Y_isNoLaw 1 := ⟨q_159, q_158, q_151, by decide +kernel⟩
theorem w_Y_inLeastTerms : Cond.code y_Y_inLeastTerms b_Y_inLeastTerms 4 (some .int) ∈ zG ∧ Cond.static y_Y_inLeastTerms ∈ zG ∧ Cond.initialized y_Y_inLeastTerms.cls ∈ zG ∧ zY y_Y_inLeastTerms 3 := ⟨q_161, q_160, q_151, by decide +kernel⟩
theorem w_Y_wholeRoot : Cond.code y_Y_wholeRoot b_Y_wholeRoot 7 (some .long) ∈ zG ∧ Cond.static y_Y_wholeRoot ∈ zG ∧ Cond.initialized y_Y_wholeRoot.cls ∈ zG ∧ zY y_Y_wholeRoot 1 := ⟨q_168, q_167, q_151, by decide +kernel⟩
theorem d_Y_isNoYear_0 : decode b_Y_isNoYear 0 = .ok (.iload_n 0, 1) := by decide +kernel
theorem d_Y_isNoYear_1 : decode b_Y_isNoYear 1 = .ok (.ifCond .lt 9, 3) := by decide +kernel
theorem d_Y_isNoYear_4 : decode b_Y_isNoYear 4 = .ok (.iload_n 0, 1) := by decide +kernel
theorem d_Y_isNoYear_5 : decode b_Y_isNoYear 5 = .ok (.bipush 8, 2) := by decide +kernel
theorem d_Y_isNoYear_7 : decode b_Y_isNoYear 7 = .ok (.if_icmp .lt 7, 3) := by decide +kernel
theorem d_Y_isNoYear_10 : decode b_Y_isNoYear 10 = .ok (.iconst 1, 1) := by decide +kernel
theorem d_Y_isNoYear_11 : decode b_Y_isNoYear 11 = .ok (.goto 4, 3) := by decide +kernel
theorem d_Y_isNoYear_14 : decode b_Y_isNoYear 14 = .ok (.iconst 0, 1) := by decide +kernel
theorem d_Y_isNoYear_15 : decode b_Y_isNoYear 15 = .ok (.ireturn, 1) := by decide +kernel
theorem d_Y_isNoGood_0 : decode b_Y_isNoGood 0 = .ok (.iload_n 0, 1) := by decide +kernel
theorem d_Y_isNoGood_1 : decode b_Y_isNoGood 1 = .ok (.ifCond .lt 8, 3) := by decide +kernel
theorem d_Y_isNoGood_4 : decode b_Y_isNoGood 4 = .ok (.iload_n 0, 1) := by decide +kernel
theorem d_Y_isNoGood_5 : decode b_Y_isNoGood 5 = .ok (.iconst 5, 1) := by decide +kernel
theorem d_Y_isNoGood_6 : decode b_Y_isNoGood 6 = .ok (.if_icmp .lt 7, 3) := by decide +kernel
theorem d_Y_isNoGood_9 : decode b_Y_isNoGood 9 = .ok (.iconst 1, 1) := by decide +kernel
theorem d_Y_isNoGood_10 : decode b_Y_isNoGood 10 = .ok (.goto 4, 3) := by decide +kernel
theorem d_Y_isNoGood_13 : decode b_Y_isNoGood 13 = .ok (.iconst 0, 1) := by decide +kernel
theorem d_Y_isNoGood_14 : decode b_Y_isNoGood 14 = .ok (.ireturn, 1) := by decide +kernel
theorem d_Y_isNoPerson_0 : decode b_Y_isNoPerson 0 = .ok (.iload_n 0, 1) := by decide +kernel
theorem d_Y_isNoPerson_1 : decode b_Y_isNoPerson 1 = .ok (.ifCond .lt 8, 3) := by decide +kernel
theorem d_Y_isNoPerson_4 : decode b_Y_isNoPerson 4 = .ok (.iload_n 0, 1) := by decide +kernel
theorem d_Y_isNoPerson_5 : decode b_Y_isNoPerson 5 = .ok (.iconst 3, 1) := by decide +kernel
theorem d_Y_isNoPerson_6 : decode b_Y_isNoPerson 6 = .ok (.if_icmp .lt 7, 3) := by decide +kernel
theorem d_Y_isNoPerson_9 : decode b_Y_isNoPerson 9 = .ok (.iconst 1, 1) := by decide +kernel
theorem d_Y_isNoPerson_10 : decode b_Y_isNoPerson 10 = .ok (.goto 4, 3) := by decide +kernel
theorem d_Y_isNoPerson_13 : decode b_Y_isNoPerson 13 = .ok (.iconst 0, 1) := by decide +kernel
theorem d_Y_isNoPerson_14 : decode b_Y_isNoPerson 14 = .ok (.ireturn, 1) := by decide +kernel
theorem d_Y_isNoWho_0 : decode b_Y_isNoWho 0 = .ok (.iload_n 0, 1) := by decide +kernel
theorem d_Y_isNoWho_1 : decode b_Y_isNoWho 1 = .ok (.ifCond .lt 8, 3) := by decide +kernel
theorem d_Y_isNoWho_4 : decode b_Y_isNoWho 4 = .ok (.iload_n 0, 1) := by decide +kernel
theorem d_Y_isNoWho_5 : decode b_Y_isNoWho 5 = .ok (.iconst 4, 1) := by decide +kernel
theorem d_Y_isNoWho_6 : decode b_Y_isNoWho 6 = .ok (.if_icmp .lt 7, 3) := by decide +kernel
theorem d_Y_isNoWho_9 : decode b_Y_isNoWho 9 = .ok (.iconst 1, 1) := by decide +kernel
theorem d_Y_isNoWho_10 : decode b_Y_isNoWho 10 = .ok (.goto 4, 3) := by decide +kernel
theorem d_Y_isNoWho_13 : decode b_Y_isNoWho 13 = .ok (.iconst 0, 1) := by decide +kernel
theorem d_Y_isNoWho_14 : decode b_Y_isNoWho 14 = .ok (.ireturn, 1) := by decide +kernel
theorem d_Y_isNoLaw_0 : decode b_Y_isNoLaw 0 = .ok (.iload_n 0, 1) := by decide +kernel
theorem d_Y_isNoLaw_1 : decode b_Y_isNoLaw 1 = .ok (.ifCond .lt 9, 3) := by decide +kernel
theorem d_Y_isNoLaw_4 : decode b_Y_isNoLaw 4 = .ok (.iload_n 0, 1) := by decide +kernel
theorem d_Y_isNoLaw_5 : decode b_Y_isNoLaw 5 = .ok (.bipush 7, 2) := by decide +kernel
theorem d_Y_isNoLaw_7 : decode b_Y_isNoLaw 7 = .ok (.if_icmp .lt 7, 3) := by decide +kernel
theorem d_Y_isNoLaw_10 : decode b_Y_isNoLaw 10 = .ok (.iconst 1, 1) := by decide +kernel
theorem d_Y_isNoLaw_11 : decode b_Y_isNoLaw 11 = .ok (.goto 4, 3) := by decide +kernel
theorem d_Y_isNoLaw_14 : decode b_Y_isNoLaw 14 = .ok (.iconst 0, 1) := by decide +kernel
theorem d_Y_isNoLaw_15 : decode b_Y_isNoLaw 15 = .ok (.ireturn, 1) := by decide +kernel
theorem d_Y_inLeastTerms_0 : decode b_Y_inLeastTerms 0 = .ok (.iload_n 0, 1) := by decide +kernel
theorem d_Y_inLeastTerms_1 : decode b_Y_inLeastTerms 1 = .ok (.invokestatic 247, 3) := by decide +kernel
theorem d_Y_inLeastTerms_4 : decode b_Y_inLeastTerms 4 = .ok (.i2l, 1) := by decide +kernel
theorem d_Y_inLeastTerms_5 : decode b_Y_inLeastTerms 5 = .ok (.iload_n 1, 1) := by decide +kernel
theorem d_Y_inLeastTerms_6 : decode b_Y_inLeastTerms 6 = .ok (.i2l, 1) := by decide +kernel
theorem d_Y_inLeastTerms_7 : decode b_Y_inLeastTerms 7 = .ok (.invokestatic 252, 3) := by decide +kernel
theorem d_Y_inLeastTerms_10 : decode b_Y_inLeastTerms 10 = .ok (.l2i, 1) := by decide +kernel
theorem d_Y_inLeastTerms_11 : decode b_Y_inLeastTerms 11 = .ok (.istore_n 3, 1) := by decide +kernel
theorem d_Y_inLeastTerms_12 : decode b_Y_inLeastTerms 12 = .ok (.iload_n 3, 1) := by decide +kernel
theorem d_Y_inLeastTerms_13 : decode b_Y_inLeastTerms 13 = .ok (.iconst 1, 1) := by decide +kernel
theorem d_Y_inLeastTerms_14 : decode b_Y_inLeastTerms 14 = .ok (.if_icmp .ge 7, 3) := by decide +kernel
theorem d_Y_inLeastTerms_17 : decode b_Y_inLeastTerms 17 = .ok (.sipush (-1003), 3) := by decide +kernel
theorem d_Y_inLeastTerms_20 : decode b_Y_inLeastTerms 20 = .ok (.ireturn, 1) := by decide +kernel
theorem d_Y_inLeastTerms_21 : decode b_Y_inLeastTerms 21 = .ok (.iload_n 2, 1) := by decide +kernel
theorem d_Y_inLeastTerms_22 : decode b_Y_inLeastTerms 22 = .ok (.ifCond .ne 9, 3) := by decide +kernel
theorem d_Y_inLeastTerms_25 : decode b_Y_inLeastTerms 25 = .ok (.iload_n 0, 1) := by decide +kernel
theorem d_Y_inLeastTerms_26 : decode b_Y_inLeastTerms 26 = .ok (.iload_n 3, 1) := by decide +kernel
theorem d_Y_inLeastTerms_27 : decode b_Y_inLeastTerms 27 = .ok (.idiv, 1) := by decide +kernel
theorem d_Y_inLeastTerms_28 : decode b_Y_inLeastTerms 28 = .ok (.goto 6, 3) := by decide +kernel
theorem d_Y_inLeastTerms_31 : decode b_Y_inLeastTerms 31 = .ok (.iload_n 1, 1) := by decide +kernel
theorem d_Y_inLeastTerms_32 : decode b_Y_inLeastTerms 32 = .ok (.iload_n 3, 1) := by decide +kernel
theorem d_Y_inLeastTerms_33 : decode b_Y_inLeastTerms 33 = .ok (.idiv, 1) := by decide +kernel
theorem d_Y_inLeastTerms_34 : decode b_Y_inLeastTerms 34 = .ok (.ireturn, 1) := by decide +kernel
theorem d_Y_wholeRoot_0 : decode b_Y_wholeRoot 0 = .ok (.lconst 0, 1) := by decide +kernel
theorem d_Y_wholeRoot_1 : decode b_Y_wholeRoot 1 = .ok (.lstore_n 2, 1) := by decide +kernel
theorem d_Y_wholeRoot_2 : decode b_Y_wholeRoot 2 = .ok (.bipush 29, 2) := by decide +kernel
theorem d_Y_wholeRoot_4 : decode b_Y_wholeRoot 4 = .ok (.istore 4, 2) := by decide +kernel
theorem d_Y_wholeRoot_6 : decode b_Y_wholeRoot 6 = .ok (.iload 4, 2) := by decide +kernel
theorem d_Y_wholeRoot_8 : decode b_Y_wholeRoot 8 = .ok (.ifCond .lt 30, 3) := by decide +kernel
theorem d_Y_wholeRoot_11 : decode b_Y_wholeRoot 11 = .ok (.lload_n 2, 1) := by decide +kernel
theorem d_Y_wholeRoot_12 : decode b_Y_wholeRoot 12 = .ok (.lconst 1, 1) := by decide +kernel
theorem d_Y_wholeRoot_13 : decode b_Y_wholeRoot 13 = .ok (.iload 4, 2) := by decide +kernel
theorem d_Y_wholeRoot_15 : decode b_Y_wholeRoot 15 = .ok (.lshl, 1) := by decide +kernel
theorem d_Y_wholeRoot_16 : decode b_Y_wholeRoot 16 = .ok (.lor, 1) := by decide +kernel
theorem d_Y_wholeRoot_17 : decode b_Y_wholeRoot 17 = .ok (.lstore 5, 2) := by decide +kernel
theorem d_Y_wholeRoot_19 : decode b_Y_wholeRoot 19 = .ok (.lload 5, 2) := by decide +kernel
theorem d_Y_wholeRoot_21 : decode b_Y_wholeRoot 21 = .ok (.lload 5, 2) := by decide +kernel
theorem d_Y_wholeRoot_23 : decode b_Y_wholeRoot 23 = .ok (.lmul, 1) := by decide +kernel
theorem d_Y_wholeRoot_24 : decode b_Y_wholeRoot 24 = .ok (.lload_n 0, 1) := by decide +kernel
theorem d_Y_wholeRoot_25 : decode b_Y_wholeRoot 25 = .ok (.lcmp, 1) := by decide +kernel
theorem d_Y_wholeRoot_26 : decode b_Y_wholeRoot 26 = .ok (.ifCond .gt 6, 3) := by decide +kernel
theorem d_Y_wholeRoot_29 : decode b_Y_wholeRoot 29 = .ok (.lload 5, 2) := by decide +kernel
theorem d_Y_wholeRoot_31 : decode b_Y_wholeRoot 31 = .ok (.lstore_n 2, 1) := by decide +kernel
theorem d_Y_wholeRoot_32 : decode b_Y_wholeRoot 32 = .ok (.iinc 4 (-1), 3) := by decide +kernel
theorem d_Y_wholeRoot_35 : decode b_Y_wholeRoot 35 = .ok (.goto (-29), 3) := by decide +kernel
theorem d_Y_wholeRoot_38 : decode b_Y_wholeRoot 38 = .ok (.lload_n 2, 1) := by decide +kernel
theorem d_Y_wholeRoot_39 : decode b_Y_wholeRoot 39 = .ok (.lreturn, 1) := by decide +kernel
def f_Y_isNoYear (x0 : Int32) : Option (Int32) :=
  if x0 < 0 then
    some (1 : Int32)
  else
  if x0 < (8 : Int32) then
    some (0 : Int32)
  else
  some (1 : Int32)
set_option maxRecDepth 100000 in
set_option maxHeartbeats 4000000 in
theorem c_Y_isNoYear {l : Launch} {N0 : Nat} {D : va_G} {cs : Nat → ClassId} {x0 : Int32} {r0 : Int32} {h : Hp} (hf : f_Y_isNoYear x0 = some r0) : Fn l N0 D cs y_Y_isNoYear b_Y_isNoYear 1 (some .boolean) 1 0 0 [.int x0] h (some (.int r0)) h := by
  refine z_start (by decide) (Nat.le_of_ble_eq_true rfl) ?_
  intro p e s m args below meth c M hH hS ls hl
  unfold f_Y_isNoYear at hf
  have hl : lv_has ls 1 [(0, .int x0)] := hl
  obtain ⟨H, hHe⟩ : ∃ H, H = s.heap := ⟨_, rfl⟩
  obtain ⟨locs, hLe⟩ : ∃ locs : List Loc, locs = [] := ⟨_, rfl⟩
  have hS : va_S (zA N0) s.heap H locs := by rw [hHe, hLe]; exact hS
  have hH : HH N0 D cs h H := by rw [hHe]; exact hH
  suffices hg : W p l e (zrm 1 0 0) s m args below meth c H locs 0 0 (MQ below (zQ N0 D cs (some (.int r0)) h) args s 0 0 (zA N0)) (F0 m 0 ls []) by rw [hHe, hLe] at hg; exact hg
  clear hHe hLe
  refine lv_iload_n M.x M.b d_Y_isNoYear_0 rfl (lv_at hl 0 rfl) ?_
  refine lv_if_lt (tgt := 10) M.x M.b d_Y_isNoYear_1 (by decide) (fun c2 => ?_) (fun c2 => ?_)
  · replace hf := z_t c2 hf
    refine lv_iconst (v := (1 : Int32)) M.x M.b d_Y_isNoYear_10 rfl ?_
    refine lv_goto (tgt := 15) M.x M.b d_Y_isNoYear_11 (by decide) ?_
    obtain rfl := z_r1 hf
    exact z_zret M hH hS (by decide) d_Y_isNoYear_15
  · replace hf := z_f c2 hf
    refine lv_iload_n M.x M.b d_Y_isNoYear_4 rfl (lv_at hl 0 rfl) ?_
    refine lv_bipush (v := (8 : Int32)) M.x M.b d_Y_isNoYear_5 rfl ?_
    refine lv_icmp_lt (tgt := 14) M.x M.b d_Y_isNoYear_7 (by decide) (fun c1 => ?_) (fun c1 => ?_)
    · replace hf := z_t c1 hf
      refine lv_iconst (v := (0 : Int32)) M.x M.b d_Y_isNoYear_14 rfl ?_
      obtain rfl := z_r1 hf
      exact z_zret M hH hS (by decide) d_Y_isNoYear_15
    · replace hf := z_f c1 hf
      refine lv_iconst (v := (1 : Int32)) M.x M.b d_Y_isNoYear_10 rfl ?_
      refine lv_goto (tgt := 15) M.x M.b d_Y_isNoYear_11 (by decide) ?_
      obtain rfl := z_r1 hf
      exact z_zret M hH hS (by decide) d_Y_isNoYear_15
def f_Y_isNoGood (x0 : Int32) : Option (Int32) :=
  if x0 < 0 then
    some (1 : Int32)
  else
  if x0 < (5 : Int32) then
    some (0 : Int32)
  else
  some (1 : Int32)
set_option maxRecDepth 100000 in
set_option maxHeartbeats 4000000 in
theorem c_Y_isNoGood {l : Launch} {N0 : Nat} {D : va_G} {cs : Nat → ClassId} {x0 : Int32} {r0 : Int32} {h : Hp} (hf : f_Y_isNoGood x0 = some r0) : Fn l N0 D cs y_Y_isNoGood b_Y_isNoGood 1 (some .boolean) 1 0 0 [.int x0] h (some (.int r0)) h := by
  refine z_start (by decide) (Nat.le_of_ble_eq_true rfl) ?_
  intro p e s m args below meth c M hH hS ls hl
  unfold f_Y_isNoGood at hf
  have hl : lv_has ls 1 [(0, .int x0)] := hl
  obtain ⟨H, hHe⟩ : ∃ H, H = s.heap := ⟨_, rfl⟩
  obtain ⟨locs, hLe⟩ : ∃ locs : List Loc, locs = [] := ⟨_, rfl⟩
  have hS : va_S (zA N0) s.heap H locs := by rw [hHe, hLe]; exact hS
  have hH : HH N0 D cs h H := by rw [hHe]; exact hH
  suffices hg : W p l e (zrm 1 0 0) s m args below meth c H locs 0 0 (MQ below (zQ N0 D cs (some (.int r0)) h) args s 0 0 (zA N0)) (F0 m 0 ls []) by rw [hHe, hLe] at hg; exact hg
  clear hHe hLe
  refine lv_iload_n M.x M.b d_Y_isNoGood_0 rfl (lv_at hl 0 rfl) ?_
  refine lv_if_lt (tgt := 9) M.x M.b d_Y_isNoGood_1 (by decide) (fun c2 => ?_) (fun c2 => ?_)
  · replace hf := z_t c2 hf
    refine lv_iconst (v := (1 : Int32)) M.x M.b d_Y_isNoGood_9 rfl ?_
    refine lv_goto (tgt := 14) M.x M.b d_Y_isNoGood_10 (by decide) ?_
    obtain rfl := z_r1 hf
    exact z_zret M hH hS (by decide) d_Y_isNoGood_14
  · replace hf := z_f c2 hf
    refine lv_iload_n M.x M.b d_Y_isNoGood_4 rfl (lv_at hl 0 rfl) ?_
    refine lv_iconst (v := (5 : Int32)) M.x M.b d_Y_isNoGood_5 rfl ?_
    refine lv_icmp_lt (tgt := 13) M.x M.b d_Y_isNoGood_6 (by decide) (fun c1 => ?_) (fun c1 => ?_)
    · replace hf := z_t c1 hf
      refine lv_iconst (v := (0 : Int32)) M.x M.b d_Y_isNoGood_13 rfl ?_
      obtain rfl := z_r1 hf
      exact z_zret M hH hS (by decide) d_Y_isNoGood_14
    · replace hf := z_f c1 hf
      refine lv_iconst (v := (1 : Int32)) M.x M.b d_Y_isNoGood_9 rfl ?_
      refine lv_goto (tgt := 14) M.x M.b d_Y_isNoGood_10 (by decide) ?_
      obtain rfl := z_r1 hf
      exact z_zret M hH hS (by decide) d_Y_isNoGood_14
def f_Y_isNoPerson (x0 : Int32) : Option (Int32) :=
  if x0 < 0 then
    some (1 : Int32)
  else
  if x0 < (3 : Int32) then
    some (0 : Int32)
  else
  some (1 : Int32)
set_option maxRecDepth 100000 in
set_option maxHeartbeats 4000000 in
theorem c_Y_isNoPerson {l : Launch} {N0 : Nat} {D : va_G} {cs : Nat → ClassId} {x0 : Int32} {r0 : Int32} {h : Hp} (hf : f_Y_isNoPerson x0 = some r0) : Fn l N0 D cs y_Y_isNoPerson b_Y_isNoPerson 1 (some .boolean) 1 0 0 [.int x0] h (some (.int r0)) h := by
  refine z_start (by decide) (Nat.le_of_ble_eq_true rfl) ?_
  intro p e s m args below meth c M hH hS ls hl
  unfold f_Y_isNoPerson at hf
  have hl : lv_has ls 1 [(0, .int x0)] := hl
  obtain ⟨H, hHe⟩ : ∃ H, H = s.heap := ⟨_, rfl⟩
  obtain ⟨locs, hLe⟩ : ∃ locs : List Loc, locs = [] := ⟨_, rfl⟩
  have hS : va_S (zA N0) s.heap H locs := by rw [hHe, hLe]; exact hS
  have hH : HH N0 D cs h H := by rw [hHe]; exact hH
  suffices hg : W p l e (zrm 1 0 0) s m args below meth c H locs 0 0 (MQ below (zQ N0 D cs (some (.int r0)) h) args s 0 0 (zA N0)) (F0 m 0 ls []) by rw [hHe, hLe] at hg; exact hg
  clear hHe hLe
  refine lv_iload_n M.x M.b d_Y_isNoPerson_0 rfl (lv_at hl 0 rfl) ?_
  refine lv_if_lt (tgt := 9) M.x M.b d_Y_isNoPerson_1 (by decide) (fun c2 => ?_) (fun c2 => ?_)
  · replace hf := z_t c2 hf
    refine lv_iconst (v := (1 : Int32)) M.x M.b d_Y_isNoPerson_9 rfl ?_
    refine lv_goto (tgt := 14) M.x M.b d_Y_isNoPerson_10 (by decide) ?_
    obtain rfl := z_r1 hf
    exact z_zret M hH hS (by decide) d_Y_isNoPerson_14
  · replace hf := z_f c2 hf
    refine lv_iload_n M.x M.b d_Y_isNoPerson_4 rfl (lv_at hl 0 rfl) ?_
    refine lv_iconst (v := (3 : Int32)) M.x M.b d_Y_isNoPerson_5 rfl ?_
    refine lv_icmp_lt (tgt := 13) M.x M.b d_Y_isNoPerson_6 (by decide) (fun c1 => ?_) (fun c1 => ?_)
    · replace hf := z_t c1 hf
      refine lv_iconst (v := (0 : Int32)) M.x M.b d_Y_isNoPerson_13 rfl ?_
      obtain rfl := z_r1 hf
      exact z_zret M hH hS (by decide) d_Y_isNoPerson_14
    · replace hf := z_f c1 hf
      refine lv_iconst (v := (1 : Int32)) M.x M.b d_Y_isNoPerson_9 rfl ?_
      refine lv_goto (tgt := 14) M.x M.b d_Y_isNoPerson_10 (by decide) ?_
      obtain rfl := z_r1 hf
      exact z_zret M hH hS (by decide) d_Y_isNoPerson_14
def f_Y_isNoWho (x0 : Int32) : Option (Int32) :=
  if x0 < 0 then
    some (1 : Int32)
  else
  if x0 < (4 : Int32) then
    some (0 : Int32)
  else
  some (1 : Int32)
set_option maxRecDepth 100000 in
set_option maxHeartbeats 4000000 in
theorem c_Y_isNoWho {l : Launch} {N0 : Nat} {D : va_G} {cs : Nat → ClassId} {x0 : Int32} {r0 : Int32} {h : Hp} (hf : f_Y_isNoWho x0 = some r0) : Fn l N0 D cs y_Y_isNoWho b_Y_isNoWho 1 (some .boolean) 1 0 0 [.int x0] h (some (.int r0)) h := by
  refine z_start (by decide) (Nat.le_of_ble_eq_true rfl) ?_
  intro p e s m args below meth c M hH hS ls hl
  unfold f_Y_isNoWho at hf
  have hl : lv_has ls 1 [(0, .int x0)] := hl
  obtain ⟨H, hHe⟩ : ∃ H, H = s.heap := ⟨_, rfl⟩
  obtain ⟨locs, hLe⟩ : ∃ locs : List Loc, locs = [] := ⟨_, rfl⟩
  have hS : va_S (zA N0) s.heap H locs := by rw [hHe, hLe]; exact hS
  have hH : HH N0 D cs h H := by rw [hHe]; exact hH
  suffices hg : W p l e (zrm 1 0 0) s m args below meth c H locs 0 0 (MQ below (zQ N0 D cs (some (.int r0)) h) args s 0 0 (zA N0)) (F0 m 0 ls []) by rw [hHe, hLe] at hg; exact hg
  clear hHe hLe
  refine lv_iload_n M.x M.b d_Y_isNoWho_0 rfl (lv_at hl 0 rfl) ?_
  refine lv_if_lt (tgt := 9) M.x M.b d_Y_isNoWho_1 (by decide) (fun c2 => ?_) (fun c2 => ?_)
  · replace hf := z_t c2 hf
    refine lv_iconst (v := (1 : Int32)) M.x M.b d_Y_isNoWho_9 rfl ?_
    refine lv_goto (tgt := 14) M.x M.b d_Y_isNoWho_10 (by decide) ?_
    obtain rfl := z_r1 hf
    exact z_zret M hH hS (by decide) d_Y_isNoWho_14
  · replace hf := z_f c2 hf
    refine lv_iload_n M.x M.b d_Y_isNoWho_4 rfl (lv_at hl 0 rfl) ?_
    refine lv_iconst (v := (4 : Int32)) M.x M.b d_Y_isNoWho_5 rfl ?_
    refine lv_icmp_lt (tgt := 13) M.x M.b d_Y_isNoWho_6 (by decide) (fun c1 => ?_) (fun c1 => ?_)
    · replace hf := z_t c1 hf
      refine lv_iconst (v := (0 : Int32)) M.x M.b d_Y_isNoWho_13 rfl ?_
      obtain rfl := z_r1 hf
      exact z_zret M hH hS (by decide) d_Y_isNoWho_14
    · replace hf := z_f c1 hf
      refine lv_iconst (v := (1 : Int32)) M.x M.b d_Y_isNoWho_9 rfl ?_
      refine lv_goto (tgt := 14) M.x M.b d_Y_isNoWho_10 (by decide) ?_
      obtain rfl := z_r1 hf
      exact z_zret M hH hS (by decide) d_Y_isNoWho_14
def f_Y_isNoLaw (x0 : Int32) : Option (Int32) :=
  if x0 < 0 then
    some (1 : Int32)
  else
  if x0 < (7 : Int32) then
    some (0 : Int32)
  else
  some (1 : Int32)
set_option maxRecDepth 100000 in
set_option maxHeartbeats 4000000 in
theorem c_Y_isNoLaw {l : Launch} {N0 : Nat} {D : va_G} {cs : Nat → ClassId} {x0 : Int32} {r0 : Int32} {h : Hp} (hf : f_Y_isNoLaw x0 = some r0) : Fn l N0 D cs y_Y_isNoLaw b_Y_isNoLaw 1 (some .boolean) 1 0 0 [.int x0] h (some (.int r0)) h := by
  refine z_start (by decide) (Nat.le_of_ble_eq_true rfl) ?_
  intro p e s m args below meth c M hH hS ls hl
  unfold f_Y_isNoLaw at hf
  have hl : lv_has ls 1 [(0, .int x0)] := hl
  obtain ⟨H, hHe⟩ : ∃ H, H = s.heap := ⟨_, rfl⟩
  obtain ⟨locs, hLe⟩ : ∃ locs : List Loc, locs = [] := ⟨_, rfl⟩
  have hS : va_S (zA N0) s.heap H locs := by rw [hHe, hLe]; exact hS
  have hH : HH N0 D cs h H := by rw [hHe]; exact hH
  suffices hg : W p l e (zrm 1 0 0) s m args below meth c H locs 0 0 (MQ below (zQ N0 D cs (some (.int r0)) h) args s 0 0 (zA N0)) (F0 m 0 ls []) by rw [hHe, hLe] at hg; exact hg
  clear hHe hLe
  refine lv_iload_n M.x M.b d_Y_isNoLaw_0 rfl (lv_at hl 0 rfl) ?_
  refine lv_if_lt (tgt := 10) M.x M.b d_Y_isNoLaw_1 (by decide) (fun c2 => ?_) (fun c2 => ?_)
  · replace hf := z_t c2 hf
    refine lv_iconst (v := (1 : Int32)) M.x M.b d_Y_isNoLaw_10 rfl ?_
    refine lv_goto (tgt := 15) M.x M.b d_Y_isNoLaw_11 (by decide) ?_
    obtain rfl := z_r1 hf
    exact z_zret M hH hS (by decide) d_Y_isNoLaw_15
  · replace hf := z_f c2 hf
    refine lv_iload_n M.x M.b d_Y_isNoLaw_4 rfl (lv_at hl 0 rfl) ?_
    refine lv_bipush (v := (7 : Int32)) M.x M.b d_Y_isNoLaw_5 rfl ?_
    refine lv_icmp_lt (tgt := 14) M.x M.b d_Y_isNoLaw_7 (by decide) (fun c1 => ?_) (fun c1 => ?_)
    · replace hf := z_t c1 hf
      refine lv_iconst (v := (0 : Int32)) M.x M.b d_Y_isNoLaw_14 rfl ?_
      obtain rfl := z_r1 hf
      exact z_zret M hH hS (by decide) d_Y_isNoLaw_15
    · replace hf := z_f c1 hf
      refine lv_iconst (v := (1 : Int32)) M.x M.b d_Y_isNoLaw_10 rfl ?_
      refine lv_goto (tgt := 15) M.x M.b d_Y_isNoLaw_11 (by decide) ?_
      obtain rfl := z_r1 hf
      exact z_zret M hH hS (by decide) d_Y_isNoLaw_15
def f_Y_inLeastTerms (x0 : Int32) (x1 : Int32) (x2 : Int32) : Option (Int32) :=
  (f_F_commonDivisor ((if 0 ≤ x0 then x0 else 0 - x0)).toInt64 (x1).toInt64).bind fun l2 =>
  if (1 : Int32) ≤ (l2).toInt32 then
    if x2 = 0 then
      if (l2).toInt32 = 0 then none else
      some (x0 / (l2).toInt32)
    else
    if (l2).toInt32 = 0 then none else
    some (x1 / (l2).toInt32)
  else
  some (-1003 : Int32)
set_option maxRecDepth 100000 in
set_option maxHeartbeats 4000000 in
theorem c_Y_inLeastTerms {l : Launch} {N0 : Nat} {D : va_G} {cs : Nat → ClassId} {x0 : Int32} {x1 : Int32} {x2 : Int32} {r0 : Int32} {h : Hp} (hf : f_Y_inLeastTerms x0 x1 x2 = some r0) : Fn l N0 D cs y_Y_inLeastTerms b_Y_inLeastTerms 4 (some .int) 2 0 0 [.int x0, .int x1, .int x2] h (some (.int r0)) h := by
  refine z_start (by decide) (Nat.le_of_ble_eq_true rfl) ?_
  intro p e s m args below meth c M hH hS ls hl
  unfold f_Y_inLeastTerms at hf
  have hl : lv_has ls 4 [(0, .int x0), (1, .int x1), (2, .int x2)] := hl
  obtain ⟨H, hHe⟩ : ∃ H, H = s.heap := ⟨_, rfl⟩
  obtain ⟨locs, hLe⟩ : ∃ locs : List Loc, locs = [] := ⟨_, rfl⟩
  have hS : va_S (zA N0) s.heap H locs := by rw [hHe, hLe]; exact hS
  have hH : HH N0 D cs h H := by rw [hHe]; exact hH
  suffices hg : W p l e (zrm 2 0 0) s m args below meth c H locs 0 0 (MQ below (zQ N0 D cs (some (.int r0)) h) args s 0 0 (zA N0)) (F0 m 0 ls []) by rw [hHe, hLe] at hg; exact hg
  clear hHe hLe
  refine lv_iload_n M.x M.b d_Y_inLeastTerms_0 rfl (lv_at hl 0 rfl) ?_
  refine z_mabs M q_163 q_164 q_165 q_166 hl.1 (Nat.le_of_ble_eq_true rfl) (Nat.le_of_ble_eq_true rfl) d_Y_inLeastTerms_1 ?_
  refine lv_i2l M.x M.b d_Y_inLeastTerms_4 rfl ?_
  refine lv_iload_n M.x M.b d_Y_inLeastTerms_5 rfl (lv_at hl 1 rfl) ?_
  refine lv_i2l M.x M.b d_Y_inLeastTerms_6 rfl ?_
  replace hf := z_bind hf; obtain ⟨l2, e1, hf⟩ := hf
  refine zk_S (st1 := [.long l2]) M hH hS (c_F_commonDivisor e1) w_F_commonDivisor q_162 [] rfl ⟨Nat.le_of_ble_eq_true rfl, Nat.le_of_ble_eq_true rfl⟩ hl.1 rfl rfl (Nat.le_of_ble_eq_true rfl) d_Y_inLeastTerms_7 (fun H locs hH hS => ?_)
  refine lv_l2i M.x M.b d_Y_inLeastTerms_10 rfl ?_
  refine lv_istore_n (lv' := [(3, .int (l2).toInt32), (0, .int x0), (1, .int x1), (2, .int x2)]) M.x M.b d_Y_inLeastTerms_11 rfl hl (by decide) rfl (fun ls hl => ?_)
  refine lv_iload_n M.x M.b d_Y_inLeastTerms_12 rfl (lv_at hl 0 rfl) ?_
  refine lv_iconst (v := (1 : Int32)) M.x M.b d_Y_inLeastTerms_13 rfl ?_
  refine lv_icmp_ge (tgt := 21) M.x M.b d_Y_inLeastTerms_14 (by decide) (fun c6 => ?_) (fun c6 => ?_)
  · replace hf := z_t c6 hf
    refine lv_iload_n M.x M.b d_Y_inLeastTerms_21 rfl (lv_at hl 3 rfl) ?_
    refine lv_if_ne (tgt := 31) M.x M.b d_Y_inLeastTerms_22 (by decide) (fun c5 => ?_) (fun c5 => ?_)
    · replace hf := z_f c5 hf
      refine lv_iload_n M.x M.b d_Y_inLeastTerms_31 rfl (lv_at hl 2 rfl) ?_
      refine lv_iload_n M.x M.b d_Y_inLeastTerms_32 rfl (lv_at hl 0 rfl) ?_
      replace hf := z_gn hf; obtain ⟨c3, hf⟩ := hf
      refine lv_idiv M.x M.b d_Y_inLeastTerms_33 c3 ?_
      obtain rfl := z_r1 hf
      exact z_iret M hH hS d_Y_inLeastTerms_34
    · replace hf := z_t c5 hf
      refine lv_iload_n M.x M.b d_Y_inLeastTerms_25 rfl (lv_at hl 1 rfl) ?_
      refine lv_iload_n M.x M.b d_Y_inLeastTerms_26 rfl (lv_at hl 0 rfl) ?_
      replace hf := z_gn hf; obtain ⟨c4, hf⟩ := hf
      refine lv_idiv M.x M.b d_Y_inLeastTerms_27 c4 ?_
      refine lv_goto (tgt := 34) M.x M.b d_Y_inLeastTerms_28 (by decide) ?_
      obtain rfl := z_r1 hf
      exact z_iret M hH hS d_Y_inLeastTerms_34
  · replace hf := z_f c6 hf
    refine lv_sipush (v := (-1003 : Int32)) M.x M.b d_Y_inLeastTerms_17 rfl ?_
    obtain rfl := z_r1 hf
    exact z_iret M hH hS d_Y_inLeastTerms_20
def f_Y_wholeRoot_32 (k6 : Int64 → Int64 → Int32 → Option (Int64)) (x0 : Int64) (x2 : Int64) (x4 : Int32) : Option (Int64) :=
  k6 x0 x2 (x4 + (-1 : Int32))
set_option maxRecDepth 100000 in
set_option maxHeartbeats 4000000 in
theorem w_Y_wholeRoot_32 {p : Program} {l : Launch} {e : Env} {s : State} {m : MethodId} {args : Array Value} {below : List Frame} {meth : Method} {c : Code} {N0 : Nat} {D : va_G} {cs : Nat → ClassId} (M : ZC p s m args meth c "YearBaskets" "wholeRoot" b_Y_wholeRoot 7 (some .long) N0 D cs)  {h : Hp} (k6 : Int64 → Int64 → Int32 → Option (Int64)) {r0 : Int64} (hk6 : ∀ (x0 : Int64) (x2 : Int64) (x4 : Int32), k6 x0 x2 x4 = some r0 → ZG p l e (zrm 1 0 0) s m args below meth c N0 D cs (some (.long r0)) h h 7 [(0, .long x0), (2, .long x2), (4, .int x4)] 6 []) (x0 : Int64) (x2 : Int64) (x4 : Int32) (hf : f_Y_wholeRoot_32 k6 x0 x2 x4 = some r0) : ZG p l e (zrm 1 0 0) s m args below meth c N0 D cs (some (.long r0)) h h 7 [(0, .long x0), (2, .long x2), (4, .int x4)] 32 [] := by
  intro H locs ls hH hS hl
  unfold f_Y_wholeRoot_32 at hf
  refine lv_iinc (v := (x4 + (-1 : Int32))) (lv' := [(4, .int (x4 + (-1 : Int32))), (0, .long x0), (2, .long x2)]) M.x M.b d_Y_wholeRoot_32 hl (k := 2) rfl rfl (by decide) rfl (fun ls hl => ?_)
  refine lv_goto (tgt := 6) M.x M.b d_Y_wholeRoot_35 (by decide) ?_
  exact hk6 _ _ _ hf H locs ls hH hS (lv_sub hl [1, 2, 0] rfl)
def t_Y_wholeRoot_6 (k6 : Int64 → Int64 → Int32 → Option (Int64)) (x0 : Int64) (x2 : Int64) (x4 : Int32) : Option (Int64) :=
  if x4 < 0 then
    some x2
  else
  if x0 < ((x2 ||| ((1 : Int64) <<< ((x4).toInt64 &&& 63))) * (x2 ||| ((1 : Int64) <<< ((x4).toInt64 &&& 63)))) then
    f_Y_wholeRoot_32 k6 x0 x2 x4
  else
  f_Y_wholeRoot_32 k6 x0 (x2 ||| ((1 : Int64) <<< ((x4).toInt64 &&& 63))) x4
set_option maxRecDepth 100000 in
set_option maxHeartbeats 4000000 in
theorem v_Y_wholeRoot_6 {p : Program} {l : Launch} {e : Env} {s : State} {m : MethodId} {args : Array Value} {below : List Frame} {meth : Method} {c : Code} {N0 : Nat} {D : va_G} {cs : Nat → ClassId} (M : ZC p s m args meth c "YearBaskets" "wholeRoot" b_Y_wholeRoot 7 (some .long) N0 D cs)  {h : Hp} (k6 : Int64 → Int64 → Int32 → Option (Int64)) {r0 : Int64} (hk6 : ∀ (x0 : Int64) (x2 : Int64) (x4 : Int32), k6 x0 x2 x4 = some r0 → ZG p l e (zrm 1 0 0) s m args below meth c N0 D cs (some (.long r0)) h h 7 [(0, .long x0), (2, .long x2), (4, .int x4)] 6 []) (x0 : Int64) (x2 : Int64) (x4 : Int32) (hf : t_Y_wholeRoot_6 k6 x0 x2 x4 = some r0) : ZG p l e (zrm 1 0 0) s m args below meth c N0 D cs (some (.long r0)) h h 7 [(0, .long x0), (2, .long x2), (4, .int x4)] 6 [] := by
  intro H locs ls hH hS hl
  unfold t_Y_wholeRoot_6 at hf
  refine lv_iload M.x M.b d_Y_wholeRoot_6 (lv_at hl 2 rfl) ?_
  refine lv_if_lt (tgt := 38) M.x M.b d_Y_wholeRoot_8 (by decide) (fun c2 => ?_) (fun c2 => ?_)
  · replace hf := z_t c2 hf
    refine lv_lload_n M.x M.b d_Y_wholeRoot_38 rfl (lv_at hl 1 rfl) ?_
    obtain rfl := z_r1 hf
    exact z_lret M hH hS d_Y_wholeRoot_39
  · replace hf := z_f c2 hf
    refine lv_lload_n M.x M.b d_Y_wholeRoot_11 rfl (lv_at hl 1 rfl) ?_
    refine lv_lconst (v := (1 : Int64)) M.x M.b d_Y_wholeRoot_12 rfl ?_
    refine lv_iload M.x M.b d_Y_wholeRoot_13 (lv_at hl 2 rfl) ?_
    refine lv_lshl M.x M.b d_Y_wholeRoot_15 rfl ?_
    refine lv_lor M.x M.b d_Y_wholeRoot_16 ?_
    refine lv_lstore (lv' := [(5, .long (x2 ||| ((1 : Int64) <<< ((x4).toInt64 &&& 63)))), (0, .long x0), (2, .long x2), (4, .int x4)]) M.x M.b d_Y_wholeRoot_17 hl (by decide) rfl (fun ls hl => ?_)
    refine lv_lload M.x M.b d_Y_wholeRoot_19 (lv_at hl 0 rfl) ?_
    refine lv_lload M.x M.b d_Y_wholeRoot_21 (lv_at hl 0 rfl) ?_
    refine lv_lmul M.x M.b d_Y_wholeRoot_23 ?_
    refine lv_lload_n M.x M.b d_Y_wholeRoot_24 rfl (lv_at hl 1 rfl) ?_
    refine z_lcmp_gt (tgt := 32) M d_Y_wholeRoot_25 d_Y_wholeRoot_26 (by decide) (fun c1 => ?_) (fun c1 => ?_)
    · replace hf := z_t c1 hf
      exact w_Y_wholeRoot_32 M k6 hk6 _ _ _ hf H locs ls hH hS (lv_sub hl [1, 2, 3] rfl)
    · replace hf := z_f c1 hf
      refine lv_lload M.x M.b d_Y_wholeRoot_29 (lv_at hl 0 rfl) ?_
      refine lv_lstore_n (lv' := [(2, .long (x2 ||| ((1 : Int64) <<< ((x4).toInt64 &&& 63)))), (5, .long (x2 ||| ((1 : Int64) <<< ((x4).toInt64 &&& 63)))), (0, .long x0), (4, .int x4)]) M.x M.b d_Y_wholeRoot_31 rfl hl (by decide) rfl (fun ls hl => ?_)
      exact w_Y_wholeRoot_32 M k6 hk6 _ _ _ hf H locs ls hH hS (lv_sub hl [2, 0, 3] rfl)
def f_Y_wholeRoot_6  : Nat → Int64 → Int64 → Int32 → Option (Int64)
  | 0, _, _, _ => none
  | n + 1, x0, x2, x4 => t_Y_wholeRoot_6 (f_Y_wholeRoot_6 n) x0 x2 x4
theorem w_Y_wholeRoot_6 {p : Program} {l : Launch} {e : Env} {s : State} {m : MethodId} {args : Array Value} {below : List Frame} {meth : Method} {c : Code} {N0 : Nat} {D : va_G} {cs : Nat → ClassId} (M : ZC p s m args meth c "YearBaskets" "wholeRoot" b_Y_wholeRoot 7 (some .long) N0 D cs)  {h : Hp}  {r0 : Int64}  : ∀ (n : Nat) (x0 : Int64) (x2 : Int64) (x4 : Int32), f_Y_wholeRoot_6 n x0 x2 x4 = some r0 → ZG p l e (zrm 1 0 0) s m args below meth c N0 D cs (some (.long r0)) h h 7 [(0, .long x0), (2, .long x2), (4, .int x4)] 6 [] := by
  intro n
  induction n with
  | zero => intro x0 x2 x4 hf; exact absurd (show none = some _ from hf) (fun q => by cases q)
  | succ n ih => intro x0 x2 x4 hf; exact v_Y_wholeRoot_6 M (f_Y_wholeRoot_6 n)  ih _ _ _ hf
def f_Y_wholeRoot (x0 : Int64) : Option (Int64) :=
  f_Y_wholeRoot_6  FU x0 (0 : Int64) (29 : Int32)
set_option maxRecDepth 100000 in
set_option maxHeartbeats 4000000 in
theorem c_Y_wholeRoot {l : Launch} {N0 : Nat} {D : va_G} {cs : Nat → ClassId} {x0 : Int64} {r0 : Int64} {h : Hp} (hf : f_Y_wholeRoot x0 = some r0) : Fn l N0 D cs y_Y_wholeRoot b_Y_wholeRoot 7 (some .long) 1 0 0 [.long x0] h (some (.long r0)) h := by
  refine z_start (by decide) (Nat.le_of_ble_eq_true rfl) ?_
  intro p e s m args below meth c M hH hS ls hl
  unfold f_Y_wholeRoot at hf
  have hl : lv_has ls 7 [(0, .long x0)] := hl
  obtain ⟨H, hHe⟩ : ∃ H, H = s.heap := ⟨_, rfl⟩
  obtain ⟨locs, hLe⟩ : ∃ locs : List Loc, locs = [] := ⟨_, rfl⟩
  have hS : va_S (zA N0) s.heap H locs := by rw [hHe, hLe]; exact hS
  have hH : HH N0 D cs h H := by rw [hHe]; exact hH
  suffices hg : W p l e (zrm 1 0 0) s m args below meth c H locs 0 0 (MQ below (zQ N0 D cs (some (.long r0)) h) args s 0 0 (zA N0)) (F0 m 0 ls []) by rw [hHe, hLe] at hg; exact hg
  clear hHe hLe
  refine lv_lconst (v := (0 : Int64)) M.x M.b d_Y_wholeRoot_0 rfl ?_
  refine lv_lstore_n (lv' := [(2, .long (0 : Int64)), (0, .long x0)]) M.x M.b d_Y_wholeRoot_1 rfl hl (by decide) rfl (fun ls hl => ?_)
  refine lv_bipush (v := (29 : Int32)) M.x M.b d_Y_wholeRoot_2 rfl ?_
  refine lv_istore (lv' := [(4, .int (29 : Int32)), (2, .long (0 : Int64)), (0, .long x0)]) M.x M.b d_Y_wholeRoot_4 hl (by decide) rfl (fun ls hl => ?_)
  exact w_Y_wholeRoot_6 M  FU _ _ _ hf H locs ls hH hS (lv_sub hl [2, 1, 0] rfl)
