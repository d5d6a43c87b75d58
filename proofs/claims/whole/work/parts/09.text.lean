/-! ===== texts: printed by wip/whole/drive.py out of the bytecode ===== -/
theorem q_8 : (Jvm.Cond.instanceMethod ({ cls := "java/lang/String", name := "coder", desc := "()B" } : Jvm.MethodName)) ∈ zG := zt_2 (List.mem_of_getElem? (i := 144) rfl) rfl
theorem q_9 : (Jvm.Cond.selects "java/lang/String" ({ cls := "java/lang/String", name := "coder", desc := "()B" } : Jvm.MethodName) ({ cls := "java/lang/String", name := "coder", desc := "()B" } : Jvm.MethodName)) ∈ zG := zt_2 (List.mem_of_getElem? (i := 145) rfl) rfl
theorem q_10 : (Jvm.Cond.code ({ cls := "java/lang/String", name := "coder", desc := "()B" } : Jvm.MethodName) prog_13_method_152_code (1 : Nat) (Option.some Jvm.ClassFile.FieldType.byte)) ∈ zG := zt_2 (List.mem_of_getElem? (i := 146) rfl) rfl
theorem q_11 : (Jvm.Cond.initialized "java/lang/String") ∈ zG := zt_1 (List.mem_of_getElem? (i := 11) rfl) rfl
theorem q_12 : (Jvm.Cond.fieldLink "java/lang/String" (38 : Nat) "java/lang/String" "COMPACT_STRINGS" "Z") ∈ zG := zt_2 (List.mem_of_getElem? (i := 147) rfl) rfl
theorem q_13 : (Jvm.Cond.fieldLink "java/lang/String" (15 : Nat) "java/lang/String" "coder" "B") ∈ zG := zt_6 (List.mem_of_getElem? (i := 9) rfl) rfl
theorem q_14 : (Jvm.Cond.instanceMethod ({ cls := "java/lang/String", name := "length", desc := "()I" } : Jvm.MethodName)) ∈ zG := zt_2 (List.mem_of_getElem? (i := 140) rfl) rfl
theorem q_15 : (Jvm.Cond.selects "java/lang/String" ({ cls := "java/lang/String", name := "length", desc := "()I" } : Jvm.MethodName) ({ cls := "java/lang/String", name := "length", desc := "()I" } : Jvm.MethodName)) ∈ zG := zt_2 (List.mem_of_getElem? (i := 141) rfl) rfl
theorem q_16 : (Jvm.Cond.code ({ cls := "java/lang/String", name := "length", desc := "()I" } : Jvm.MethodName) prog_13_method_54_code (1 : Nat) (Option.some Jvm.ClassFile.FieldType.int)) ∈ zG := zt_2 (List.mem_of_getElem? (i := 142) rfl) rfl
theorem q_17 : (Jvm.Cond.methodLink "java/lang/String" (335 : Nat) ({ cls := "java/lang/String", name := "coder", desc := "()B" } : Jvm.MethodName)) ∈ zG := zt_2 (List.mem_of_getElem? (i := 143) rfl) rfl
theorem q_18 : (Jvm.Cond.fieldLink "java/lang/String" (9 : Nat) "java/lang/String" "value" "[B") ∈ zG := zt_6 (List.mem_of_getElem? (i := 8) rfl) rfl
theorem q_19 : (Jvm.Cond.instanceMethod ({ cls := "java/lang/String", name := "isLatin1", desc := "()Z" } : Jvm.MethodName)) ∈ zG := zt_2 (List.mem_of_getElem? (i := 154) rfl) rfl
theorem q_20 : (Jvm.Cond.selects "java/lang/String" ({ cls := "java/lang/String", name := "isLatin1", desc := "()Z" } : Jvm.MethodName) ({ cls := "java/lang/String", name := "isLatin1", desc := "()Z" } : Jvm.MethodName)) ∈ zG := zt_2 (List.mem_of_getElem? (i := 155) rfl) rfl
theorem q_21 : (Jvm.Cond.code ({ cls := "java/lang/String", name := "isLatin1", desc := "()Z" } : Jvm.MethodName) prog_13_method_154_code (1 : Nat) (Option.some Jvm.ClassFile.FieldType.boolean)) ∈ zG := zt_2 (List.mem_of_getElem? (i := 156) rfl) rfl
theorem q_22 : (Jvm.Cond.static ({ cls := "jdk/internal/util/Preconditions", name := "checkIndex", desc := "(IILjava/util/function/BiFunction;)I" } : Jvm.MethodName)) ∈ zG := zt_2 (List.mem_of_getElem? (i := 166) rfl) rfl
theorem q_23 : (Jvm.Cond.code ({ cls := "jdk/internal/util/Preconditions", name := "checkIndex", desc := "(IILjava/util/function/BiFunction;)I" } : Jvm.MethodName) prog_17_method_11_code (3 : Nat) (Option.some Jvm.ClassFile.FieldType.int)) ∈ zG := zt_2 (List.mem_of_getElem? (i := 167) rfl) rfl
theorem q_24 : (Jvm.Cond.initialized "jdk/internal/util/Preconditions") ∈ zG := zt_1 (List.mem_of_getElem? (i := 13) rfl) rfl
theorem q_25 : (Jvm.Cond.static ({ cls := "java/lang/String", name := "checkIndex", desc := "(II)V" } : Jvm.MethodName)) ∈ zG := zt_2 (List.mem_of_getElem? (i := 161) rfl) rfl
theorem q_26 : (Jvm.Cond.code ({ cls := "java/lang/String", name := "checkIndex", desc := "(II)V" } : Jvm.MethodName) prog_13_method_155_code (2 : Nat) (Option.none : Option Jvm.ClassFile.FieldType)) ∈ zG := zt_2 (List.mem_of_getElem? (i := 162) rfl) rfl
theorem q_27 : (Jvm.Cond.methodLink "java/lang/String" (1059 : Nat) ({ cls := "jdk/internal/util/Preconditions", name := "checkIndex", desc := "(IILjava/util/function/BiFunction;)I" } : Jvm.MethodName)) ∈ zG := zt_2 (List.mem_of_getElem? (i := 165) rfl) rfl
theorem q_28 : (Jvm.Cond.fieldLink "java/lang/String" (1053 : Nat) "jdk/internal/util/Preconditions" "SIOOBE_FORMATTER" "Ljava/util/function/BiFunction;") ∈ zG := zt_2 (List.mem_of_getElem? (i := 163) rfl) rfl
theorem q_29 : (Jvm.Cond.static ({ cls := "java/lang/StringLatin1", name := "charAt", desc := "([BI)C" } : Jvm.MethodName)) ∈ zG := zt_2 (List.mem_of_getElem? (i := 158) rfl) rfl
theorem q_30 : (Jvm.Cond.code ({ cls := "java/lang/StringLatin1", name := "charAt", desc := "([BI)C" } : Jvm.MethodName) prog_14_method_2_code (2 : Nat) (Option.some Jvm.ClassFile.FieldType.char)) ∈ zG := zt_2 (List.mem_of_getElem? (i := 159) rfl) rfl
theorem q_31 : (Jvm.Cond.initialized "java/lang/StringLatin1") ∈ zG := zt_1 (List.mem_of_getElem? (i := 12) rfl) rfl
theorem q_32 : (Jvm.Cond.methodLink "java/lang/StringLatin1" (9 : Nat) ({ cls := "java/lang/String", name := "checkIndex", desc := "(II)V" } : Jvm.MethodName)) ∈ zG := zt_2 (List.mem_of_getElem? (i := 160) rfl) rfl
theorem q_33 : (Jvm.Cond.instanceMethod ({ cls := "java/lang/String", name := "charAt", desc := "(I)C" } : Jvm.MethodName)) ∈ zG := zt_2 (List.mem_of_getElem? (i := 150) rfl) rfl
theorem q_34 : (Jvm.Cond.selects "java/lang/String" ({ cls := "java/lang/String", name := "charAt", desc := "(I)C" } : Jvm.MethodName) ({ cls := "java/lang/String", name := "charAt", desc := "(I)C" } : Jvm.MethodName)) ∈ zG := zt_2 (List.mem_of_getElem? (i := 151) rfl) rfl
theorem q_35 : (Jvm.Cond.code ({ cls := "java/lang/String", name := "charAt", desc := "(I)C" } : Jvm.MethodName) prog_13_method_56_code (2 : Nat) (Option.some Jvm.ClassFile.FieldType.char)) ∈ zG := zt_2 (List.mem_of_getElem? (i := 152) rfl) rfl
theorem q_36 : (Jvm.Cond.methodLink "java/lang/String" (495 : Nat) ({ cls := "java/lang/StringLatin1", name := "charAt", desc := "([BI)C" } : Jvm.MethodName)) ∈ zG := zt_2 (List.mem_of_getElem? (i := 157) rfl) rfl
theorem q_37 : (Jvm.Cond.methodLink "java/lang/String" (492 : Nat) ({ cls := "java/lang/String", name := "isLatin1", desc := "()Z" } : Jvm.MethodName)) ∈ zG := zt_2 (List.mem_of_getElem? (i := 153) rfl) rfl
abbrev b_JS_coder : ByteArray := prog_13_method_152_code
abbrev y_JS_coder : MethodName := ⟨"java/lang/String", "coder", "()B"⟩
abbrev b_JS_length : ByteArray := prog_13_method_54_code
abbrev y_JS_length : MethodName := ⟨"java/lang/String", "length", "()I"⟩
abbrev b_JS_isLatin1 : ByteArray := prog_13_method_154_code
abbrev y_JS_isLatin1 : MethodName := ⟨"java/lang/String", "isLatin1", "()Z"⟩
abbrev b_JP_checkIndex : ByteArray := prog_17_method_11_code
abbrev y_JP_checkIndex : MethodName := ⟨"jdk/internal/util/Preconditions", "checkIndex", "(IILjava/util/function/BiFunction;)I"⟩
abbrev b_JS_checkIndex : ByteArray := prog_13_method_155_code
abbrev y_JS_checkIndex : MethodName := ⟨"java/lang/String", "checkIndex", "(II)V"⟩
abbrev b_JL_charAt : ByteArray := prog_14_method_2_code
abbrev y_JL_charAt : MethodName := ⟨"java/lang/StringLatin1", "charAt", "([BI)C"⟩
abbrev b_JS_charAt : ByteArray := prog_13_method_56_code
abbrev y_JS_charAt : MethodName := ⟨"java/lang/String", "charAt", "(I)C"⟩
theorem w_JS_coder : Cond.code y_JS_coder b_JS_coder 1 (some .byte) ∈ zG ∧ (Cond.instanceMethod y_JS_coder ∈ zG ∧ Cond.selects y_JS_coder.cls y_JS_coder y_JS_coder ∈ zG) ∧ Cond.initialized y_JS_coder.cls ∈ zG ∧ zY y_JS_coder 0 := ⟨q_10, ⟨q_8, q_9⟩, q_11, by decide +kernel⟩
theorem w_JS_length : Cond.code y_JS_length b_JS_length 1 (some .int) ∈ zG ∧ (Cond.instanceMethod y_JS_length ∈ zG ∧ Cond.selects y_JS_length.cls y_JS_length y_JS_length ∈ zG) ∧ Cond.initialized y_JS_length.cls ∈ zG ∧ zY y_JS_length 0 := ⟨q_16, ⟨q_14, q_15⟩, q_11, by decide +kernel⟩
theorem w_JS_isLatin1 : Cond.code y_JS_isLatin1 b_JS_isLatin1 1 (some .boolean) ∈ zG ∧ (Cond.instanceMethod y_JS_isLatin1 ∈ zG ∧ Cond.selects y_JS_isLatin1.cls y_JS_isLatin1 y_JS_isLatin1 ∈ zG) ∧ Cond.initialized y_JS_isLatin1.cls ∈ zG ∧ zY y_JS_isLatin1 0 := ⟨q_21, ⟨q_19, q_20⟩, q_11, by decide +kernel⟩
theorem w_JP_checkIndex : Cond.code y_JP_checkIndex b_JP_checkIndex 3 (some .int) ∈ zG ∧ Cond.static y_JP_checkIndex ∈ zG ∧ Cond.initialized y_JP_checkIndex.cls ∈ zG ∧ zY y_JP_checkIndex 3 := ⟨q_23, q_22, q_24, by decide +kernel⟩
theorem w_JS_checkIndex : Cond.code y_JS_checkIndex b_JS_checkIndex 2 (none) ∈ zG ∧ Cond.static y_JS_checkIndex ∈ zG ∧ Cond.initialized y_JS_checkIndex.cls ∈ zG ∧ zY y_JS_checkIndex 2 := ⟨q_26, q_25, q_11, by decide +kernel⟩
theorem w_JL_charAt : Cond.code y_JL_charAt b_JL_charAt 2 (some .char) ∈ zG ∧ Cond.static y_JL_charAt ∈ zG ∧ Cond.initialized y_JL_charAt.cls ∈ zG ∧ zY y_JL_charAt 2 := ⟨q_30, q_29, q_31, by decide +kernel⟩
theorem w_JS_charAt : Cond.code y_JS_charAt b_JS_charAt 2 (some .char) ∈ zG ∧ (Cond.instanceMethod y_JS_charAt ∈ zG ∧ Cond.selects y_JS_charAt.cls y_JS_charAt y_JS_charAt ∈ zG) ∧ Cond.initialized y_JS_charAt.cls ∈ zG ∧ zY y_JS_charAt 1 := ⟨q_35, ⟨q_33, q_34⟩, q_11, by decide +kernel⟩
theorem d_JS_coder_0 : decode b_JS_coder 0 = .ok (.getstatic 38, 3) := by decide +kernel
theorem d_JS_coder_3 : decode b_JS_coder 3 = .ok (.ifCond .eq 10, 3) := by decide +kernel
theorem d_JS_coder_6 : decode b_JS_coder 6 = .ok (.aload_n 0, 1) := by decide +kernel
theorem d_JS_coder_7 : decode b_JS_coder 7 = .ok (.getfield 15, 3) := by decide +kernel
theorem d_JS_coder_10 : decode b_JS_coder 10 = .ok (.goto 4, 3) := by decide +kernel
theorem d_JS_coder_14 : decode b_JS_coder 14 = .ok (.ireturn, 1) := by decide +kernel
theorem d_JS_length_0 : decode b_JS_length 0 = .ok (.aload_n 0, 1) := by decide +kernel
theorem d_JS_length_1 : decode b_JS_length 1 = .ok (.getfield 9, 3) := by decide +kernel
theorem d_JS_length_4 : decode b_JS_length 4 = .ok (.arraylength, 1) := by decide +kernel
theorem d_JS_length_5 : decode b_JS_length 5 = .ok (.aload_n 0, 1) := by decide +kernel
theorem d_JS_length_6 : decode b_JS_length 6 = .ok (.invokevirtual 335, 3) := by decide +kernel
theorem d_JS_length_9 : decode b_JS_length 9 = .ok (.ishr, 1) := by decide +kernel
theorem d_JS_length_10 : decode b_JS_length 10 = .ok (.ireturn, 1) := by decide +kernel
theorem d_JS_isLatin1_0 : decode b_JS_isLatin1 0 = .ok (.getstatic 38, 3) := by decide +kernel
theorem d_JS_isLatin1_3 : decode b_JS_isLatin1 3 = .ok (.ifCond .eq 14, 3) := by decide +kernel
theorem d_JS_isLatin1_6 : decode b_JS_isLatin1 6 = .ok (.aload_n 0, 1) := by decide +kernel
theorem d_JS_isLatin1_7 : decode b_JS_isLatin1 7 = .ok (.getfield 15, 3) := by decide +kernel
theorem d_JS_isLatin1_10 : decode b_JS_isLatin1 10 = .ok (.ifCond .ne 7, 3) := by decide +kernel
theorem d_JS_isLatin1_13 : decode b_JS_isLatin1 13 = .ok (.iconst 1, 1) := by decide +kernel
theorem d_JS_isLatin1_14 : decode b_JS_isLatin1 14 = .ok (.goto 4, 3) := by decide +kernel
theorem d_JS_isLatin1_18 : decode b_JS_isLatin1 18 = .ok (.ireturn, 1) := by decide +kernel
theorem d_JP_checkIndex_0 : decode b_JP_checkIndex 0 = .ok (.iload_n 0, 1) := by decide +kernel
theorem d_JP_checkIndex_1 : decode b_JP_checkIndex 1 = .ok (.ifCond .lt 8, 3) := by decide +kernel
theorem d_JP_checkIndex_4 : decode b_JP_checkIndex 4 = .ok (.iload_n 0, 1) := by decide +kernel
theorem d_JP_checkIndex_5 : decode b_JP_checkIndex 5 = .ok (.iload_n 1, 1) := by decide +kernel
theorem d_JP_checkIndex_6 : decode b_JP_checkIndex 6 = .ok (.if_icmp .lt 10, 3) := by decide +kernel
theorem d_JP_checkIndex_9 : decode b_JP_checkIndex 9 = .ok (.aload_n 2, 1) := by decide +kernel
theorem d_JP_checkIndex_10 : decode b_JP_checkIndex 10 = .ok (.iload_n 0, 1) := by decide +kernel
theorem d_JP_checkIndex_11 : decode b_JP_checkIndex 11 = .ok (.iload_n 1, 1) := by decide +kernel
theorem d_JP_checkIndex_12 : decode b_JP_checkIndex 12 = .ok (.invokestatic 95, 3) := by decide +kernel
theorem d_JP_checkIndex_16 : decode b_JP_checkIndex 16 = .ok (.iload_n 0, 1) := by decide +kernel
theorem d_JP_checkIndex_17 : decode b_JP_checkIndex 17 = .ok (.ireturn, 1) := by decide +kernel
theorem d_JS_checkIndex_0 : decode b_JS_checkIndex 0 = .ok (.iload_n 0, 1) := by decide +kernel
theorem d_JS_checkIndex_1 : decode b_JS_checkIndex 1 = .ok (.iload_n 1, 1) := by decide +kernel
theorem d_JS_checkIndex_2 : decode b_JS_checkIndex 2 = .ok (.getstatic 1053, 3) := by decide +kernel
theorem d_JS_checkIndex_5 : decode b_JS_checkIndex 5 = .ok (.invokestatic 1059, 3) := by decide +kernel
theorem d_JS_checkIndex_8 : decode b_JS_checkIndex 8 = .ok (.pop, 1) := by decide +kernel
theorem d_JS_checkIndex_9 : decode b_JS_checkIndex 9 = .ok (.return_, 1) := by decide +kernel
theorem d_JL_charAt_0 : decode b_JL_charAt 0 = .ok (.iload_n 1, 1) := by decide +kernel
theorem d_JL_charAt_1 : decode b_JL_charAt 1 = .ok (.aload_n 0, 1) := by decide +kernel
theorem d_JL_charAt_2 : decode b_JL_charAt 2 = .ok (.arraylength, 1) := by decide +kernel
theorem d_JL_charAt_3 : decode b_JL_charAt 3 = .ok (.invokestatic 9, 3) := by decide +kernel
theorem d_JL_charAt_6 : decode b_JL_charAt 6 = .ok (.aload_n 0, 1) := by decide +kernel
theorem d_JL_charAt_7 : decode b_JL_charAt 7 = .ok (.iload_n 1, 1) := by decide +kernel
theorem d_JL_charAt_8 : decode b_JL_charAt 8 = .ok (.baload, 1) := by decide +kernel
theorem d_JL_charAt_9 : decode b_JL_charAt 9 = .ok (.sipush 255, 3) := by decide +kernel
theorem d_JL_charAt_12 : decode b_JL_charAt 12 = .ok (.iand, 1) := by decide +kernel
theorem d_JL_charAt_13 : decode b_JL_charAt 13 = .ok (.i2c, 1) := by decide +kernel
theorem d_JL_charAt_14 : decode b_JL_charAt 14 = .ok (.ireturn, 1) := by decide +kernel
theorem d_JS_charAt_0 : decode b_JS_charAt 0 = .ok (.aload_n 0, 1) := by decide +kernel
theorem d_JS_charAt_1 : decode b_JS_charAt 1 = .ok (.invokevirtual 492, 3) := by decide +kernel
theorem d_JS_charAt_4 : decode b_JS_charAt 4 = .ok (.ifCond .eq 12, 3) := by decide +kernel
theorem d_JS_charAt_7 : decode b_JS_charAt 7 = .ok (.aload_n 0, 1) := by decide +kernel
theorem d_JS_charAt_8 : decode b_JS_charAt 8 = .ok (.getfield 9, 3) := by decide +kernel
theorem d_JS_charAt_11 : decode b_JS_charAt 11 = .ok (.iload_n 1, 1) := by decide +kernel
theorem d_JS_charAt_12 : decode b_JS_charAt 12 = .ok (.invokestatic 495, 3) := by decide +kernel
theorem d_JS_charAt_15 : decode b_JS_charAt 15 = .ok (.ireturn, 1) := by decide +kernel
theorem d_JS_charAt_16 : decode b_JS_charAt 16 = .ok (.aload_n 0, 1) := by decide +kernel
theorem d_JS_charAt_17 : decode b_JS_charAt 17 = .ok (.getfield 9, 3) := by decide +kernel
theorem d_JS_charAt_20 : decode b_JS_charAt 20 = .ok (.iload_n 1, 1) := by decide +kernel
theorem d_JS_charAt_21 : decode b_JS_charAt 21 = .ok (.invokestatic 498, 3) := by decide +kernel
def f_JS_coder (x0 : Nat) : Option (Int32) :=
  if x0 < 13 then
    some (0 : Int32)
  else none
set_option maxRecDepth 100000 in
set_option maxHeartbeats 4000000 in
theorem c_JS_coder {l : Launch} {N0 : Nat} {D : va_G} {cs : Nat → ClassId} {x0 : Nat} {r0 : Int32} {h : Hp} (hf : f_JS_coder x0 = some r0) : Fn l N0 D cs y_JS_coder b_JS_coder 1 (some .byte) 1 0 0 [.ref (D.2 100 x0)] h (some (.int r0)) h := by
  refine z_start (by decide) (Nat.le_of_ble_eq_true rfl) ?_
  intro p e s m args below meth c M hH hS ls hl
  unfold f_JS_coder at hf
  have hl : lv_has ls 1 [(0, .ref (D.2 100 x0))] := hl
  obtain ⟨H, hHe⟩ : ∃ H, H = s.heap := ⟨_, rfl⟩
  obtain ⟨locs, hLe⟩ : ∃ locs : List Loc, locs = [] := ⟨_, rfl⟩
  have hS : va_S (zA N0) s.heap H locs := by rw [hHe, hLe]; exact hS
  have hH : HH N0 D cs h H := by rw [hHe]; exact hH
  suffices hg : W p l e (zrm 1 0 0) s m args below meth c H locs 0 0 (MQ below (zQ N0 D cs (some (.int r0)) h) args s 0 0 (zA N0)) (F0 m 0 ls []) by rw [hHe, hLe] at hg; exact hg
  clear hHe hLe
  refine z_gets1 M hS q_12 d_JS_coder_0 ?_
  refine lv_if_eq (tgt := 13) M.x M.b d_JS_coder_3 (by decide) (fun c => absurd c (by decide)) (fun _ => ?_)
  refine lv_aload_n M.x M.b d_JS_coder_6 rfl (lv_at hl 0 rfl) ?_
  replace hf := z_gd hf; obtain ⟨c1, hf⟩ := hf
  refine z_str_coder M hS c1 q_13 d_JS_coder_7 ?_
  refine lv_goto (tgt := 14) M.x M.b d_JS_coder_10 (by decide) ?_
  obtain rfl := z_r1 hf
  exact z_nret M rfl hH hS d_JS_coder_14
def f_JS_length (x0 : Nat) : Option (Int32) :=
  if x0 < 13 then
    if x0 < 13 then
      if x0 < 13 then
        (f_JS_coder x0).bind fun i4 =>
        some ((Int32.ofNat (zsL.getD x0 0)) >>> (i4 &&& 31))
      else none
    else none
  else none
set_option maxRecDepth 100000 in
set_option maxHeartbeats 4000000 in
theorem c_JS_length {l : Launch} {N0 : Nat} {D : va_G} {cs : Nat → ClassId} {x0 : Nat} {r0 : Int32} {h : Hp} (hf : f_JS_length x0 = some r0) : Fn l N0 D cs y_JS_length b_JS_length 1 (some .int) 2 0 0 [.ref (D.2 100 x0)] h (some (.int r0)) h := by
  refine z_start (by decide) (Nat.le_of_ble_eq_true rfl) ?_
  intro p e s m args below meth c M hH hS ls hl
  unfold f_JS_length at hf
  have hl : lv_has ls 1 [(0, .ref (D.2 100 x0))] := hl
  obtain ⟨H, hHe⟩ : ∃ H, H = s.heap := ⟨_, rfl⟩
  obtain ⟨locs, hLe⟩ : ∃ locs : List Loc, locs = [] := ⟨_, rfl⟩
  have hS : va_S (zA N0) s.heap H locs := by rw [hHe, hLe]; exact hS
  have hH : HH N0 D cs h H := by rw [hHe]; exact hH
  suffices hg : W p l e (zrm 2 0 0) s m args below meth c H locs 0 0 (MQ below (zQ N0 D cs (some (.int r0)) h) args s 0 0 (zA N0)) (F0 m 0 ls []) by rw [hHe, hLe] at hg; exact hg
  clear hHe hLe
  refine lv_aload_n M.x M.b d_JS_length_0 rfl (lv_at hl 0 rfl) ?_
  replace hf := z_gd hf; obtain ⟨c1, hf⟩ := hf
  refine z_str_value M hS c1 q_18 d_JS_length_1 ?_
  replace hf := z_gd hf; obtain ⟨c2, hf⟩ := hf
  refine z_strl M hS c2 d_JS_length_4 ?_
  refine lv_aload_n M.x M.b d_JS_length_5 rfl (lv_at hl 0 rfl) ?_
  replace hf := z_gd hf; obtain ⟨c5, hf⟩ := hf; replace hf := z_bind hf; obtain ⟨i4, e3, hf⟩ := hf
  refine zk_VS (st1 := [.int i4, .int (Int32.ofNat (zsL.getD x0 0))]) M hH hS c5 (c_JS_coder e3) w_JS_coder q_17 [.int (Int32.ofNat (zsL.getD x0 0))] rfl ⟨Nat.le_of_ble_eq_true rfl, Nat.le_of_ble_eq_true rfl⟩ hl.1 rfl rfl (Nat.le_of_ble_eq_true rfl) d_JS_length_6 (fun H locs hH hS => ?_)
  refine lv_ishr M.x M.b d_JS_length_9 ?_
  obtain rfl := z_r1 hf
  exact z_iret M hH hS d_JS_length_10
def f_JS_isLatin1 (x0 : Nat) : Option (Int32) :=
  if x0 < 13 then
    some (1 : Int32)
  else none
set_option maxRecDepth 100000 in
set_option maxHeartbeats 4000000 in
theorem c_JS_isLatin1 {l : Launch} {N0 : Nat} {D : va_G} {cs : Nat → ClassId} {x0 : Nat} {r0 : Int32} {h : Hp} (hf : f_JS_isLatin1 x0 = some r0) : Fn l N0 D cs y_JS_isLatin1 b_JS_isLatin1 1 (some .boolean) 1 0 0 [.ref (D.2 100 x0)] h (some (.int r0)) h := by
  refine z_start (by decide) (Nat.le_of_ble_eq_true rfl) ?_
  intro p e s m args below meth c M hH hS ls hl
  unfold f_JS_isLatin1 at hf
  have hl : lv_has ls 1 [(0, .ref (D.2 100 x0))] := hl
  obtain ⟨H, hHe⟩ : ∃ H, H = s.heap := ⟨_, rfl⟩
  obtain ⟨locs, hLe⟩ : ∃ locs : List Loc, locs = [] := ⟨_, rfl⟩
  have hS : va_S (zA N0) s.heap H locs := by rw [hHe, hLe]; exact hS
  have hH : HH N0 D cs h H := by rw [hHe]; exact hH
  suffices hg : W p l e (zrm 1 0 0) s m args below meth c H locs 0 0 (MQ below (zQ N0 D cs (some (.int r0)) h) args s 0 0 (zA N0)) (F0 m 0 ls []) by rw [hHe, hLe] at hg; exact hg
  clear hHe hLe
  refine z_gets1 M hS q_12 d_JS_isLatin1_0 ?_
  refine lv_if_eq (tgt := 17) M.x M.b d_JS_isLatin1_3 (by decide) (fun c => absurd c (by decide)) (fun _ => ?_)
  refine lv_aload_n M.x M.b d_JS_isLatin1_6 rfl (lv_at hl 0 rfl) ?_
  replace hf := z_gd hf; obtain ⟨c1, hf⟩ := hf
  refine z_str_coder M hS c1 q_13 d_JS_isLatin1_7 ?_
  refine lv_if_ne (tgt := 17) M.x M.b d_JS_isLatin1_10 (by decide) (fun c => absurd c (by decide)) (fun _ => ?_)
  refine lv_iconst (v := (1 : Int32)) M.x M.b d_JS_isLatin1_13 rfl ?_
  refine lv_goto (tgt := 18) M.x M.b d_JS_isLatin1_14 (by decide) ?_
  obtain rfl := z_r1 hf
  exact z_zret M hH hS (by decide) d_JS_isLatin1_18
def f_JP_checkIndex (x0 : Int32) (x1 : Int32) : Option (Int32) :=
  if x0 < 0 then
    none
  else
  if x0 < x1 then
    some x0
  else
  none
set_option maxRecDepth 100000 in
set_option maxHeartbeats 4000000 in
theorem c_JP_checkIndex_n {l : Launch} {N0 : Nat} {D : va_G} {cs : Nat → ClassId} {x0 : Int32} {x1 : Int32} {r0 : Int32} {h : Hp} (hf : f_JP_checkIndex x0 x1 = some r0) : Fn l N0 D cs y_JP_checkIndex b_JP_checkIndex 3 (some .int) 1 0 0 [.int x0, .int x1, .null] h (some (.int r0)) h := by
  refine z_start (by decide) (Nat.le_of_ble_eq_true rfl) ?_
  intro p e s m args below meth c M hH hS ls hl
  unfold f_JP_checkIndex at hf
  have hl : lv_has ls 3 [(0, .int x0), (1, .int x1), (2, .null)] := hl
  obtain ⟨H, hHe⟩ : ∃ H, H = s.heap := ⟨_, rfl⟩
  obtain ⟨locs, hLe⟩ : ∃ locs : List Loc, locs = [] := ⟨_, rfl⟩
  have hS : va_S (zA N0) s.heap H locs := by rw [hHe, hLe]; exact hS
  have hH : HH N0 D cs h H := by rw [hHe]; exact hH
  suffices hg : W p l e (zrm 1 0 0) s m args below meth c H locs 0 0 (MQ below (zQ N0 D cs (some (.int r0)) h) args s 0 0 (zA N0)) (F0 m 0 ls []) by rw [hHe, hLe] at hg; exact hg
  clear hHe hLe
  refine lv_iload_n M.x M.b d_JP_checkIndex_0 rfl (lv_at hl 0 rfl) ?_
  refine lv_if_lt (tgt := 9) M.x M.b d_JP_checkIndex_1 (by decide) (fun c2 => ?_) (fun c2 => ?_)
  · replace hf := z_t c2 hf
    refine lv_aload_nN M.x M.b d_JP_checkIndex_9 rfl (lv_at hl 2 rfl) ?_
    refine lv_iload_n M.x M.b d_JP_checkIndex_10 rfl (lv_at hl 0 rfl) ?_
    refine lv_iload_n M.x M.b d_JP_checkIndex_11 rfl (lv_at hl 1 rfl) ?_
    cases hf
  · replace hf := z_f c2 hf
    refine lv_iload_n M.x M.b d_JP_checkIndex_4 rfl (lv_at hl 0 rfl) ?_
    refine lv_iload_n M.x M.b d_JP_checkIndex_5 rfl (lv_at hl 1 rfl) ?_
    refine lv_icmp_lt (tgt := 16) M.x M.b d_JP_checkIndex_6 (by decide) (fun c1 => ?_) (fun c1 => ?_)
    · replace hf := z_t c1 hf
      refine lv_iload_n M.x M.b d_JP_checkIndex_16 rfl (lv_at hl 0 rfl) ?_
      obtain rfl := z_r1 hf
      exact z_iret M hH hS d_JP_checkIndex_17
    · replace hf := z_f c1 hf
      refine lv_aload_nN M.x M.b d_JP_checkIndex_9 rfl (lv_at hl 2 rfl) ?_
      refine lv_iload_n M.x M.b d_JP_checkIndex_10 rfl (lv_at hl 0 rfl) ?_
      refine lv_iload_n M.x M.b d_JP_checkIndex_11 rfl (lv_at hl 1 rfl) ?_
      cases hf
set_option maxRecDepth 100000 in
set_option maxHeartbeats 4000000 in
theorem c_JP_checkIndex_r {l : Launch} {N0 : Nat} {D : va_G} {cs : Nat → ClassId} {x0 : Int32} {x1 : Int32} {r0 : Int32} {h : Hp} {aF : Nat} (hf : f_JP_checkIndex x0 x1 = some r0) : Fn l N0 D cs y_JP_checkIndex b_JP_checkIndex 3 (some .int) 1 0 0 [.int x0, .int x1, .ref aF] h (some (.int r0)) h := by
  refine z_start (by decide) (Nat.le_of_ble_eq_true rfl) ?_
  intro p e s m args below meth c M hH hS ls hl
  unfold f_JP_checkIndex at hf
  have hl : lv_has ls 3 [(0, .int x0), (1, .int x1), (2, .ref aF)] := hl
  obtain ⟨H, hHe⟩ : ∃ H, H = s.heap := ⟨_, rfl⟩
  obtain ⟨locs, hLe⟩ : ∃ locs : List Loc, locs = [] := ⟨_, rfl⟩
  have hS : va_S (zA N0) s.heap H locs := by rw [hHe, hLe]; exact hS
  have hH : HH N0 D cs h H := by rw [hHe]; exact hH
  suffices hg : W p l e (zrm 1 0 0) s m args below meth c H locs 0 0 (MQ below (zQ N0 D cs (some (.int r0)) h) args s 0 0 (zA N0)) (F0 m 0 ls []) by rw [hHe, hLe] at hg; exact hg
  clear hHe hLe
  refine lv_iload_n M.x M.b d_JP_checkIndex_0 rfl (lv_at hl 0 rfl) ?_
  refine lv_if_lt (tgt := 9) M.x M.b d_JP_checkIndex_1 (by decide) (fun c2 => ?_) (fun c2 => ?_)
  · replace hf := z_t c2 hf
    refine lv_aload_n M.x M.b d_JP_checkIndex_9 rfl (lv_at hl 2 rfl) ?_
    refine lv_iload_n M.x M.b d_JP_checkIndex_10 rfl (lv_at hl 0 rfl) ?_
    refine lv_iload_n M.x M.b d_JP_checkIndex_11 rfl (lv_at hl 1 rfl) ?_
    cases hf
  · replace hf := z_f c2 hf
    refine lv_iload_n M.x M.b d_JP_checkIndex_4 rfl (lv_at hl 0 rfl) ?_
    refine lv_iload_n M.x M.b d_JP_checkIndex_5 rfl (lv_at hl 1 rfl) ?_
    refine lv_icmp_lt (tgt := 16) M.x M.b d_JP_checkIndex_6 (by decide) (fun c1 => ?_) (fun c1 => ?_)
    · replace hf := z_t c1 hf
      refine lv_iload_n M.x M.b d_JP_checkIndex_16 rfl (lv_at hl 0 rfl) ?_
      obtain rfl := z_r1 hf
      exact z_iret M hH hS d_JP_checkIndex_17
    · replace hf := z_f c1 hf
      refine lv_aload_n M.x M.b d_JP_checkIndex_9 rfl (lv_at hl 2 rfl) ?_
      refine lv_iload_n M.x M.b d_JP_checkIndex_10 rfl (lv_at hl 0 rfl) ?_
      refine lv_iload_n M.x M.b d_JP_checkIndex_11 rfl (lv_at hl 1 rfl) ?_
      cases hf
def f_JS_checkIndex (x0 : Int32) (x1 : Int32) : Option (Unit) :=
  (f_JP_checkIndex x0 x1).bind fun i4 =>
  some ()
set_option maxRecDepth 100000 in
set_option maxHeartbeats 4000000 in
theorem c_JS_checkIndex {l : Launch} {N0 : Nat} {D : va_G} {cs : Nat → ClassId} {x0 : Int32} {x1 : Int32} {h : Hp} (hf : f_JS_checkIndex x0 x1 = some ()) : Fn l N0 D cs y_JS_checkIndex b_JS_checkIndex 2 (none) 2 0 0 [.int x0, .int x1] h none h := by
  refine z_start (by decide) (Nat.le_of_ble_eq_true rfl) ?_
  intro p e s m args below meth c M hH hS ls hl
  unfold f_JS_checkIndex at hf
  have hl : lv_has ls 2 [(0, .int x0), (1, .int x1)] := hl
  obtain ⟨H, hHe⟩ : ∃ H, H = s.heap := ⟨_, rfl⟩
  obtain ⟨locs, hLe⟩ : ∃ locs : List Loc, locs = [] := ⟨_, rfl⟩
  have hS : va_S (zA N0) s.heap H locs := by rw [hHe, hLe]; exact hS
  have hH : HH N0 D cs h H := by rw [hHe]; exact hH
  suffices hg : W p l e (zrm 2 0 0) s m args below meth c H locs 0 0 (MQ below (zQ N0 D cs none h) args s 0 0 (zA N0)) (F0 m 0 ls []) by rw [hHe, hLe] at hg; exact hg
  clear hHe hLe
  refine lv_iload_n M.x M.b d_JS_checkIndex_0 rfl (lv_at hl 0 rfl) ?_
  refine lv_iload_n M.x M.b d_JS_checkIndex_1 rfl (lv_at hl 1 rfl) ?_
  rcases hz1 : zfo D with _ | a2
  · refine z_gets2n M hS hz1 q_28 d_JS_checkIndex_2 ?_
    replace hf := z_bind hf; obtain ⟨i4, e3, hf⟩ := hf
    refine zk_S (st1 := [.int i4]) M hH hS (c_JP_checkIndex_n e3) w_JP_checkIndex q_27 [] rfl ⟨Nat.le_of_ble_eq_true rfl, Nat.le_of_ble_eq_true rfl⟩ hl.1 rfl rfl (Nat.le_of_ble_eq_true rfl) d_JS_checkIndex_5 (fun H locs hH hS => ?_)
    refine lv_pop M.x M.b d_JS_checkIndex_8 rfl ?_
    exact z_vret M hH hS d_JS_checkIndex_9
  · refine z_gets2r M hS hz1 q_28 d_JS_checkIndex_2 ?_
    replace hf := z_bind hf; obtain ⟨i4, e3, hf⟩ := hf
    refine zk_S (st1 := [.int i4]) M hH hS (c_JP_checkIndex_r e3) w_JP_checkIndex q_27 [] rfl ⟨Nat.le_of_ble_eq_true rfl, Nat.le_of_ble_eq_true rfl⟩ hl.1 rfl rfl (Nat.le_of_ble_eq_true rfl) d_JS_checkIndex_5 (fun H locs hH hS => ?_)
    refine lv_pop M.x M.b d_JS_checkIndex_8 rfl ?_
    exact z_vret M hH hS d_JS_checkIndex_9
def f_JL_charAt (x0 : Nat) (x1 : Int32) : Option (Int32) :=
  if x0 < 13 then
    (f_JS_checkIndex x1 (Int32.ofNat (zsL.getD x0 0))).bind fun _ =>
    if x0 < 13 ∧ ¬ (x1 < 0 ∨ zsL.getD x0 0 ≤ (x1).toNatClampNeg) then
      if vp_nar .char (((((zsB.getD x0 []).getD (x1).toNatClampNeg 0) &&& (255 : Int32))).toUInt32 % 65536).toInt32 = (((((zsB.getD x0 []).getD (x1).toNatClampNeg 0) &&& (255 : Int32))).toUInt32 % 65536).toInt32 then
        some (((((zsB.getD x0 []).getD (x1).toNatClampNeg 0) &&& (255 : Int32))).toUInt32 % 65536).toInt32
      else none
    else none
  else none
set_option maxRecDepth 100000 in
set_option maxHeartbeats 4000000 in
theorem c_JL_charAt {l : Launch} {N0 : Nat} {D : va_G} {cs : Nat → ClassId} {x0 : Nat} {x1 : Int32} {r0 : Int32} {h : Hp} (hf : f_JL_charAt x0 x1 = some r0) : Fn l N0 D cs y_JL_charAt b_JL_charAt 2 (some .char) 3 0 0 [.ref (D.2 101 x0), .int x1] h (some (.int r0)) h := by
  refine z_start (by decide) (Nat.le_of_ble_eq_true rfl) ?_
  intro p e s m args below meth c M hH hS ls hl
  unfold f_JL_charAt at hf
  have hl : lv_has ls 2 [(0, .ref (D.2 101 x0)), (1, .int x1)] := hl
  obtain ⟨H, hHe⟩ : ∃ H, H = s.heap := ⟨_, rfl⟩
  obtain ⟨locs, hLe⟩ : ∃ locs : List Loc, locs = [] := ⟨_, rfl⟩
  have hS : va_S (zA N0) s.heap H locs := by rw [hHe, hLe]; exact hS
  have hH : HH N0 D cs h H := by rw [hHe]; exact hH
  suffices hg : W p l e (zrm 3 0 0) s m args below meth c H locs 0 0 (MQ below (zQ N0 D cs (some (.int r0)) h) args s 0 0 (zA N0)) (F0 m 0 ls []) by rw [hHe, hLe] at hg; exact hg
  clear hHe hLe
  refine lv_iload_n M.x M.b d_JL_charAt_0 rfl (lv_at hl 1 rfl) ?_
  refine lv_aload_n M.x M.b d_JL_charAt_1 rfl (lv_at hl 0 rfl) ?_
  replace hf := z_gd hf; obtain ⟨c1, hf⟩ := hf
  refine z_strl M hS c1 d_JL_charAt_2 ?_
  replace hf := z_bind hf; obtain ⟨_, e2, hf⟩ := hf
  refine zk_S (st1 := []) M hH hS (c_JS_checkIndex e2) w_JS_checkIndex q_32 [] rfl ⟨Nat.le_of_ble_eq_true rfl, Nat.le_of_ble_eq_true rfl⟩ hl.1 rfl rfl (Nat.le_of_ble_eq_true rfl) d_JL_charAt_3 (fun H locs hH hS => ?_)
  refine lv_aload_n M.x M.b d_JL_charAt_6 rfl (lv_at hl 0 rfl) ?_
  refine lv_iload_n M.x M.b d_JL_charAt_7 rfl (lv_at hl 1 rfl) ?_
  replace hf := z_gd hf; obtain ⟨c3, hf⟩ := hf
  refine z_strb M hS c3 d_JL_charAt_8 ?_
  refine lv_sipush (v := (255 : Int32)) M.x M.b d_JL_charAt_9 rfl ?_
  refine lv_iand M.x M.b d_JL_charAt_12 ?_
  refine lv_i2c M.x M.b d_JL_charAt_13 rfl ?_
  replace hf := z_gd hf; obtain ⟨e4, hf⟩ := hf
  obtain rfl := z_r1 hf
  exact z_nret M (z_nC e4) hH hS d_JL_charAt_14
def f_JS_charAt (x0 : Nat) (x1 : Int32) : Option (Int32) :=
  if x0 < 13 then
    (f_JS_isLatin1 x0).bind fun i2 =>
    if i2 = 0 then
      if x0 < 13 then
        none
      else none
    else
    if x0 < 13 then
      (f_JL_charAt x0 x1).bind fun i6 =>
      if vp_nar .char i6 = i6 then
        some i6
      else none
    else none
  else none
set_option maxRecDepth 100000 in
set_option maxHeartbeats 4000000 in
theorem c_JS_charAt {l : Launch} {N0 : Nat} {D : va_G} {cs : Nat → ClassId} {x0 : Nat} {x1 : Int32} {r0 : Int32} {h : Hp} (hf : f_JS_charAt x0 x1 = some r0) : Fn l N0 D cs y_JS_charAt b_JS_charAt 2 (some .char) 4 0 0 [.ref (D.2 100 x0), .int x1] h (some (.int r0)) h := by
  refine z_start (by decide) (Nat.le_of_ble_eq_true rfl) ?_
  intro p e s m args below meth c M hH hS ls hl
  unfold f_JS_charAt at hf
  have hl : lv_has ls 2 [(0, .ref (D.2 100 x0)), (1, .int x1)] := hl
  obtain ⟨H, hHe⟩ : ∃ H, H = s.heap := ⟨_, rfl⟩
  obtain ⟨locs, hLe⟩ : ∃ locs : List Loc, locs = [] := ⟨_, rfl⟩
  have hS : va_S (zA N0) s.heap H locs := by rw [hHe, hLe]; exact hS
  have hH : HH N0 D cs h H := by rw [hHe]; exact hH
  suffices hg : W p l e (zrm 4 0 0) s m args below meth c H locs 0 0 (MQ below (zQ N0 D cs (some (.int r0)) h) args s 0 0 (zA N0)) (F0 m 0 ls []) by rw [hHe, hLe] at hg; exact hg
  clear hHe hLe
  refine lv_aload_n M.x M.b d_JS_charAt_0 rfl (lv_at hl 0 rfl) ?_
  replace hf := z_gd hf; obtain ⟨c10, hf⟩ := hf; replace hf := z_bind hf; obtain ⟨i2, e1, hf⟩ := hf
  refine zk_VS (st1 := [.int i2]) M hH hS c10 (c_JS_isLatin1 e1) w_JS_isLatin1 q_37 [] rfl ⟨Nat.le_of_ble_eq_true rfl, Nat.le_of_ble_eq_true rfl⟩ hl.1 rfl rfl (Nat.le_of_ble_eq_true rfl) d_JS_charAt_1 (fun H locs hH hS => ?_)
  refine lv_if_eq (tgt := 16) M.x M.b d_JS_charAt_4 (by decide) (fun c9 => ?_) (fun c9 => ?_)
  · replace hf := z_t c9 hf
    refine lv_aload_n M.x M.b d_JS_charAt_16 rfl (lv_at hl 0 rfl) ?_
    replace hf := z_gd hf; obtain ⟨c3, hf⟩ := hf
    refine z_str_value M hS c3 q_18 d_JS_charAt_17 ?_
    refine lv_iload_n M.x M.b d_JS_charAt_20 rfl (lv_at hl 1 rfl) ?_
    cases hf
  · replace hf := z_f c9 hf
    refine lv_aload_n M.x M.b d_JS_charAt_7 rfl (lv_at hl 0 rfl) ?_
    replace hf := z_gd hf; obtain ⟨c4, hf⟩ := hf
    refine z_str_value M hS c4 q_18 d_JS_charAt_8 ?_
    refine lv_iload_n M.x M.b d_JS_charAt_11 rfl (lv_at hl 1 rfl) ?_
    replace hf := z_bind hf; obtain ⟨i6, e5, hf⟩ := hf
    refine zk_S (st1 := [.int i6]) M hH hS (c_JL_charAt e5) w_JL_charAt q_36 [] rfl ⟨Nat.le_of_ble_eq_true rfl, Nat.le_of_ble_eq_true rfl⟩ hl.1 rfl rfl (Nat.le_of_ble_eq_true rfl) d_JS_charAt_12 (fun H locs hH hS => ?_)
    replace hf := z_gd hf; obtain ⟨e7, hf⟩ := hf
    obtain rfl := z_r1 hf
    exact z_nret M (z_nC e7) hH hS d_JS_charAt_15
