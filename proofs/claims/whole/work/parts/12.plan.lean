/-! ===== Plan: printed by wip/whole/drive.py out of the bytecode ===== -/
theorem q_133 : (Jvm.Cond.instanceMethod ({ cls := "YearBaskets$Plan", name := "add", desc := "(I)I" } : Jvm.MethodName)) ∈ zG := zt_2 (List.mem_of_getElem? (i := 192) rfl) rfl
theorem q_134 : (Jvm.Cond.selects "YearBaskets$Plan" ({ cls := "YearBaskets$Plan", name := "add", desc := "(I)I" } : Jvm.MethodName) ({ cls := "YearBaskets$Plan", name := "add", desc := "(I)I" } : Jvm.MethodName)) ∈ zG := zt_2 (List.mem_of_getElem? (i := 193) rfl) rfl
theorem q_135 : (Jvm.Cond.code ({ cls := "YearBaskets$Plan", name := "add", desc := "(I)I" } : Jvm.MethodName) prog_6_method_2_code (2 : Nat) (Option.some Jvm.ClassFile.FieldType.int)) ∈ zG := zt_2 (List.mem_of_getElem? (i := 194) rfl) rfl
theorem q_136 : (Jvm.Cond.initialized "YearBaskets$Plan") ∈ zG := zt_1 (List.mem_of_getElem? (i := 3) rfl) rfl
theorem q_137 : (Jvm.Cond.fieldLink "YearBaskets$Plan" (18 : Nat) "YearBaskets$Plan" "size" "I") ∈ zG := zt_1 (List.mem_of_getElem? (i := 48) rfl) rfl
theorem q_138 : (Jvm.Cond.fieldLink "YearBaskets$Plan" (15 : Nat) "YearBaskets$Plan" "marks" "[I") ∈ zG := zt_1 (List.mem_of_getElem? (i := 47) rfl) rfl
theorem q_139 : (Jvm.Cond.fieldLink "YearBaskets$Plan" (11 : Nat) "YearBaskets$Plan" "words" "[I") ∈ zG := zt_1 (List.mem_of_getElem? (i := 46) rfl) rfl
theorem q_140 : (Jvm.Cond.instanceMethod ({ cls := "YearBaskets$Plan", name := "mark", desc := "(II)V" } : Jvm.MethodName)) ∈ zG := zt_2 (List.mem_of_getElem? (i := 201) rfl) rfl
theorem q_141 : (Jvm.Cond.selects "YearBaskets$Plan" ({ cls := "YearBaskets$Plan", name := "mark", desc := "(II)V" } : Jvm.MethodName) ({ cls := "YearBaskets$Plan", name := "mark", desc := "(II)V" } : Jvm.MethodName)) ∈ zG := zt_2 (List.mem_of_getElem? (i := 202) rfl) rfl
theorem q_142 : (Jvm.Cond.code ({ cls := "YearBaskets$Plan", name := "mark", desc := "(II)V" } : Jvm.MethodName) prog_6_method_3_code (3 : Nat) (Option.none : Option Jvm.ClassFile.FieldType)) ∈ zG := zt_2 (List.mem_of_getElem? (i := 203) rfl) rfl
theorem q_143 : (Jvm.Cond.instanceMethod ({ cls := "YearBaskets$Plan", name := "wordAt", desc := "(I)I" } : Jvm.MethodName)) ∈ zG := zt_3 (List.mem_of_getElem? (i := 9) rfl) rfl
theorem q_144 : (Jvm.Cond.selects "YearBaskets$Plan" ({ cls := "YearBaskets$Plan", name := "wordAt", desc := "(I)I" } : Jvm.MethodName) ({ cls := "YearBaskets$Plan", name := "wordAt", desc := "(I)I" } : Jvm.MethodName)) ∈ zG := zt_3 (List.mem_of_getElem? (i := 10) rfl) rfl
theorem q_145 : (Jvm.Cond.code ({ cls := "YearBaskets$Plan", name := "wordAt", desc := "(I)I" } : Jvm.MethodName) prog_6_method_4_code (2 : Nat) (Option.some Jvm.ClassFile.FieldType.int)) ∈ zG := zt_3 (List.mem_of_getElem? (i := 11) rfl) rfl
theorem q_146 : (Jvm.Cond.instanceMethod ({ cls := "YearBaskets$Plan", name := "markAt", desc := "(I)I" } : Jvm.MethodName)) ∈ zG := zt_3 (List.mem_of_getElem? (i := 42) rfl) rfl
theorem q_147 : (Jvm.Cond.selects "YearBaskets$Plan" ({ cls := "YearBaskets$Plan", name := "markAt", desc := "(I)I" } : Jvm.MethodName) ({ cls := "YearBaskets$Plan", name := "markAt", desc := "(I)I" } : Jvm.MethodName)) ∈ zG := zt_3 (List.mem_of_getElem? (i := 43) rfl) rfl
theorem q_148 : (Jvm.Cond.code ({ cls := "YearBaskets$Plan", name := "markAt", desc := "(I)I" } : Jvm.MethodName) prog_6_method_5_code (2 : Nat) (Option.some Jvm.ClassFile.FieldType.int)) ∈ zG := zt_3 (List.mem_of_getElem? (i := 44) rfl) rfl
abbrev b_P_add : ByteArray := prog_6_method_2_code
abbrev y_P_add : MethodName := ⟨"YearBaskets$Plan", "add", "(I)I"⟩
abbrev b_P_mark : ByteArray := prog_6_method_3_code
abbrev y_P_mark : MethodName := ⟨"YearBaskets$Plan", "mark", "(II)V"⟩
abbrev b_P_wordAt : ByteArray := prog_6_method_4_code
abbrev y_P_wordAt : MethodName := ⟨"YearBaskets$Plan", "wordAt", "(I)I"⟩
abbrev b_P_markAt : ByteArray := prog_6_method_5_code
abbrev y_P_markAt : MethodName := ⟨"YearBaskets$Plan", "markAt", "(I)I"⟩
theorem w_P_add : Cond.code y_P_add b_P_add 2 (some .int) ∈ zG ∧ (Cond.instanceMethod y_P_add ∈ zG ∧ Cond.selects y_P_add.cls y_P_add y_P_add ∈ zG) ∧ Cond.initialized y_P_add.cls ∈ zG ∧ zY y_P_add 1 := ⟨q_135, ⟨q_133, q_134⟩, q_136, by decide +kernel⟩
theorem w_P_mark : Cond.code y_P_mark b_P_mark 3 (none) ∈ zG ∧ (Cond.instanceMethod y_P_mark ∈ zG ∧ Cond.selects y_P_mark.cls y_P_mark y_P_mark ∈ zG) ∧ Cond.initialized y_P_mark.cls ∈ zG ∧ zY y_P_mark 2 := ⟨q_142, ⟨q_140, q_141⟩, q_136, by decide +kernel⟩
theorem w_P_wordAt : Cond.code y_P_wordAt b_P_wordAt 2 (some .int) ∈ zG ∧ (Cond.instanceMethod y_P_wordAt ∈ zG ∧ Cond.selects y_P_wordAt.cls y_P_wordAt y_P_wordAt ∈ zG) ∧ Cond.initialized y_P_wordAt.cls ∈ zG ∧ zY y_P_wordAt 1 := ⟨q_145, ⟨q_143, q_144⟩, q_136, by decide +kernel⟩
theorem w_P_markAt : Cond.code y_P_markAt b_P_markAt 2 (some .int) ∈ zG ∧ (Cond.instanceMethod y_P_markAt ∈ zG ∧ Cond.selects y_P_markAt.cls y_P_markAt y_P_markAt ∈ zG) ∧ Cond.initialized y_P_markAt.cls ∈ zG ∧ zY y_P_markAt 1 := ⟨q_148, ⟨q_146, q_147⟩, q_136, by decide +kernel⟩
theorem d_P_add_0 : decode b_P_add 0 = .ok (.aload_n 0, 1) := by decide +kernel
theorem d_P_add_1 : decode b_P_add 1 = .ok (.getfield 18, 3) := by decide +kernel
theorem d_P_add_4 : decode b_P_add 4 = .ok (.ifCond .lt 12, 3) := by decide +kernel
theorem d_P_add_7 : decode b_P_add 7 = .ok (.aload_n 0, 1) := by decide +kernel
theorem d_P_add_8 : decode b_P_add 8 = .ok (.getfield 18, 3) := by decide +kernel
theorem d_P_add_11 : decode b_P_add 11 = .ok (.bipush 20, 2) := by decide +kernel
theorem d_P_add_13 : decode b_P_add 13 = .ok (.if_icmp .lt 5, 3) := by decide +kernel
theorem d_P_add_16 : decode b_P_add 16 = .ok (.iconst (-1), 1) := by decide +kernel
theorem d_P_add_17 : decode b_P_add 17 = .ok (.ireturn, 1) := by decide +kernel
theorem d_P_add_18 : decode b_P_add 18 = .ok (.aload_n 0, 1) := by decide +kernel
theorem d_P_add_19 : decode b_P_add 19 = .ok (.getfield 11, 3) := by decide +kernel
theorem d_P_add_22 : decode b_P_add 22 = .ok (.aload_n 0, 1) := by decide +kernel
theorem d_P_add_23 : decode b_P_add 23 = .ok (.getfield 18, 3) := by decide +kernel
theorem d_P_add_26 : decode b_P_add 26 = .ok (.iload_n 1, 1) := by decide +kernel
theorem d_P_add_27 : decode b_P_add 27 = .ok (.iastore, 1) := by decide +kernel
theorem d_P_add_28 : decode b_P_add 28 = .ok (.aload_n 0, 1) := by decide +kernel
theorem d_P_add_29 : decode b_P_add 29 = .ok (.getfield 15, 3) := by decide +kernel
theorem d_P_add_32 : decode b_P_add 32 = .ok (.aload_n 0, 1) := by decide +kernel
theorem d_P_add_33 : decode b_P_add 33 = .ok (.getfield 18, 3) := by decide +kernel
theorem d_P_add_36 : decode b_P_add 36 = .ok (.iconst (-1), 1) := by decide +kernel
theorem d_P_add_37 : decode b_P_add 37 = .ok (.iastore, 1) := by decide +kernel
theorem d_P_add_38 : decode b_P_add 38 = .ok (.aload_n 0, 1) := by decide +kernel
theorem d_P_add_39 : decode b_P_add 39 = .ok (.dup, 1) := by decide +kernel
theorem d_P_add_40 : decode b_P_add 40 = .ok (.getfield 18, 3) := by decide +kernel
theorem d_P_add_43 : decode b_P_add 43 = .ok (.iconst 1, 1) := by decide +kernel
theorem d_P_add_44 : decode b_P_add 44 = .ok (.iadd, 1) := by decide +kernel
theorem d_P_add_45 : decode b_P_add 45 = .ok (.putfield 18, 3) := by decide +kernel
theorem d_P_add_48 : decode b_P_add 48 = .ok (.aload_n 0, 1) := by decide +kernel
theorem d_P_add_49 : decode b_P_add 49 = .ok (.getfield 18, 3) := by decide +kernel
theorem d_P_add_52 : decode b_P_add 52 = .ok (.iconst 1, 1) := by decide +kernel
theorem d_P_add_53 : decode b_P_add 53 = .ok (.isub, 1) := by decide +kernel
theorem d_P_add_54 : decode b_P_add 54 = .ok (.ireturn, 1) := by decide +kernel
theorem d_P_mark_0 : decode b_P_mark 0 = .ok (.iload_n 1, 1) := by decide +kernel
theorem d_P_mark_1 : decode b_P_mark 1 = .ok (.ifCond .lt 16, 3) := by decide +kernel
theorem d_P_mark_4 : decode b_P_mark 4 = .ok (.iload_n 1, 1) := by decide +kernel
theorem d_P_mark_5 : decode b_P_mark 5 = .ok (.bipush 20, 2) := by decide +kernel
theorem d_P_mark_7 : decode b_P_mark 7 = .ok (.if_icmp .ge 10, 3) := by decide +kernel
theorem d_P_mark_10 : decode b_P_mark 10 = .ok (.aload_n 0, 1) := by decide +kernel
theorem d_P_mark_11 : decode b_P_mark 11 = .ok (.getfield 15, 3) := by decide +kernel
theorem d_P_mark_14 : decode b_P_mark 14 = .ok (.iload_n 1, 1) := by decide +kernel
theorem d_P_mark_15 : decode b_P_mark 15 = .ok (.iload_n 2, 1) := by decide +kernel
theorem d_P_mark_16 : decode b_P_mark 16 = .ok (.iastore, 1) := by decide +kernel
theorem d_P_mark_17 : decode b_P_mark 17 = .ok (.return_, 1) := by decide +kernel
theorem d_P_wordAt_0 : decode b_P_wordAt 0 = .ok (.iload_n 1, 1) := by decide +kernel
theorem d_P_wordAt_1 : decode b_P_wordAt 1 = .ok (.ifCond .lt 17, 3) := by decide +kernel
theorem d_P_wordAt_4 : decode b_P_wordAt 4 = .ok (.iload_n 1, 1) := by decide +kernel
theorem d_P_wordAt_5 : decode b_P_wordAt 5 = .ok (.aload_n 0, 1) := by decide +kernel
theorem d_P_wordAt_6 : decode b_P_wordAt 6 = .ok (.getfield 18, 3) := by decide +kernel
theorem d_P_wordAt_9 : decode b_P_wordAt 9 = .ok (.if_icmp .ge 9, 3) := by decide +kernel
theorem d_P_wordAt_12 : decode b_P_wordAt 12 = .ok (.iload_n 1, 1) := by decide +kernel
theorem d_P_wordAt_13 : decode b_P_wordAt 13 = .ok (.bipush 20, 2) := by decide +kernel
theorem d_P_wordAt_15 : decode b_P_wordAt 15 = .ok (.if_icmp .lt 7, 3) := by decide +kernel
theorem d_P_wordAt_18 : decode b_P_wordAt 18 = .ok (.iconst (-1), 1) := by decide +kernel
theorem d_P_wordAt_19 : decode b_P_wordAt 19 = .ok (.goto 9, 3) := by decide +kernel
theorem d_P_wordAt_22 : decode b_P_wordAt 22 = .ok (.aload_n 0, 1) := by decide +kernel
theorem d_P_wordAt_23 : decode b_P_wordAt 23 = .ok (.getfield 11, 3) := by decide +kernel
theorem d_P_wordAt_26 : decode b_P_wordAt 26 = .ok (.iload_n 1, 1) := by decide +kernel
theorem d_P_wordAt_27 : decode b_P_wordAt 27 = .ok (.iaload, 1) := by decide +kernel
theorem d_P_wordAt_28 : decode b_P_wordAt 28 = .ok (.ireturn, 1) := by decide +kernel
theorem d_P_markAt_0 : decode b_P_markAt 0 = .ok (.iload_n 1, 1) := by decide +kernel
theorem d_P_markAt_1 : decode b_P_markAt 1 = .ok (.ifCond .lt 17, 3) := by decide +kernel
theorem d_P_markAt_4 : decode b_P_markAt 4 = .ok (.iload_n 1, 1) := by decide +kernel
theorem d_P_markAt_5 : decode b_P_markAt 5 = .ok (.aload_n 0, 1) := by decide +kernel
theorem d_P_markAt_6 : decode b_P_markAt 6 = .ok (.getfield 18, 3) := by decide +kernel
theorem d_P_markAt_9 : decode b_P_markAt 9 = .ok (.if_icmp .ge 9, 3) := by decide +kernel
theorem d_P_markAt_12 : decode b_P_markAt 12 = .ok (.iload_n 1, 1) := by decide +kernel
theorem d_P_markAt_13 : decode b_P_markAt 13 = .ok (.bipush 20, 2) := by decide +kernel
theorem d_P_markAt_15 : decode b_P_markAt 15 = .ok (.if_icmp .lt 7, 3) := by decide +kernel
theorem d_P_markAt_18 : decode b_P_markAt 18 = .ok (.iconst (-1), 1) := by decide +kernel
theorem d_P_markAt_19 : decode b_P_markAt 19 = .ok (.goto 9, 3) := by decide +kernel
theorem d_P_markAt_22 : decode b_P_markAt 22 = .ok (.aload_n 0, 1) := by decide +kernel
theorem d_P_markAt_23 : decode b_P_markAt 23 = .ok (.getfield 15, 3) := by decide +kernel
theorem d_P_markAt_26 : decode b_P_markAt 26 = .ok (.iload_n 1, 1) := by decide +kernel
theorem d_P_markAt_27 : decode b_P_markAt 27 = .ok (.iaload, 1) := by decide +kernel
theorem d_P_markAt_28 : decode b_P_markAt 28 = .ok (.ireturn, 1) := by decide +kernel
def f_P_add (this : Nat) (x1 : Int32) (h : Hp) : Option ((Int32 × Hp)) :=
  if isO h this 4 = true then
  (gI h this 4 2).bind fun i1 =>
  if i1 < 0 then
    some ((-1 : Int32), h)
  else
  (gI h this 4 2).bind fun i3 =>
  if i3 < (20 : Int32) then
    (gA h this 4 0).bind fun r5 =>
    (gI h this 4 2).bind fun i7 =>
    (r5).bind fun a9 =>
    (sI h a9 i7 x1).bind fun h12 =>
    (gA h12 this 4 1).bind fun r13 =>
    (gI h12 this 4 2).bind fun i15 =>
    (r13).bind fun a17 =>
    (sI h12 a17 i15 (-1 : Int32)).bind fun h20 =>
    (gI h20 this 4 2).bind fun i21 =>
    (pV h20 this 4 2 (.int (i21 + (1 : Int32)))).bind fun h23 =>
    (gI h23 this 4 2).bind fun i25 =>
    some ((i25 - (1 : Int32)), h23)
  else
  some ((-1 : Int32), h)
  else none
theorem o_P_add {this : Nat} {x1 : Int32} {h : Hp} {r0 : Int32} {h0 : Hp} (hf : f_P_add this x1 h = some (r0, h0)) : isO h this 4 = true := by
  unfold f_P_add at hf
  exact (z_gd hf).1
set_option maxRecDepth 100000 in
set_option maxHeartbeats 4000000 in
theorem c_P_add {l : Launch} {N0 : Nat} {D : va_G} {cs : Nat → ClassId} {this : Nat} {x1 : Int32} {h : Hp} {r0 : Int32} {h0 : Hp} (hf : f_P_add this x1 h = some (r0, h0)) : Fn l N0 D cs y_P_add b_P_add 2 (some .int) 1 0 0 [.ref this, .int x1] h (some (.int r0)) h0 := by
  refine z_start (by decide) (Nat.le_of_ble_eq_true rfl) ?_
  intro p e s m args below meth c M hH hS ls hl
  unfold f_P_add at hf
  obtain ⟨hO, hf⟩ := z_gd hf
  have hl : lv_has ls 2 [(0, .ref this), (1, .int x1)] := hl
  obtain ⟨H, hHe⟩ : ∃ H, H = s.heap := ⟨_, rfl⟩
  obtain ⟨locs, hLe⟩ : ∃ locs : List Loc, locs = [] := ⟨_, rfl⟩
  have hS : va_S (zA N0) s.heap H locs := by rw [hHe, hLe]; exact hS
  have hH : HH N0 D cs h H := by rw [hHe]; exact hH
  suffices hg : W p l e (zrm 1 0 0) s m args below meth c H locs 0 0 (MQ below (zQ N0 D cs (some (.int r0)) h0) args s 0 0 (zA N0)) (F0 m 0 ls []) by rw [hHe, hLe] at hg; exact hg
  clear hHe hLe
  refine lv_aload_n M.x M.b d_P_add_0 rfl (lv_at hl 0 rfl) ?_
  replace hf := z_bind hf; obtain ⟨i1, e2, hf⟩ := hf
  refine z_get (ci := 4) (k := 2) M hH rfl (by decide) zinP q_137 (gI_spec e2) d_P_add_1 ?_
  refine lv_if_lt (tgt := 16) M.x M.b d_P_add_4 (by decide) (fun c28 => ?_) (fun c28 => ?_)
  · replace hf := z_t c28 hf
    refine lv_iconst (v := (-1 : Int32)) M.x M.b d_P_add_16 rfl ?_
    obtain ⟨rfl, rfl⟩ := z_r2 hf
    exact z_iret M hH hS d_P_add_17
  · replace hf := z_f c28 hf
    refine lv_aload_n M.x M.b d_P_add_7 rfl (lv_at hl 0 rfl) ?_
    replace hf := z_bind hf; obtain ⟨i3, e4, hf⟩ := hf
    refine z_get (ci := 4) (k := 2) M hH rfl (by decide) zinP q_137 (gI_spec e4) d_P_add_8 ?_
    refine lv_bipush (v := (20 : Int32)) M.x M.b d_P_add_11 rfl ?_
    refine lv_icmp_lt (tgt := 18) M.x M.b d_P_add_13 (by decide) (fun c27 => ?_) (fun c27 => ?_)
    · replace hf := z_t c27 hf
      refine lv_aload_n M.x M.b d_P_add_18 rfl (lv_at hl 0 rfl) ?_
      replace hf := z_bind hf; obtain ⟨r5, e6, hf⟩ := hf
      refine z_get (ci := 4) (k := 0) M hH rfl (by decide) zinP q_139 (gA_spec e6) d_P_add_19 ?_
      refine lv_aload_n M.x M.b d_P_add_22 rfl (lv_at hl 0 rfl) ?_
      replace hf := z_bind hf; obtain ⟨i7, e8, hf⟩ := hf
      refine z_get (ci := 4) (k := 2) M hH rfl (by decide) zinP q_137 (gI_spec e8) d_P_add_23 ?_
      refine lv_iload_n M.x M.b d_P_add_26 rfl (lv_at hl 1 rfl) ?_
      rcases r5 with _ | a9
      · exact absurd hf z_nb0
      replace hf := z_sb hf
      replace hf := z_bind hf; obtain ⟨h12, e11, hf⟩ := hf
      refine z_iast M hH hS e11 d_P_add_27 (fun H locs hH hS => ?_)
      refine lv_aload_n M.x M.b d_P_add_28 rfl (lv_at hl 0 rfl) ?_
      replace hf := z_bind hf; obtain ⟨r13, e14, hf⟩ := hf
      refine z_get (ci := 4) (k := 1) M hH rfl (by decide) zinP q_138 (gA_spec e14) d_P_add_29 ?_
      refine lv_aload_n M.x M.b d_P_add_32 rfl (lv_at hl 0 rfl) ?_
      replace hf := z_bind hf; obtain ⟨i15, e16, hf⟩ := hf
      refine z_get (ci := 4) (k := 2) M hH rfl (by decide) zinP q_137 (gI_spec e16) d_P_add_33 ?_
      refine lv_iconst (v := (-1 : Int32)) M.x M.b d_P_add_36 rfl ?_
      rcases r13 with _ | a17
      · exact absurd hf z_nb0
      replace hf := z_sb hf
      replace hf := z_bind hf; obtain ⟨h20, e19, hf⟩ := hf
      refine z_iast M hH hS e19 d_P_add_37 (fun H locs hH hS => ?_)
      refine lv_aload_n M.x M.b d_P_add_38 rfl (lv_at hl 0 rfl) ?_
      refine lv_dup M.x M.b d_P_add_39 rfl ?_
      replace hf := z_bind hf; obtain ⟨i21, e22, hf⟩ := hf
      refine z_get (ci := 4) (k := 2) M hH rfl (by decide) zinP q_137 (gI_spec e22) d_P_add_40 ?_
      refine lv_iconst (v := (1 : Int32)) M.x M.b d_P_add_43 rfl ?_
      refine lv_iadd M.x M.b d_P_add_44 ?_
      replace hf := z_bind hf; obtain ⟨h23, e24, hf⟩ := hf
      refine z_put (ci := 4) (k := 2) M hH hS rfl (by decide) zinP zYP zYP_ok zNP_ok rfl q_137 rfl rfl rfl e24 d_P_add_45 (fun H locs hH hS => ?_)
      refine lv_aload_n M.x M.b d_P_add_48 rfl (lv_at hl 0 rfl) ?_
      replace hf := z_bind hf; obtain ⟨i25, e26, hf⟩ := hf
      refine z_get (ci := 4) (k := 2) M hH rfl (by decide) zinP q_137 (gI_spec e26) d_P_add_49 ?_
      refine lv_iconst (v := (1 : Int32)) M.x M.b d_P_add_52 rfl ?_
      refine lv_isub M.x M.b d_P_add_53 ?_
      obtain ⟨rfl, rfl⟩ := z_r2 hf
      exact z_iret M hH hS d_P_add_54
    · replace hf := z_f c27 hf
      refine lv_iconst (v := (-1 : Int32)) M.x M.b d_P_add_16 rfl ?_
      obtain ⟨rfl, rfl⟩ := z_r2 hf
      exact z_iret M hH hS d_P_add_17
def f_P_mark (this : Nat) (x1 : Int32) (x2 : Int32) (h : Hp) : Option (Hp) :=
  if isO h this 4 = true then
  if x1 < 0 then
    some h
  else
  if (20 : Int32) ≤ x1 then
    some h
  else
  (gA h this 4 1).bind fun r1 =>
  (r1).bind fun a3 =>
  (sI h a3 x1 x2).bind fun h6 =>
  some h6
  else none
theorem o_P_mark {this : Nat} {x1 : Int32} {x2 : Int32} {h : Hp} {h0 : Hp} (hf : f_P_mark this x1 x2 h = some h0) : isO h this 4 = true := by
  unfold f_P_mark at hf
  exact (z_gd hf).1
set_option maxRecDepth 100000 in
set_option maxHeartbeats 4000000 in
theorem c_P_mark {l : Launch} {N0 : Nat} {D : va_G} {cs : Nat → ClassId} {this : Nat} {x1 : Int32} {x2 : Int32} {h : Hp} {h0 : Hp} (hf : f_P_mark this x1 x2 h = some h0) : Fn l N0 D cs y_P_mark b_P_mark 3 (none) 1 0 0 [.ref this, .int x1, .int x2] h none h0 := by
  refine z_start (by decide) (Nat.le_of_ble_eq_true rfl) ?_
  intro p e s m args below meth c M hH hS ls hl
  unfold f_P_mark at hf
  obtain ⟨hO, hf⟩ := z_gd hf
  have hl : lv_has ls 3 [(0, .ref this), (1, .int x1), (2, .int x2)] := hl
  obtain ⟨H, hHe⟩ : ∃ H, H = s.heap := ⟨_, rfl⟩
  obtain ⟨locs, hLe⟩ : ∃ locs : List Loc, locs = [] := ⟨_, rfl⟩
  have hS : va_S (zA N0) s.heap H locs := by rw [hHe, hLe]; exact hS
  have hH : HH N0 D cs h H := by rw [hHe]; exact hH
  suffices hg : W p l e (zrm 1 0 0) s m args below meth c H locs 0 0 (MQ below (zQ N0 D cs none h0) args s 0 0 (zA N0)) (F0 m 0 ls []) by rw [hHe, hLe] at hg; exact hg
  clear hHe hLe
  refine lv_iload_n M.x M.b d_P_mark_0 rfl (lv_at hl 1 rfl) ?_
  refine lv_if_lt (tgt := 17) M.x M.b d_P_mark_1 (by decide) (fun c8 => ?_) (fun c8 => ?_)
  · replace hf := z_t c8 hf
    obtain rfl := z_r1 hf
    exact z_vret M hH hS d_P_mark_17
  · replace hf := z_f c8 hf
    refine lv_iload_n M.x M.b d_P_mark_4 rfl (lv_at hl 1 rfl) ?_
    refine lv_bipush (v := (20 : Int32)) M.x M.b d_P_mark_5 rfl ?_
    refine lv_icmp_ge (tgt := 17) M.x M.b d_P_mark_7 (by decide) (fun c7 => ?_) (fun c7 => ?_)
    · replace hf := z_t c7 hf
      obtain rfl := z_r1 hf
      exact z_vret M hH hS d_P_mark_17
    · replace hf := z_f c7 hf
      refine lv_aload_n M.x M.b d_P_mark_10 rfl (lv_at hl 0 rfl) ?_
      replace hf := z_bind hf; obtain ⟨r1, e2, hf⟩ := hf
      refine z_get (ci := 4) (k := 1) M hH rfl (by decide) zinP q_138 (gA_spec e2) d_P_mark_11 ?_
      refine lv_iload_n M.x M.b d_P_mark_14 rfl (lv_at hl 1 rfl) ?_
      refine lv_iload_n M.x M.b d_P_mark_15 rfl (lv_at hl 2 rfl) ?_
      rcases r1 with _ | a3
      · exact absurd hf z_nb0
      replace hf := z_sb hf
      replace hf := z_bind hf; obtain ⟨h6, e5, hf⟩ := hf
      refine z_iast M hH hS e5 d_P_mark_16 (fun H locs hH hS => ?_)
      obtain rfl := z_r1 hf
      exact z_vret M hH hS d_P_mark_17
def f_P_wordAt (this : Nat) (h : Hp) (x1 : Int32) : Option (Int32) :=
  if isO h this 4 = true then
  if x1 < 0 then
    some (-1 : Int32)
  else
  (gI h this 4 2).bind fun i1 =>
  if i1 ≤ x1 then
    some (-1 : Int32)
  else
  if x1 < (20 : Int32) then
    (gA h this 4 0).bind fun r3 =>
    (r3).bind fun a5 =>
    (aI h 0 a5 x1).bind fun i8 =>
    some i8
  else
  some (-1 : Int32)
  else none
theorem o_P_wordAt {this : Nat} {h : Hp} {x1 : Int32} {r0 : Int32} (hf : f_P_wordAt this h x1 = some r0) : isO h this 4 = true := by
  unfold f_P_wordAt at hf
  exact (z_gd hf).1
set_option maxRecDepth 100000 in
set_option maxHeartbeats 4000000 in
theorem c_P_wordAt {l : Launch} {N0 : Nat} {D : va_G} {cs : Nat → ClassId} {this : Nat} {h : Hp} {x1 : Int32} {r0 : Int32} (hf : f_P_wordAt this h x1 = some r0) : Fn l N0 D cs y_P_wordAt b_P_wordAt 2 (some .int) 1 0 0 [.ref this, .int x1] h (some (.int r0)) h := by
  refine z_start (by decide) (Nat.le_of_ble_eq_true rfl) ?_
  intro p e s m args below meth c M hH hS ls hl
  unfold f_P_wordAt at hf
  obtain ⟨hO, hf⟩ := z_gd hf
  have hl : lv_has ls 2 [(0, .ref this), (1, .int x1)] := hl
  obtain ⟨H, hHe⟩ : ∃ H, H = s.heap := ⟨_, rfl⟩
  obtain ⟨locs, hLe⟩ : ∃ locs : List Loc, locs = [] := ⟨_, rfl⟩
  have hS : va_S (zA N0) s.heap H locs := by rw [hHe, hLe]; exact hS
  have hH : HH N0 D cs h H := by rw [hHe]; exact hH
  suffices hg : W p l e (zrm 1 0 0) s m args below meth c H locs 0 0 (MQ below (zQ N0 D cs (some (.int r0)) h) args s 0 0 (zA N0)) (F0 m 0 ls []) by rw [hHe, hLe] at hg; exact hg
  clear hHe hLe
  refine lv_iload_n M.x M.b d_P_wordAt_0 rfl (lv_at hl 1 rfl) ?_
  refine lv_if_lt (tgt := 18) M.x M.b d_P_wordAt_1 (by decide) (fun c11 => ?_) (fun c11 => ?_)
  · replace hf := z_t c11 hf
    refine lv_iconst (v := (-1 : Int32)) M.x M.b d_P_wordAt_18 rfl ?_
    refine lv_goto (tgt := 28) M.x M.b d_P_wordAt_19 (by decide) ?_
    obtain rfl := z_r1 hf
    exact z_iret M hH hS d_P_wordAt_28
  · replace hf := z_f c11 hf
    refine lv_iload_n M.x M.b d_P_wordAt_4 rfl (lv_at hl 1 rfl) ?_
    refine lv_aload_n M.x M.b d_P_wordAt_5 rfl (lv_at hl 0 rfl) ?_
    replace hf := z_bind hf; obtain ⟨i1, e2, hf⟩ := hf
    refine z_get (ci := 4) (k := 2) M hH rfl (by decide) zinP q_137 (gI_spec e2) d_P_wordAt_6 ?_
    refine lv_icmp_ge (tgt := 18) M.x M.b d_P_wordAt_9 (by decide) (fun c10 => ?_) (fun c10 => ?_)
    · replace hf := z_t c10 hf
      refine lv_iconst (v := (-1 : Int32)) M.x M.b d_P_wordAt_18 rfl ?_
      refine lv_goto (tgt := 28) M.x M.b d_P_wordAt_19 (by decide) ?_
      obtain rfl := z_r1 hf
      exact z_iret M hH hS d_P_wordAt_28
    · replace hf := z_f c10 hf
      refine lv_iload_n M.x M.b d_P_wordAt_12 rfl (lv_at hl 1 rfl) ?_
      refine lv_bipush (v := (20 : Int32)) M.x M.b d_P_wordAt_13 rfl ?_
      refine lv_icmp_lt (tgt := 22) M.x M.b d_P_wordAt_15 (by decide) (fun c9 => ?_) (fun c9 => ?_)
      · replace hf := z_t c9 hf
        refine lv_aload_n M.x M.b d_P_wordAt_22 rfl (lv_at hl 0 rfl) ?_
        replace hf := z_bind hf; obtain ⟨r3, e4, hf⟩ := hf
        refine z_get (ci := 4) (k := 0) M hH rfl (by decide) zinP q_139 (gA_spec e4) d_P_wordAt_23 ?_
        refine lv_iload_n M.x M.b d_P_wordAt_26 rfl (lv_at hl 1 rfl) ?_
        rcases r3 with _ | a5
        · exact absurd hf z_nb0
        replace hf := z_sb hf
        replace hf := z_bind hf; obtain ⟨i8, e7, hf⟩ := hf
        refine z_iald M hH e7 d_P_wordAt_27 ?_
        obtain rfl := z_r1 hf
        exact z_iret M hH hS d_P_wordAt_28
      · replace hf := z_f c9 hf
        refine lv_iconst (v := (-1 : Int32)) M.x M.b d_P_wordAt_18 rfl ?_
        refine lv_goto (tgt := 28) M.x M.b d_P_wordAt_19 (by decide) ?_
        obtain rfl := z_r1 hf
        exact z_iret M hH hS d_P_wordAt_28
def f_P_markAt (this : Nat) (h : Hp) (x1 : Int32) : Option (Int32) :=
  if isO h this 4 = true then
  if x1 < 0 then
    some (-1 : Int32)
  else
  (gI h this 4 2).bind fun i1 =>
  if i1 ≤ x1 then
    some (-1 : Int32)
  else
  if x1 < (20 : Int32) then
    (gA h this 4 1).bind fun r3 =>
    (r3).bind fun a5 =>
    (aI h 0 a5 x1).bind fun i8 =>
    some i8
  else
  some (-1 : Int32)
  else none
theorem o_P_markAt {this : Nat} {h : Hp} {x1 : Int32} {r0 : Int32} (hf : f_P_markAt this h x1 = some r0) : isO h this 4 = true := by
  unfold f_P_markAt at hf
  exact (z_gd hf).1
set_option maxRecDepth 100000 in
set_option maxHeartbeats 4000000 in
theorem c_P_markAt {l : Launch} {N0 : Nat} {D : va_G} {cs : Nat → ClassId} {this : Nat} {h : Hp} {x1 : Int32} {r0 : Int32} (hf : f_P_markAt this h x1 = some r0) : Fn l N0 D cs y_P_markAt b_P_markAt 2 (some .int) 1 0 0 [.ref this, .int x1] h (some (.int r0)) h := by
  refine z_start (by decide) (Nat.le_of_ble_eq_true rfl) ?_
  intro p e s m args below meth c M hH hS ls hl
  unfold f_P_markAt at hf
  obtain ⟨hO, hf⟩ := z_gd hf
  have hl : lv_has ls 2 [(0, .ref this), (1, .int x1)] := hl
  obtain ⟨H, hHe⟩ : ∃ H, H = s.heap := ⟨_, rfl⟩
  obtain ⟨locs, hLe⟩ : ∃ locs : List Loc, locs = [] := ⟨_, rfl⟩
  have hS : va_S (zA N0) s.heap H locs := by rw [hHe, hLe]; exact hS
  have hH : HH N0 D cs h H := by rw [hHe]; exact hH
  suffices hg : W p l e (zrm 1 0 0) s m args below meth c H locs 0 0 (MQ below (zQ N0 D cs (some (.int r0)) h) args s 0 0 (zA N0)) (F0 m 0 ls []) by rw [hHe, hLe] at hg; exact hg
  clear hHe hLe
  refine lv_iload_n M.x M.b d_P_markAt_0 rfl (lv_at hl 1 rfl) ?_
  refine lv_if_lt (tgt := 18) M.x M.b d_P_markAt_1 (by decide) (fun c11 => ?_) (fun c11 => ?_)
  · replace hf := z_t c11 hf
    refine lv_iconst (v := (-1 : Int32)) M.x M.b d_P_markAt_18 rfl ?_
    refine lv_goto (tgt := 28) M.x M.b d_P_markAt_19 (by decide) ?_
    obtain rfl := z_r1 hf
    exact z_iret M hH hS d_P_markAt_28
  · replace hf := z_f c11 hf
    refine lv_iload_n M.x M.b d_P_markAt_4 rfl (lv_at hl 1 rfl) ?_
    refine lv_aload_n M.x M.b d_P_markAt_5 rfl (lv_at hl 0 rfl) ?_
    replace hf := z_bind hf; obtain ⟨i1, e2, hf⟩ := hf
    refine z_get (ci := 4) (k := 2) M hH rfl (by decide) zinP q_137 (gI_spec e2) d_P_markAt_6 ?_
    refine lv_icmp_ge (tgt := 18) M.x M.b d_P_markAt_9 (by decide) (fun c10 => ?_) (fun c10 => ?_)
    · replace hf := z_t c10 hf
      refine lv_iconst (v := (-1 : Int32)) M.x M.b d_P_markAt_18 rfl ?_
      refine lv_goto (tgt := 28) M.x M.b d_P_markAt_19 (by decide) ?_
      obtain rfl := z_r1 hf
      exact z_iret M hH hS d_P_markAt_28
    · replace hf := z_f c10 hf
      refine lv_iload_n M.x M.b d_P_markAt_12 rfl (lv_at hl 1 rfl) ?_
      refine lv_bipush (v := (20 : Int32)) M.x M.b d_P_markAt_13 rfl ?_
      refine lv_icmp_lt (tgt := 22) M.x M.b d_P_markAt_15 (by decide) (fun c9 => ?_) (fun c9 => ?_)
      · replace hf := z_t c9 hf
        refine lv_aload_n M.x M.b d_P_markAt_22 rfl (lv_at hl 0 rfl) ?_
        replace hf := z_bind hf; obtain ⟨r3, e4, hf⟩ := hf
        refine z_get (ci := 4) (k := 1) M hH rfl (by decide) zinP q_138 (gA_spec e4) d_P_markAt_23 ?_
        refine lv_iload_n M.x M.b d_P_markAt_26 rfl (lv_at hl 1 rfl) ?_
        rcases r3 with _ | a5
        · exact absurd hf z_nb0
        replace hf := z_sb hf
        replace hf := z_bind hf; obtain ⟨i8, e7, hf⟩ := hf
        refine z_iald M hH e7 d_P_markAt_27 ?_
        obtain rfl := z_r1 hf
        exact z_iret M hH hS d_P_markAt_28
      · replace hf := z_f c9 hf
        refine lv_iconst (v := (-1 : Int32)) M.x M.b d_P_markAt_18 rfl ?_
        refine lv_goto (tgt := 28) M.x M.b d_P_markAt_19 (by decide) ?_
        obtain rfl := z_r1 hf
        exact z_iret M hH hS d_P_markAt_28
