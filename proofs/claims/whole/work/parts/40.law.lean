/-! THE CLAIM OUT OF ONE WALK OF THE LAW'S BODY. Your part is whole_start (and what it stands on); all else here is the same for every law, but numbers. -/
def R_law : String := "YearBasketsLaw"
def lw_P (b : Addr) (xs : List Int32) (args : Array Value) (s : State) : Prop := args = #[.ref b] ∧ s.IntsAt b xs ∧ xs.length ≤ 4608 ∧ (Jvm.Cond.and given_1 narrow_1).before args s = true
def lw_Q (_ : Array Value) (s : State) (o : Outcome) (t : State) : Prop := o = .returned (some (.int 1)) ∧ Framed s o t [] 600000 7302250
def lw_Z (below : List Frame) (a : Array Value) (s : State) : State → Prop := fun t => ∃ o, t.status = .running ∧ Ended t below o ∧ lw_Q a s o t
/-- the law's own end, with 1 on the stack, nothing written that was there before, its room as the claim has it -/
theorem lw_ret {p : Program} {l : Launch} {e : Env} {s : State} {m : MethodId} {below : List Frame} {meth : Method} {c : Code} {b : Nat} (hx : p.tables.exec = Jvm.exec) (hb : c.code = code) (hr : meth.sig.returnType = ret) (hlocks : meth.locks = false) {pc : Nat} {H : Heap} {ls : Array Slot} (hdg : decode code pc = .ok (.ireturn, 1)) : W p l e room_1 s m #[Value.ref b] below meth c H [] 600000 7302250 (lw_Z below #[Value.ref b] s) (F0 m pc ls [.int 1]) := by
  intro T hT X
  obtain ⟨fs, hret, hrun, hended, hW, hframe⟩ := X.leave (v := some (.int 1)) (hlocks := hlocks) (fun h => by rw [hr] at h; cases h)
  have hmeth' : T.vm.method? m = some meth := X.method'
  refine ⟨T.setFrames fs, ?_, .returned (some (.int 1)), hrun, hended, rfl, ⟨_, rfl⟩, hW, hframe⟩
  jvm_step X.here [X.here.top, hx, hb, hdg, hmeth', hr, ret, narrow_b1]
  (try refine ⟨rfl, ?_⟩); (try refine ⟨rfl, ?_⟩)
  first | (intro acts; rw [hret _ acts rfl rfl rfl]) | rw [hret _ _ rfl rfl rfl]
  exact Steps.refl _
/-- what holds at the law's entry: the machine, the code, the tables' words (any of lw_tbl by 'hts w (by decide +kernel)'), the script of L ints xs at the cell b, what the Statement gives of the start (any of its parts by flat_of_before) -/
def lw_At (p : Program) (s : State) (m : MethodId) (meth : Method) (c : Code) (b L : Nat) (xs : Nat → Int32) : Prop :=
  p.tables.exec = Jvm.exec ∧ c.code = code ∧ meth.sig.returnType = ret ∧ c.maxLocals = 4 ∧ s.vm.findClass R_law = some m.cls ∧ (∀ w ∈ lw_tbl, w.before #[Value.ref b] s = true) ∧ va_X b L xs s s.heap ∧ b < s.heap.size ∧ meth.locks = false ∧ (Jvm.Cond.and given_1 narrow_1).before #[Value.ref b] s = true
/-! ===== the law: printed by wip/whole/gen_law.py out of the bytecode ===== -/
theorem q_939 : (Jvm.Cond.methodLink "YearBasketsLaw" (13 : Nat) ({ cls := "YearBaskets", name := "price", desc := "(III)I" } : Jvm.MethodName)) ∈ zG := zt_2 (List.mem_of_getElem? (i := 1) rfl) rfl
theorem q_940 : (Jvm.Cond.methodLink "YearBasketsLaw" (17 : Nat) ({ cls := "YearBasketsModel", name := "price", desc := "(III)I" } : Jvm.MethodName)) ∈ zG := zt_4 (List.mem_of_getElem? (i := 170) rfl) rfl
theorem q_941 : (Jvm.Cond.methodLink "YearBasketsLaw" (18 : Nat) ({ cls := "YearBaskets", name := "bought", desc := "(IIII)I" } : Jvm.MethodName)) ∈ zG := zt_2 (List.mem_of_getElem? (i := 23) rfl) rfl
theorem q_942 : (Jvm.Cond.methodLink "YearBasketsLaw" (22 : Nat) ({ cls := "YearBasketsModel", name := "bought", desc := "(IIII)I" } : Jvm.MethodName)) ∈ zG := zt_4 (List.mem_of_getElem? (i := 186) rfl) rfl
theorem q_943 : (Jvm.Cond.methodLink "YearBasketsLaw" (23 : Nat) ({ cls := "YearBaskets", name := "cost", desc := "(III)I" } : Jvm.MethodName)) ∈ zG := zt_2 (List.mem_of_getElem? (i := 38) rfl) rfl
theorem q_944 : (Jvm.Cond.methodLink "YearBasketsLaw" (26 : Nat) ({ cls := "YearBasketsModel", name := "cost", desc := "(III)I" } : Jvm.MethodName)) ∈ zG := zt_4 (List.mem_of_getElem? (i := 192) rfl) rfl
theorem q_945 : (Jvm.Cond.methodLink "YearBasketsLaw" (27 : Nat) ({ cls := "YearBaskets", name := "goods", desc := "(III)I" } : Jvm.MethodName)) ∈ zG := zt_2 (List.mem_of_getElem? (i := 51) rfl) rfl
theorem q_946 : (Jvm.Cond.methodLink "YearBasketsLaw" (30 : Nat) ({ cls := "YearBasketsModel", name := "goods", desc := "(III)I" } : Jvm.MethodName)) ∈ zG := zt_4 (List.mem_of_getElem? (i := 208) rfl) rfl
theorem q_947 : (Jvm.Cond.methodLink "YearBasketsLaw" (31 : Nat) ({ cls := "YearBaskets", name := "count", desc := "(I)I" } : Jvm.MethodName)) ∈ zG := zt_2 (List.mem_of_getElem? (i := 64) rfl) rfl
theorem q_948 : (Jvm.Cond.methodLink "YearBasketsLaw" (35 : Nat) ({ cls := "YearBasketsModel", name := "count", desc := "(I)I" } : Jvm.MethodName)) ∈ zG := zt_4 (List.mem_of_getElem? (i := 220) rfl) rfl
theorem q_949 : (Jvm.Cond.constantLong "YearBasketsLaw" (36 : Nat) (4294967295 : Int64)) ∈ zG := zt_6 (List.mem_of_getElem? (i := 7) rfl) rfl
theorem q_950 : (Jvm.Cond.methodLink "YearBasketsLaw" (38 : Nat) ({ cls := "YearBaskets", name := "feed", desc := "(IJ)I" } : Jvm.MethodName)) ∈ zG := zt_2 (List.mem_of_getElem? (i := 83) rfl) rfl
theorem q_951 : (Jvm.Cond.methodLink "YearBasketsLaw" (42 : Nat) ({ cls := "YearBasketsModel", name := "feed", desc := "(IJ)I" } : Jvm.MethodName)) ∈ zG := zt_4 (List.mem_of_getElem? (i := 224) rfl) rfl
theorem q_952 : (Jvm.Cond.methodLink "YearBasketsLaw" (43 : Nat) ({ cls := "YearBaskets", name := "number", desc := "()I" } : Jvm.MethodName)) ∈ zG := zt_2 (List.mem_of_getElem? (i := 91) rfl) rfl
theorem q_953 : (Jvm.Cond.methodLink "YearBasketsLaw" (47 : Nat) ({ cls := "YearBasketsModel", name := "number", desc := "()I" } : Jvm.MethodName)) ∈ zG := zt_4 (List.mem_of_getElem? (i := 230) rfl) rfl
theorem q_954 : (Jvm.Cond.methodLink "YearBasketsLaw" (48 : Nat) ({ cls := "YearBaskets", name := "fault", desc := "()I" } : Jvm.MethodName)) ∈ zG := zt_2 (List.mem_of_getElem? (i := 213) rfl) rfl
theorem q_955 : (Jvm.Cond.methodLink "YearBasketsLaw" (51 : Nat) ({ cls := "YearBasketsModel", name := "fault", desc := "()I" } : Jvm.MethodName)) ∈ zG := zt_5 (List.mem_of_getElem? (i := 35) rfl) rfl
theorem q_956 : (Jvm.Cond.methodLink "YearBasketsLaw" (52 : Nat) ({ cls := "YearBaskets", name := "worth", desc := "(IIIII)J" } : Jvm.MethodName)) ∈ zG := zt_2 (List.mem_of_getElem? (i := 217) rfl) rfl
theorem q_957 : (Jvm.Cond.methodLink "YearBasketsLaw" (56 : Nat) ({ cls := "YearBasketsModel", name := "worth", desc := "(IIIII)J" } : Jvm.MethodName)) ∈ zG := zt_5 (List.mem_of_getElem? (i := 39) rfl) rfl
theorem q_958 : (Jvm.Cond.methodLink "YearBasketsLaw" (57 : Nat) ({ cls := "YearBaskets", name := "order", desc := "(IIIII)I" } : Jvm.MethodName)) ∈ zG := zt_3 (List.mem_of_getElem? (i := 83) rfl) rfl
theorem q_959 : (Jvm.Cond.methodLink "YearBasketsLaw" (61 : Nat) ({ cls := "YearBasketsModel", name := "order", desc := "(IIIII)I" } : Jvm.MethodName)) ∈ zG := zt_5 (List.mem_of_getElem? (i := 108) rfl) rfl
theorem q_960 : (Jvm.Cond.methodLink "YearBasketsLaw" (62 : Nat) ({ cls := "YearBaskets", name := "keeps", desc := "(III)I" } : Jvm.MethodName)) ∈ zG := zt_3 (List.mem_of_getElem? (i := 88) rfl) rfl
theorem q_961 : (Jvm.Cond.methodLink "YearBasketsLaw" (65 : Nat) ({ cls := "YearBasketsModel", name := "keeps", desc := "(III)I" } : Jvm.MethodName)) ∈ zG := zt_5 (List.mem_of_getElem? (i := 124) rfl) rfl
theorem q_962 : (Jvm.Cond.methodLink "YearBasketsLaw" (66 : Nat) ({ cls := "YearBaskets", name := "breach", desc := "(IIII)I" } : Jvm.MethodName)) ∈ zG := zt_3 (List.mem_of_getElem? (i := 161) rfl) rfl
theorem q_963 : (Jvm.Cond.methodLink "YearBasketsLaw" (69 : Nat) ({ cls := "YearBasketsModel", name := "breach", desc := "(IIII)I" } : Jvm.MethodName)) ∈ zG := zt_5 (List.mem_of_getElem? (i := 188) rfl) rfl
theorem q_964 : (Jvm.Cond.methodLink "YearBasketsLaw" (70 : Nat) ({ cls := "YearBaskets", name := "clash", desc := "(I)I" } : Jvm.MethodName)) ∈ zG := zt_3 (List.mem_of_getElem? (i := 168) rfl) rfl
theorem q_965 : (Jvm.Cond.methodLink "YearBasketsLaw" (73 : Nat) ({ cls := "YearBasketsModel", name := "clash", desc := "(I)I" } : Jvm.MethodName)) ∈ zG := zt_5 (List.mem_of_getElem? (i := 192) rfl) rfl
theorem q_966 : (Jvm.Cond.methodLink "YearBasketsLaw" (74 : Nat) ({ cls := "YearBaskets", name := "drift", desc := "(IIIII)J" } : Jvm.MethodName)) ∈ zG := zt_3 (List.mem_of_getElem? (i := 185) rfl) rfl
theorem q_967 : (Jvm.Cond.methodLink "YearBasketsLaw" (77 : Nat) ({ cls := "YearBasketsModel", name := "drift", desc := "(IIIII)J" } : Jvm.MethodName)) ∈ zG := zt_5 (List.mem_of_getElem? (i := 199) rfl) rfl
theorem q_968 : (Jvm.Cond.methodLink "YearBasketsLaw" (78 : Nat) ({ cls := "YearBaskets", name := "chosen", desc := "(III)I" } : Jvm.MethodName)) ∈ zG := zt_3 (List.mem_of_getElem? (i := 196) rfl) rfl
theorem q_969 : (Jvm.Cond.methodLink "YearBasketsLaw" (81 : Nat) ({ cls := "YearBasketsModel", name := "chosen", desc := "(III)I" } : Jvm.MethodName)) ∈ zG := zt_5 (List.mem_of_getElem? (i := 203) rfl) rfl
theorem q_970 : (Jvm.Cond.methodLink "YearBasketsLaw" (82 : Nat) ({ cls := "YearBaskets", name := "ring", desc := "(II)I" } : Jvm.MethodName)) ∈ zG := zt_3 (List.mem_of_getElem? (i := 205) rfl) rfl
theorem q_971 : (Jvm.Cond.methodLink "YearBasketsLaw" (86 : Nat) ({ cls := "YearBasketsModel", name := "ring", desc := "(II)I" } : Jvm.MethodName)) ∈ zG := zt_5 (List.mem_of_getElem? (i := 211) rfl) rfl
theorem q_972 : (Jvm.Cond.methodLink "YearBasketsLaw" (87 : Nat) ({ cls := "YearBaskets", name := "need", desc := "(IIII)I" } : Jvm.MethodName)) ∈ zG := zt_4 (List.mem_of_getElem? (i := 4) rfl) rfl
theorem q_973 : (Jvm.Cond.methodLink "YearBasketsLaw" (90 : Nat) ({ cls := "YearBasketsModel", name := "need", desc := "(IIII)I" } : Jvm.MethodName)) ∈ zG := zt_5 (List.mem_of_getElem? (i := 219) rfl) rfl
theorem q_974 : (Jvm.Cond.methodLink "YearBasketsLaw" (91 : Nat) ({ cls := "YearBaskets", name := "part", desc := "(IIIII)I" } : Jvm.MethodName)) ∈ zG := zt_4 (List.mem_of_getElem? (i := 17) rfl) rfl
theorem q_975 : (Jvm.Cond.methodLink "YearBasketsLaw" (94 : Nat) ({ cls := "YearBasketsModel", name := "part", desc := "(IIIII)I" } : Jvm.MethodName)) ∈ zG := zt_5 (List.mem_of_getElem? (i := 223) rfl) rfl
theorem q_976 : (Jvm.Cond.methodLink "YearBasketsLaw" (95 : Nat) ({ cls := "YearBaskets", name := "wage", desc := "(IIIII)J" } : Jvm.MethodName)) ∈ zG := zt_4 (List.mem_of_getElem? (i := 21) rfl) rfl
theorem q_977 : (Jvm.Cond.methodLink "YearBasketsLaw" (98 : Nat) ({ cls := "YearBasketsModel", name := "wage", desc := "(IIIII)J" } : Jvm.MethodName)) ∈ zG := zt_5 (List.mem_of_getElem? (i := 227) rfl) rfl
theorem q_978 : (Jvm.Cond.methodLink "YearBasketsLaw" (99 : Nat) ({ cls := "YearBaskets", name := "dearest", desc := "(III)I" } : Jvm.MethodName)) ∈ zG := zt_4 (List.mem_of_getElem? (i := 32) rfl) rfl
theorem q_979 : (Jvm.Cond.methodLink "YearBasketsLaw" (102 : Nat) ({ cls := "YearBasketsModel", name := "dearest", desc := "(III)I" } : Jvm.MethodName)) ∈ zG := zt_5 (List.mem_of_getElem? (i := 238) rfl) rfl
theorem q_980 : (Jvm.Cond.methodLink "YearBasketsLaw" (103 : Nat) ({ cls := "YearBaskets", name := "turn", desc := "(IIIIIIII)I" } : Jvm.MethodName)) ∈ zG := zt_4 (List.mem_of_getElem? (i := 37) rfl) rfl
theorem q_981 : (Jvm.Cond.methodLink "YearBasketsLaw" (107 : Nat) ({ cls := "YearBasketsModel", name := "turn", desc := "(IIIIIIII)I" } : Jvm.MethodName)) ∈ zG := zt_6 (List.mem_of_getElem? (i := 2) rfl) rfl
theorem d_law_0 : decode code 0 = .ok (.new 7, 3) := by decide +kernel
theorem d_law_3 : decode code 3 = .ok (.dup, 1) := by decide +kernel
theorem d_law_4 : decode code 4 = .ok (.invokespecial 9, 3) := by decide +kernel
theorem d_law_7 : decode code 7 = .ok (.astore_n 1, 1) := by decide +kernel
theorem d_law_8 : decode code 8 = .ok (.new 10, 3) := by decide +kernel
theorem d_law_11 : decode code 11 = .ok (.dup, 1) := by decide +kernel
theorem d_law_12 : decode code 12 = .ok (.invokespecial 12, 3) := by decide +kernel
theorem d_law_15 : decode code 15 = .ok (.astore_n 2, 1) := by decide +kernel
theorem d_law_16 : decode code 16 = .ok (.iconst 0, 1) := by decide +kernel
theorem d_law_17 : decode code 17 = .ok (.istore_n 3, 1) := by decide +kernel
theorem d_law_18 : decode code 18 = .ok (.iload_n 3, 1) := by decide +kernel
theorem d_law_19 : decode code 19 = .ok (.aload_n 0, 1) := by decide +kernel
theorem d_law_20 : decode code 20 = .ok (.arraylength, 1) := by decide +kernel
theorem d_law_21 : decode code 21 = .ok (.bipush 9, 2) := by decide +kernel
theorem d_law_23 : decode code 23 = .ok (.isub, 1) := by decide +kernel
theorem d_law_24 : decode code 24 = .ok (.if_icmp .gt 1116, 3) := by decide +kernel
theorem d_law_27 : decode code 27 = .ok (.aload_n 0, 1) := by decide +kernel
theorem d_law_28 : decode code 28 = .ok (.iload_n 3, 1) := by decide +kernel
theorem d_law_29 : decode code 29 = .ok (.iaload, 1) := by decide +kernel
theorem d_law_30 : decode code 30 = .ok (.bipush 31, 2) := by decide +kernel
theorem d_law_32 : decode code 32 = .ok (.iand, 1) := by decide +kernel
theorem d_law_33 : decode code 33 = .ok (.tableswitch 1101 0 20 #[99, 142, 195, 238, 281, 304, 367, 380, 393, 457, 520, 563, 616, 639, 703, 746, 779, 832, 895, 959, 1002], 99) := by decide +kernel
theorem d_law_132 : decode code 132 = .ok (.aload_n 1, 1) := by decide +kernel
theorem d_law_133 : decode code 133 = .ok (.aload_n 0, 1) := by decide +kernel
theorem d_law_134 : decode code 134 = .ok (.iload_n 3, 1) := by decide +kernel
theorem d_law_135 : decode code 135 = .ok (.iconst 1, 1) := by decide +kernel
theorem d_law_136 : decode code 136 = .ok (.iadd, 1) := by decide +kernel
theorem d_law_137 : decode code 137 = .ok (.iaload, 1) := by decide +kernel
theorem d_law_138 : decode code 138 = .ok (.aload_n 0, 1) := by decide +kernel
theorem d_law_139 : decode code 139 = .ok (.iload_n 3, 1) := by decide +kernel
theorem d_law_140 : decode code 140 = .ok (.iconst 2, 1) := by decide +kernel
theorem d_law_141 : decode code 141 = .ok (.iadd, 1) := by decide +kernel
theorem d_law_142 : decode code 142 = .ok (.iaload, 1) := by decide +kernel
theorem d_law_143 : decode code 143 = .ok (.aload_n 0, 1) := by decide +kernel
theorem d_law_144 : decode code 144 = .ok (.iload_n 3, 1) := by decide +kernel
theorem d_law_145 : decode code 145 = .ok (.iconst 3, 1) := by decide +kernel
theorem d_law_146 : decode code 146 = .ok (.iadd, 1) := by decide +kernel
theorem d_law_147 : decode code 147 = .ok (.iaload, 1) := by decide +kernel
theorem d_law_148 : decode code 148 = .ok (.invokevirtual 13, 3) := by decide +kernel
theorem d_law_151 : decode code 151 = .ok (.aload_n 2, 1) := by decide +kernel
theorem d_law_152 : decode code 152 = .ok (.aload_n 0, 1) := by decide +kernel
theorem d_law_153 : decode code 153 = .ok (.iload_n 3, 1) := by decide +kernel
theorem d_law_154 : decode code 154 = .ok (.iconst 1, 1) := by decide +kernel
theorem d_law_155 : decode code 155 = .ok (.iadd, 1) := by decide +kernel
theorem d_law_156 : decode code 156 = .ok (.iaload, 1) := by decide +kernel
theorem d_law_157 : decode code 157 = .ok (.aload_n 0, 1) := by decide +kernel
theorem d_law_158 : decode code 158 = .ok (.iload_n 3, 1) := by decide +kernel
theorem d_law_159 : decode code 159 = .ok (.iconst 2, 1) := by decide +kernel
theorem d_law_160 : decode code 160 = .ok (.iadd, 1) := by decide +kernel
theorem d_law_161 : decode code 161 = .ok (.iaload, 1) := by decide +kernel
theorem d_law_162 : decode code 162 = .ok (.aload_n 0, 1) := by decide +kernel
theorem d_law_163 : decode code 163 = .ok (.iload_n 3, 1) := by decide +kernel
theorem d_law_164 : decode code 164 = .ok (.iconst 3, 1) := by decide +kernel
theorem d_law_165 : decode code 165 = .ok (.iadd, 1) := by decide +kernel
theorem d_law_166 : decode code 166 = .ok (.iaload, 1) := by decide +kernel
theorem d_law_167 : decode code 167 = .ok (.invokevirtual 17, 3) := by decide +kernel
theorem d_law_170 : decode code 170 = .ok (.if_icmp .eq 964, 3) := by decide +kernel
theorem d_law_175 : decode code 175 = .ok (.aload_n 1, 1) := by decide +kernel
theorem d_law_176 : decode code 176 = .ok (.aload_n 0, 1) := by decide +kernel
theorem d_law_177 : decode code 177 = .ok (.iload_n 3, 1) := by decide +kernel
theorem d_law_178 : decode code 178 = .ok (.iconst 1, 1) := by decide +kernel
theorem d_law_179 : decode code 179 = .ok (.iadd, 1) := by decide +kernel
theorem d_law_180 : decode code 180 = .ok (.iaload, 1) := by decide +kernel
theorem d_law_181 : decode code 181 = .ok (.aload_n 0, 1) := by decide +kernel
theorem d_law_182 : decode code 182 = .ok (.iload_n 3, 1) := by decide +kernel
theorem d_law_183 : decode code 183 = .ok (.iconst 2, 1) := by decide +kernel
theorem d_law_184 : decode code 184 = .ok (.iadd, 1) := by decide +kernel
theorem d_law_185 : decode code 185 = .ok (.iaload, 1) := by decide +kernel
theorem d_law_186 : decode code 186 = .ok (.aload_n 0, 1) := by decide +kernel
theorem d_law_187 : decode code 187 = .ok (.iload_n 3, 1) := by decide +kernel
theorem d_law_188 : decode code 188 = .ok (.iconst 3, 1) := by decide +kernel
theorem d_law_189 : decode code 189 = .ok (.iadd, 1) := by decide +kernel
theorem d_law_190 : decode code 190 = .ok (.iaload, 1) := by decide +kernel
theorem d_law_191 : decode code 191 = .ok (.aload_n 0, 1) := by decide +kernel
theorem d_law_192 : decode code 192 = .ok (.iload_n 3, 1) := by decide +kernel
theorem d_law_193 : decode code 193 = .ok (.iconst 4, 1) := by decide +kernel
theorem d_law_194 : decode code 194 = .ok (.iadd, 1) := by decide +kernel
theorem d_law_195 : decode code 195 = .ok (.iaload, 1) := by decide +kernel
theorem d_law_196 : decode code 196 = .ok (.invokevirtual 18, 3) := by decide +kernel
theorem d_law_199 : decode code 199 = .ok (.aload_n 2, 1) := by decide +kernel
theorem d_law_200 : decode code 200 = .ok (.aload_n 0, 1) := by decide +kernel
theorem d_law_201 : decode code 201 = .ok (.iload_n 3, 1) := by decide +kernel
theorem d_law_202 : decode code 202 = .ok (.iconst 1, 1) := by decide +kernel
theorem d_law_203 : decode code 203 = .ok (.iadd, 1) := by decide +kernel
theorem d_law_204 : decode code 204 = .ok (.iaload, 1) := by decide +kernel
theorem d_law_205 : decode code 205 = .ok (.aload_n 0, 1) := by decide +kernel
theorem d_law_206 : decode code 206 = .ok (.iload_n 3, 1) := by decide +kernel
theorem d_law_207 : decode code 207 = .ok (.iconst 2, 1) := by decide +kernel
theorem d_law_208 : decode code 208 = .ok (.iadd, 1) := by decide +kernel
theorem d_law_209 : decode code 209 = .ok (.iaload, 1) := by decide +kernel
theorem d_law_210 : decode code 210 = .ok (.aload_n 0, 1) := by decide +kernel
theorem d_law_211 : decode code 211 = .ok (.iload_n 3, 1) := by decide +kernel
theorem d_law_212 : decode code 212 = .ok (.iconst 3, 1) := by decide +kernel
theorem d_law_213 : decode code 213 = .ok (.iadd, 1) := by decide +kernel
theorem d_law_214 : decode code 214 = .ok (.iaload, 1) := by decide +kernel
theorem d_law_215 : decode code 215 = .ok (.aload_n 0, 1) := by decide +kernel
theorem d_law_216 : decode code 216 = .ok (.iload_n 3, 1) := by decide +kernel
theorem d_law_217 : decode code 217 = .ok (.iconst 4, 1) := by decide +kernel
theorem d_law_218 : decode code 218 = .ok (.iadd, 1) := by decide +kernel
theorem d_law_219 : decode code 219 = .ok (.iaload, 1) := by decide +kernel
theorem d_law_220 : decode code 220 = .ok (.invokevirtual 22, 3) := by decide +kernel
theorem d_law_223 : decode code 223 = .ok (.if_icmp .eq 911, 3) := by decide +kernel
theorem d_law_228 : decode code 228 = .ok (.aload_n 1, 1) := by decide +kernel
theorem d_law_229 : decode code 229 = .ok (.aload_n 0, 1) := by decide +kernel
theorem d_law_230 : decode code 230 = .ok (.iload_n 3, 1) := by decide +kernel
theorem d_law_231 : decode code 231 = .ok (.iconst 1, 1) := by decide +kernel
theorem d_law_232 : decode code 232 = .ok (.iadd, 1) := by decide +kernel
theorem d_law_233 : decode code 233 = .ok (.iaload, 1) := by decide +kernel
theorem d_law_234 : decode code 234 = .ok (.aload_n 0, 1) := by decide +kernel
theorem d_law_235 : decode code 235 = .ok (.iload_n 3, 1) := by decide +kernel
theorem d_law_236 : decode code 236 = .ok (.iconst 2, 1) := by decide +kernel
theorem d_law_237 : decode code 237 = .ok (.iadd, 1) := by decide +kernel
theorem d_law_238 : decode code 238 = .ok (.iaload, 1) := by decide +kernel
theorem d_law_239 : decode code 239 = .ok (.aload_n 0, 1) := by decide +kernel
theorem d_law_240 : decode code 240 = .ok (.iload_n 3, 1) := by decide +kernel
theorem d_law_241 : decode code 241 = .ok (.iconst 3, 1) := by decide +kernel
theorem d_law_242 : decode code 242 = .ok (.iadd, 1) := by decide +kernel
theorem d_law_243 : decode code 243 = .ok (.iaload, 1) := by decide +kernel
theorem d_law_244 : decode code 244 = .ok (.invokevirtual 23, 3) := by decide +kernel
theorem d_law_247 : decode code 247 = .ok (.aload_n 2, 1) := by decide +kernel
theorem d_law_248 : decode code 248 = .ok (.aload_n 0, 1) := by decide +kernel
theorem d_law_249 : decode code 249 = .ok (.iload_n 3, 1) := by decide +kernel
theorem d_law_250 : decode code 250 = .ok (.iconst 1, 1) := by decide +kernel
theorem d_law_251 : decode code 251 = .ok (.iadd, 1) := by decide +kernel
theorem d_law_252 : decode code 252 = .ok (.iaload, 1) := by decide +kernel
theorem d_law_253 : decode code 253 = .ok (.aload_n 0, 1) := by decide +kernel
theorem d_law_254 : decode code 254 = .ok (.iload_n 3, 1) := by decide +kernel
theorem d_law_255 : decode code 255 = .ok (.iconst 2, 1) := by decide +kernel
theorem d_law_256 : decode code 256 = .ok (.iadd, 1) := by decide +kernel
theorem d_law_257 : decode code 257 = .ok (.iaload, 1) := by decide +kernel
theorem d_law_258 : decode code 258 = .ok (.aload_n 0, 1) := by decide +kernel
theorem d_law_259 : decode code 259 = .ok (.iload_n 3, 1) := by decide +kernel
theorem d_law_260 : decode code 260 = .ok (.iconst 3, 1) := by decide +kernel
theorem d_law_261 : decode code 261 = .ok (.iadd, 1) := by decide +kernel
theorem d_law_262 : decode code 262 = .ok (.iaload, 1) := by decide +kernel
theorem d_law_263 : decode code 263 = .ok (.invokevirtual 26, 3) := by decide +kernel
theorem d_law_266 : decode code 266 = .ok (.if_icmp .eq 868, 3) := by decide +kernel
theorem d_law_271 : decode code 271 = .ok (.aload_n 1, 1) := by decide +kernel
theorem d_law_272 : decode code 272 = .ok (.aload_n 0, 1) := by decide +kernel
theorem d_law_273 : decode code 273 = .ok (.iload_n 3, 1) := by decide +kernel
theorem d_law_274 : decode code 274 = .ok (.iconst 1, 1) := by decide +kernel
theorem d_law_275 : decode code 275 = .ok (.iadd, 1) := by decide +kernel
theorem d_law_276 : decode code 276 = .ok (.iaload, 1) := by decide +kernel
theorem d_law_277 : decode code 277 = .ok (.aload_n 0, 1) := by decide +kernel
theorem d_law_278 : decode code 278 = .ok (.iload_n 3, 1) := by decide +kernel
theorem d_law_279 : decode code 279 = .ok (.iconst 2, 1) := by decide +kernel
theorem d_law_280 : decode code 280 = .ok (.iadd, 1) := by decide +kernel
theorem d_law_281 : decode code 281 = .ok (.iaload, 1) := by decide +kernel
theorem d_law_282 : decode code 282 = .ok (.aload_n 0, 1) := by decide +kernel
theorem d_law_283 : decode code 283 = .ok (.iload_n 3, 1) := by decide +kernel
theorem d_law_284 : decode code 284 = .ok (.iconst 3, 1) := by decide +kernel
theorem d_law_285 : decode code 285 = .ok (.iadd, 1) := by decide +kernel
theorem d_law_286 : decode code 286 = .ok (.iaload, 1) := by decide +kernel
theorem d_law_287 : decode code 287 = .ok (.invokevirtual 27, 3) := by decide +kernel
theorem d_law_290 : decode code 290 = .ok (.aload_n 2, 1) := by decide +kernel
theorem d_law_291 : decode code 291 = .ok (.aload_n 0, 1) := by decide +kernel
theorem d_law_292 : decode code 292 = .ok (.iload_n 3, 1) := by decide +kernel
theorem d_law_293 : decode code 293 = .ok (.iconst 1, 1) := by decide +kernel
theorem d_law_294 : decode code 294 = .ok (.iadd, 1) := by decide +kernel
theorem d_law_295 : decode code 295 = .ok (.iaload, 1) := by decide +kernel
theorem d_law_296 : decode code 296 = .ok (.aload_n 0, 1) := by decide +kernel
theorem d_law_297 : decode code 297 = .ok (.iload_n 3, 1) := by decide +kernel
theorem d_law_298 : decode code 298 = .ok (.iconst 2, 1) := by decide +kernel
theorem d_law_299 : decode code 299 = .ok (.iadd, 1) := by decide +kernel
theorem d_law_300 : decode code 300 = .ok (.iaload, 1) := by decide +kernel
theorem d_law_301 : decode code 301 = .ok (.aload_n 0, 1) := by decide +kernel
theorem d_law_302 : decode code 302 = .ok (.iload_n 3, 1) := by decide +kernel
theorem d_law_303 : decode code 303 = .ok (.iconst 3, 1) := by decide +kernel
theorem d_law_304 : decode code 304 = .ok (.iadd, 1) := by decide +kernel
theorem d_law_305 : decode code 305 = .ok (.iaload, 1) := by decide +kernel
theorem d_law_306 : decode code 306 = .ok (.invokevirtual 30, 3) := by decide +kernel
theorem d_law_309 : decode code 309 = .ok (.if_icmp .eq 825, 3) := by decide +kernel
theorem d_law_314 : decode code 314 = .ok (.aload_n 1, 1) := by decide +kernel
theorem d_law_315 : decode code 315 = .ok (.aload_n 0, 1) := by decide +kernel
theorem d_law_316 : decode code 316 = .ok (.iload_n 3, 1) := by decide +kernel
theorem d_law_317 : decode code 317 = .ok (.iconst 1, 1) := by decide +kernel
theorem d_law_318 : decode code 318 = .ok (.iadd, 1) := by decide +kernel
theorem d_law_319 : decode code 319 = .ok (.iaload, 1) := by decide +kernel
theorem d_law_320 : decode code 320 = .ok (.invokevirtual 31, 3) := by decide +kernel
theorem d_law_323 : decode code 323 = .ok (.aload_n 2, 1) := by decide +kernel
theorem d_law_324 : decode code 324 = .ok (.aload_n 0, 1) := by decide +kernel
theorem d_law_325 : decode code 325 = .ok (.iload_n 3, 1) := by decide +kernel
theorem d_law_326 : decode code 326 = .ok (.iconst 1, 1) := by decide +kernel
theorem d_law_327 : decode code 327 = .ok (.iadd, 1) := by decide +kernel
theorem d_law_328 : decode code 328 = .ok (.iaload, 1) := by decide +kernel
theorem d_law_329 : decode code 329 = .ok (.invokevirtual 35, 3) := by decide +kernel
theorem d_law_332 : decode code 332 = .ok (.if_icmp .eq 802, 3) := by decide +kernel
theorem d_law_337 : decode code 337 = .ok (.aload_n 1, 1) := by decide +kernel
theorem d_law_338 : decode code 338 = .ok (.aload_n 0, 1) := by decide +kernel
theorem d_law_339 : decode code 339 = .ok (.iload_n 3, 1) := by decide +kernel
theorem d_law_340 : decode code 340 = .ok (.iconst 1, 1) := by decide +kernel
theorem d_law_341 : decode code 341 = .ok (.iadd, 1) := by decide +kernel
theorem d_law_342 : decode code 342 = .ok (.iaload, 1) := by decide +kernel
theorem d_law_343 : decode code 343 = .ok (.aload_n 0, 1) := by decide +kernel
theorem d_law_344 : decode code 344 = .ok (.iload_n 3, 1) := by decide +kernel
theorem d_law_345 : decode code 345 = .ok (.iconst 2, 1) := by decide +kernel
theorem d_law_346 : decode code 346 = .ok (.iadd, 1) := by decide +kernel
theorem d_law_347 : decode code 347 = .ok (.iaload, 1) := by decide +kernel
theorem d_law_348 : decode code 348 = .ok (.i2l, 1) := by decide +kernel
theorem d_law_349 : decode code 349 = .ok (.bipush 32, 2) := by decide +kernel
theorem d_law_351 : decode code 351 = .ok (.lshl, 1) := by decide +kernel
theorem d_law_352 : decode code 352 = .ok (.aload_n 0, 1) := by decide +kernel
theorem d_law_353 : decode code 353 = .ok (.iload_n 3, 1) := by decide +kernel
theorem d_law_354 : decode code 354 = .ok (.iconst 3, 1) := by decide +kernel
theorem d_law_355 : decode code 355 = .ok (.iadd, 1) := by decide +kernel
theorem d_law_356 : decode code 356 = .ok (.iaload, 1) := by decide +kernel
theorem d_law_357 : decode code 357 = .ok (.i2l, 1) := by decide +kernel
theorem d_law_358 : decode code 358 = .ok (.ldc2_w 36, 3) := by decide +kernel
theorem d_law_361 : decode code 361 = .ok (.land, 1) := by decide +kernel
theorem d_law_362 : decode code 362 = .ok (.lor, 1) := by decide +kernel
theorem d_law_363 : decode code 363 = .ok (.invokevirtual 38, 3) := by decide +kernel
theorem d_law_366 : decode code 366 = .ok (.aload_n 2, 1) := by decide +kernel
theorem d_law_367 : decode code 367 = .ok (.aload_n 0, 1) := by decide +kernel
theorem d_law_368 : decode code 368 = .ok (.iload_n 3, 1) := by decide +kernel
theorem d_law_369 : decode code 369 = .ok (.iconst 1, 1) := by decide +kernel
theorem d_law_370 : decode code 370 = .ok (.iadd, 1) := by decide +kernel
theorem d_law_371 : decode code 371 = .ok (.iaload, 1) := by decide +kernel
theorem d_law_372 : decode code 372 = .ok (.aload_n 0, 1) := by decide +kernel
theorem d_law_373 : decode code 373 = .ok (.iload_n 3, 1) := by decide +kernel
theorem d_law_374 : decode code 374 = .ok (.iconst 2, 1) := by decide +kernel
theorem d_law_375 : decode code 375 = .ok (.iadd, 1) := by decide +kernel
theorem d_law_376 : decode code 376 = .ok (.iaload, 1) := by decide +kernel
theorem d_law_377 : decode code 377 = .ok (.i2l, 1) := by decide +kernel
theorem d_law_378 : decode code 378 = .ok (.bipush 32, 2) := by decide +kernel
theorem d_law_380 : decode code 380 = .ok (.lshl, 1) := by decide +kernel
theorem d_law_381 : decode code 381 = .ok (.aload_n 0, 1) := by decide +kernel
theorem d_law_382 : decode code 382 = .ok (.iload_n 3, 1) := by decide +kernel
theorem d_law_383 : decode code 383 = .ok (.iconst 3, 1) := by decide +kernel
theorem d_law_384 : decode code 384 = .ok (.iadd, 1) := by decide +kernel
theorem d_law_385 : decode code 385 = .ok (.iaload, 1) := by decide +kernel
theorem d_law_386 : decode code 386 = .ok (.i2l, 1) := by decide +kernel
theorem d_law_387 : decode code 387 = .ok (.ldc2_w 36, 3) := by decide +kernel
theorem d_law_390 : decode code 390 = .ok (.land, 1) := by decide +kernel
theorem d_law_391 : decode code 391 = .ok (.lor, 1) := by decide +kernel
theorem d_law_392 : decode code 392 = .ok (.invokevirtual 42, 3) := by decide +kernel
theorem d_law_395 : decode code 395 = .ok (.if_icmp .eq 739, 3) := by decide +kernel
theorem d_law_400 : decode code 400 = .ok (.aload_n 1, 1) := by decide +kernel
theorem d_law_401 : decode code 401 = .ok (.invokevirtual 43, 3) := by decide +kernel
theorem d_law_404 : decode code 404 = .ok (.aload_n 2, 1) := by decide +kernel
theorem d_law_405 : decode code 405 = .ok (.invokevirtual 47, 3) := by decide +kernel
theorem d_law_408 : decode code 408 = .ok (.if_icmp .eq 726, 3) := by decide +kernel
theorem d_law_413 : decode code 413 = .ok (.aload_n 1, 1) := by decide +kernel
theorem d_law_414 : decode code 414 = .ok (.invokevirtual 48, 3) := by decide +kernel
theorem d_law_417 : decode code 417 = .ok (.aload_n 2, 1) := by decide +kernel
theorem d_law_418 : decode code 418 = .ok (.invokevirtual 51, 3) := by decide +kernel
theorem d_law_421 : decode code 421 = .ok (.if_icmp .eq 713, 3) := by decide +kernel
theorem d_law_426 : decode code 426 = .ok (.aload_n 1, 1) := by decide +kernel
theorem d_law_427 : decode code 427 = .ok (.aload_n 0, 1) := by decide +kernel
theorem d_law_428 : decode code 428 = .ok (.iload_n 3, 1) := by decide +kernel
theorem d_law_429 : decode code 429 = .ok (.iconst 1, 1) := by decide +kernel
theorem d_law_430 : decode code 430 = .ok (.iadd, 1) := by decide +kernel
theorem d_law_431 : decode code 431 = .ok (.iaload, 1) := by decide +kernel
theorem d_law_432 : decode code 432 = .ok (.aload_n 0, 1) := by decide +kernel
theorem d_law_433 : decode code 433 = .ok (.iload_n 3, 1) := by decide +kernel
theorem d_law_434 : decode code 434 = .ok (.iconst 2, 1) := by decide +kernel
theorem d_law_435 : decode code 435 = .ok (.iadd, 1) := by decide +kernel
theorem d_law_436 : decode code 436 = .ok (.iaload, 1) := by decide +kernel
theorem d_law_437 : decode code 437 = .ok (.aload_n 0, 1) := by decide +kernel
theorem d_law_438 : decode code 438 = .ok (.iload_n 3, 1) := by decide +kernel
theorem d_law_439 : decode code 439 = .ok (.iconst 3, 1) := by decide +kernel
theorem d_law_440 : decode code 440 = .ok (.iadd, 1) := by decide +kernel
theorem d_law_441 : decode code 441 = .ok (.iaload, 1) := by decide +kernel
theorem d_law_442 : decode code 442 = .ok (.aload_n 0, 1) := by decide +kernel
theorem d_law_443 : decode code 443 = .ok (.iload_n 3, 1) := by decide +kernel
theorem d_law_444 : decode code 444 = .ok (.iconst 4, 1) := by decide +kernel
theorem d_law_445 : decode code 445 = .ok (.iadd, 1) := by decide +kernel
theorem d_law_446 : decode code 446 = .ok (.iaload, 1) := by decide +kernel
theorem d_law_447 : decode code 447 = .ok (.aload_n 0, 1) := by decide +kernel
theorem d_law_448 : decode code 448 = .ok (.iload_n 3, 1) := by decide +kernel
theorem d_law_449 : decode code 449 = .ok (.iconst 5, 1) := by decide +kernel
theorem d_law_450 : decode code 450 = .ok (.iadd, 1) := by decide +kernel
theorem d_law_451 : decode code 451 = .ok (.iaload, 1) := by decide +kernel
theorem d_law_452 : decode code 452 = .ok (.invokevirtual 52, 3) := by decide +kernel
theorem d_law_455 : decode code 455 = .ok (.aload_n 2, 1) := by decide +kernel
theorem d_law_456 : decode code 456 = .ok (.aload_n 0, 1) := by decide +kernel
theorem d_law_457 : decode code 457 = .ok (.iload_n 3, 1) := by decide +kernel
theorem d_law_458 : decode code 458 = .ok (.iconst 1, 1) := by decide +kernel
theorem d_law_459 : decode code 459 = .ok (.iadd, 1) := by decide +kernel
theorem d_law_460 : decode code 460 = .ok (.iaload, 1) := by decide +kernel
theorem d_law_461 : decode code 461 = .ok (.aload_n 0, 1) := by decide +kernel
theorem d_law_462 : decode code 462 = .ok (.iload_n 3, 1) := by decide +kernel
theorem d_law_463 : decode code 463 = .ok (.iconst 2, 1) := by decide +kernel
theorem d_law_464 : decode code 464 = .ok (.iadd, 1) := by decide +kernel
theorem d_law_465 : decode code 465 = .ok (.iaload, 1) := by decide +kernel
theorem d_law_466 : decode code 466 = .ok (.aload_n 0, 1) := by decide +kernel
theorem d_law_467 : decode code 467 = .ok (.iload_n 3, 1) := by decide +kernel
theorem d_law_468 : decode code 468 = .ok (.iconst 3, 1) := by decide +kernel
theorem d_law_469 : decode code 469 = .ok (.iadd, 1) := by decide +kernel
theorem d_law_470 : decode code 470 = .ok (.iaload, 1) := by decide +kernel
theorem d_law_471 : decode code 471 = .ok (.aload_n 0, 1) := by decide +kernel
theorem d_law_472 : decode code 472 = .ok (.iload_n 3, 1) := by decide +kernel
theorem d_law_473 : decode code 473 = .ok (.iconst 4, 1) := by decide +kernel
theorem d_law_474 : decode code 474 = .ok (.iadd, 1) := by decide +kernel
theorem d_law_475 : decode code 475 = .ok (.iaload, 1) := by decide +kernel
theorem d_law_476 : decode code 476 = .ok (.aload_n 0, 1) := by decide +kernel
theorem d_law_477 : decode code 477 = .ok (.iload_n 3, 1) := by decide +kernel
theorem d_law_478 : decode code 478 = .ok (.iconst 5, 1) := by decide +kernel
theorem d_law_479 : decode code 479 = .ok (.iadd, 1) := by decide +kernel
theorem d_law_480 : decode code 480 = .ok (.iaload, 1) := by decide +kernel
theorem d_law_481 : decode code 481 = .ok (.invokevirtual 56, 3) := by decide +kernel
theorem d_law_484 : decode code 484 = .ok (.lcmp, 1) := by decide +kernel
theorem d_law_485 : decode code 485 = .ok (.ifCond .eq 649, 3) := by decide +kernel
theorem d_law_490 : decode code 490 = .ok (.aload_n 1, 1) := by decide +kernel
theorem d_law_491 : decode code 491 = .ok (.aload_n 0, 1) := by decide +kernel
theorem d_law_492 : decode code 492 = .ok (.iload_n 3, 1) := by decide +kernel
theorem d_law_493 : decode code 493 = .ok (.iconst 1, 1) := by decide +kernel
theorem d_law_494 : decode code 494 = .ok (.iadd, 1) := by decide +kernel
theorem d_law_495 : decode code 495 = .ok (.iaload, 1) := by decide +kernel
theorem d_law_496 : decode code 496 = .ok (.aload_n 0, 1) := by decide +kernel
theorem d_law_497 : decode code 497 = .ok (.iload_n 3, 1) := by decide +kernel
theorem d_law_498 : decode code 498 = .ok (.iconst 2, 1) := by decide +kernel
theorem d_law_499 : decode code 499 = .ok (.iadd, 1) := by decide +kernel
theorem d_law_500 : decode code 500 = .ok (.iaload, 1) := by decide +kernel
theorem d_law_501 : decode code 501 = .ok (.aload_n 0, 1) := by decide +kernel
theorem d_law_502 : decode code 502 = .ok (.iload_n 3, 1) := by decide +kernel
theorem d_law_503 : decode code 503 = .ok (.iconst 3, 1) := by decide +kernel
theorem d_law_504 : decode code 504 = .ok (.iadd, 1) := by decide +kernel
theorem d_law_505 : decode code 505 = .ok (.iaload, 1) := by decide +kernel
theorem d_law_506 : decode code 506 = .ok (.aload_n 0, 1) := by decide +kernel
theorem d_law_507 : decode code 507 = .ok (.iload_n 3, 1) := by decide +kernel
theorem d_law_508 : decode code 508 = .ok (.iconst 4, 1) := by decide +kernel
theorem d_law_509 : decode code 509 = .ok (.iadd, 1) := by decide +kernel
theorem d_law_510 : decode code 510 = .ok (.iaload, 1) := by decide +kernel
theorem d_law_511 : decode code 511 = .ok (.aload_n 0, 1) := by decide +kernel
theorem d_law_512 : decode code 512 = .ok (.iload_n 3, 1) := by decide +kernel
theorem d_law_513 : decode code 513 = .ok (.iconst 5, 1) := by decide +kernel
theorem d_law_514 : decode code 514 = .ok (.iadd, 1) := by decide +kernel
theorem d_law_515 : decode code 515 = .ok (.iaload, 1) := by decide +kernel
theorem d_law_516 : decode code 516 = .ok (.invokevirtual 57, 3) := by decide +kernel
theorem d_law_519 : decode code 519 = .ok (.aload_n 2, 1) := by decide +kernel
theorem d_law_520 : decode code 520 = .ok (.aload_n 0, 1) := by decide +kernel
theorem d_law_521 : decode code 521 = .ok (.iload_n 3, 1) := by decide +kernel
theorem d_law_522 : decode code 522 = .ok (.iconst 1, 1) := by decide +kernel
theorem d_law_523 : decode code 523 = .ok (.iadd, 1) := by decide +kernel
theorem d_law_524 : decode code 524 = .ok (.iaload, 1) := by decide +kernel
theorem d_law_525 : decode code 525 = .ok (.aload_n 0, 1) := by decide +kernel
theorem d_law_526 : decode code 526 = .ok (.iload_n 3, 1) := by decide +kernel
theorem d_law_527 : decode code 527 = .ok (.iconst 2, 1) := by decide +kernel
theorem d_law_528 : decode code 528 = .ok (.iadd, 1) := by decide +kernel
theorem d_law_529 : decode code 529 = .ok (.iaload, 1) := by decide +kernel
theorem d_law_530 : decode code 530 = .ok (.aload_n 0, 1) := by decide +kernel
theorem d_law_531 : decode code 531 = .ok (.iload_n 3, 1) := by decide +kernel
theorem d_law_532 : decode code 532 = .ok (.iconst 3, 1) := by decide +kernel
theorem d_law_533 : decode code 533 = .ok (.iadd, 1) := by decide +kernel
theorem d_law_534 : decode code 534 = .ok (.iaload, 1) := by decide +kernel
theorem d_law_535 : decode code 535 = .ok (.aload_n 0, 1) := by decide +kernel
theorem d_law_536 : decode code 536 = .ok (.iload_n 3, 1) := by decide +kernel
theorem d_law_537 : decode code 537 = .ok (.iconst 4, 1) := by decide +kernel
theorem d_law_538 : decode code 538 = .ok (.iadd, 1) := by decide +kernel
theorem d_law_539 : decode code 539 = .ok (.iaload, 1) := by decide +kernel
theorem d_law_540 : decode code 540 = .ok (.aload_n 0, 1) := by decide +kernel
theorem d_law_541 : decode code 541 = .ok (.iload_n 3, 1) := by decide +kernel
theorem d_law_542 : decode code 542 = .ok (.iconst 5, 1) := by decide +kernel
theorem d_law_543 : decode code 543 = .ok (.iadd, 1) := by decide +kernel
theorem d_law_544 : decode code 544 = .ok (.iaload, 1) := by decide +kernel
theorem d_law_545 : decode code 545 = .ok (.invokevirtual 61, 3) := by decide +kernel
theorem d_law_548 : decode code 548 = .ok (.if_icmp .eq 586, 3) := by decide +kernel
theorem d_law_553 : decode code 553 = .ok (.aload_n 1, 1) := by decide +kernel
theorem d_law_554 : decode code 554 = .ok (.aload_n 0, 1) := by decide +kernel
theorem d_law_555 : decode code 555 = .ok (.iload_n 3, 1) := by decide +kernel
theorem d_law_556 : decode code 556 = .ok (.iconst 1, 1) := by decide +kernel
theorem d_law_557 : decode code 557 = .ok (.iadd, 1) := by decide +kernel
theorem d_law_558 : decode code 558 = .ok (.iaload, 1) := by decide +kernel
theorem d_law_559 : decode code 559 = .ok (.aload_n 0, 1) := by decide +kernel
theorem d_law_560 : decode code 560 = .ok (.iload_n 3, 1) := by decide +kernel
theorem d_law_561 : decode code 561 = .ok (.iconst 2, 1) := by decide +kernel
theorem d_law_562 : decode code 562 = .ok (.iadd, 1) := by decide +kernel
theorem d_law_563 : decode code 563 = .ok (.iaload, 1) := by decide +kernel
theorem d_law_564 : decode code 564 = .ok (.aload_n 0, 1) := by decide +kernel
theorem d_law_565 : decode code 565 = .ok (.iload_n 3, 1) := by decide +kernel
theorem d_law_566 : decode code 566 = .ok (.iconst 3, 1) := by decide +kernel
theorem d_law_567 : decode code 567 = .ok (.iadd, 1) := by decide +kernel
theorem d_law_568 : decode code 568 = .ok (.iaload, 1) := by decide +kernel
theorem d_law_569 : decode code 569 = .ok (.invokevirtual 62, 3) := by decide +kernel
theorem d_law_572 : decode code 572 = .ok (.aload_n 2, 1) := by decide +kernel
theorem d_law_573 : decode code 573 = .ok (.aload_n 0, 1) := by decide +kernel
theorem d_law_574 : decode code 574 = .ok (.iload_n 3, 1) := by decide +kernel
theorem d_law_575 : decode code 575 = .ok (.iconst 1, 1) := by decide +kernel
theorem d_law_576 : decode code 576 = .ok (.iadd, 1) := by decide +kernel
theorem d_law_577 : decode code 577 = .ok (.iaload, 1) := by decide +kernel
theorem d_law_578 : decode code 578 = .ok (.aload_n 0, 1) := by decide +kernel
theorem d_law_579 : decode code 579 = .ok (.iload_n 3, 1) := by decide +kernel
theorem d_law_580 : decode code 580 = .ok (.iconst 2, 1) := by decide +kernel
theorem d_law_581 : decode code 581 = .ok (.iadd, 1) := by decide +kernel
theorem d_law_582 : decode code 582 = .ok (.iaload, 1) := by decide +kernel
theorem d_law_583 : decode code 583 = .ok (.aload_n 0, 1) := by decide +kernel
theorem d_law_584 : decode code 584 = .ok (.iload_n 3, 1) := by decide +kernel
theorem d_law_585 : decode code 585 = .ok (.iconst 3, 1) := by decide +kernel
theorem d_law_586 : decode code 586 = .ok (.iadd, 1) := by decide +kernel
theorem d_law_587 : decode code 587 = .ok (.iaload, 1) := by decide +kernel
theorem d_law_588 : decode code 588 = .ok (.invokevirtual 65, 3) := by decide +kernel
theorem d_law_591 : decode code 591 = .ok (.if_icmp .eq 543, 3) := by decide +kernel
theorem d_law_596 : decode code 596 = .ok (.aload_n 1, 1) := by decide +kernel
theorem d_law_597 : decode code 597 = .ok (.aload_n 0, 1) := by decide +kernel
theorem d_law_598 : decode code 598 = .ok (.iload_n 3, 1) := by decide +kernel
theorem d_law_599 : decode code 599 = .ok (.iconst 1, 1) := by decide +kernel
theorem d_law_600 : decode code 600 = .ok (.iadd, 1) := by decide +kernel
theorem d_law_601 : decode code 601 = .ok (.iaload, 1) := by decide +kernel
theorem d_law_602 : decode code 602 = .ok (.aload_n 0, 1) := by decide +kernel
theorem d_law_603 : decode code 603 = .ok (.iload_n 3, 1) := by decide +kernel
theorem d_law_604 : decode code 604 = .ok (.iconst 2, 1) := by decide +kernel
theorem d_law_605 : decode code 605 = .ok (.iadd, 1) := by decide +kernel
theorem d_law_606 : decode code 606 = .ok (.iaload, 1) := by decide +kernel
theorem d_law_607 : decode code 607 = .ok (.aload_n 0, 1) := by decide +kernel
theorem d_law_608 : decode code 608 = .ok (.iload_n 3, 1) := by decide +kernel
theorem d_law_609 : decode code 609 = .ok (.iconst 3, 1) := by decide +kernel
theorem d_law_610 : decode code 610 = .ok (.iadd, 1) := by decide +kernel
theorem d_law_611 : decode code 611 = .ok (.iaload, 1) := by decide +kernel
theorem d_law_612 : decode code 612 = .ok (.aload_n 0, 1) := by decide +kernel
theorem d_law_613 : decode code 613 = .ok (.iload_n 3, 1) := by decide +kernel
theorem d_law_614 : decode code 614 = .ok (.iconst 4, 1) := by decide +kernel
theorem d_law_615 : decode code 615 = .ok (.iadd, 1) := by decide +kernel
theorem d_law_616 : decode code 616 = .ok (.iaload, 1) := by decide +kernel
theorem d_law_617 : decode code 617 = .ok (.invokevirtual 66, 3) := by decide +kernel
theorem d_law_620 : decode code 620 = .ok (.aload_n 2, 1) := by decide +kernel
theorem d_law_621 : decode code 621 = .ok (.aload_n 0, 1) := by decide +kernel
theorem d_law_622 : decode code 622 = .ok (.iload_n 3, 1) := by decide +kernel
theorem d_law_623 : decode code 623 = .ok (.iconst 1, 1) := by decide +kernel
theorem d_law_624 : decode code 624 = .ok (.iadd, 1) := by decide +kernel
theorem d_law_625 : decode code 625 = .ok (.iaload, 1) := by decide +kernel
theorem d_law_626 : decode code 626 = .ok (.aload_n 0, 1) := by decide +kernel
theorem d_law_627 : decode code 627 = .ok (.iload_n 3, 1) := by decide +kernel
theorem d_law_628 : decode code 628 = .ok (.iconst 2, 1) := by decide +kernel
theorem d_law_629 : decode code 629 = .ok (.iadd, 1) := by decide +kernel
theorem d_law_630 : decode code 630 = .ok (.iaload, 1) := by decide +kernel
theorem d_law_631 : decode code 631 = .ok (.aload_n 0, 1) := by decide +kernel
theorem d_law_632 : decode code 632 = .ok (.iload_n 3, 1) := by decide +kernel
theorem d_law_633 : decode code 633 = .ok (.iconst 3, 1) := by decide +kernel
theorem d_law_634 : decode code 634 = .ok (.iadd, 1) := by decide +kernel
theorem d_law_635 : decode code 635 = .ok (.iaload, 1) := by decide +kernel
theorem d_law_636 : decode code 636 = .ok (.aload_n 0, 1) := by decide +kernel
theorem d_law_637 : decode code 637 = .ok (.iload_n 3, 1) := by decide +kernel
theorem d_law_638 : decode code 638 = .ok (.iconst 4, 1) := by decide +kernel
theorem d_law_639 : decode code 639 = .ok (.iadd, 1) := by decide +kernel
theorem d_law_640 : decode code 640 = .ok (.iaload, 1) := by decide +kernel
theorem d_law_641 : decode code 641 = .ok (.invokevirtual 69, 3) := by decide +kernel
theorem d_law_644 : decode code 644 = .ok (.if_icmp .eq 490, 3) := by decide +kernel
theorem d_law_649 : decode code 649 = .ok (.aload_n 1, 1) := by decide +kernel
theorem d_law_650 : decode code 650 = .ok (.aload_n 0, 1) := by decide +kernel
theorem d_law_651 : decode code 651 = .ok (.iload_n 3, 1) := by decide +kernel
theorem d_law_652 : decode code 652 = .ok (.iconst 1, 1) := by decide +kernel
theorem d_law_653 : decode code 653 = .ok (.iadd, 1) := by decide +kernel
theorem d_law_654 : decode code 654 = .ok (.iaload, 1) := by decide +kernel
theorem d_law_655 : decode code 655 = .ok (.invokevirtual 70, 3) := by decide +kernel
theorem d_law_658 : decode code 658 = .ok (.aload_n 2, 1) := by decide +kernel
theorem d_law_659 : decode code 659 = .ok (.aload_n 0, 1) := by decide +kernel
theorem d_law_660 : decode code 660 = .ok (.iload_n 3, 1) := by decide +kernel
theorem d_law_661 : decode code 661 = .ok (.iconst 1, 1) := by decide +kernel
theorem d_law_662 : decode code 662 = .ok (.iadd, 1) := by decide +kernel
theorem d_law_663 : decode code 663 = .ok (.iaload, 1) := by decide +kernel
theorem d_law_664 : decode code 664 = .ok (.invokevirtual 73, 3) := by decide +kernel
theorem d_law_667 : decode code 667 = .ok (.if_icmp .eq 467, 3) := by decide +kernel
theorem d_law_672 : decode code 672 = .ok (.aload_n 1, 1) := by decide +kernel
theorem d_law_673 : decode code 673 = .ok (.aload_n 0, 1) := by decide +kernel
theorem d_law_674 : decode code 674 = .ok (.iload_n 3, 1) := by decide +kernel
theorem d_law_675 : decode code 675 = .ok (.iconst 1, 1) := by decide +kernel
theorem d_law_676 : decode code 676 = .ok (.iadd, 1) := by decide +kernel
theorem d_law_677 : decode code 677 = .ok (.iaload, 1) := by decide +kernel
theorem d_law_678 : decode code 678 = .ok (.aload_n 0, 1) := by decide +kernel
theorem d_law_679 : decode code 679 = .ok (.iload_n 3, 1) := by decide +kernel
theorem d_law_680 : decode code 680 = .ok (.iconst 2, 1) := by decide +kernel
theorem d_law_681 : decode code 681 = .ok (.iadd, 1) := by decide +kernel
theorem d_law_682 : decode code 682 = .ok (.iaload, 1) := by decide +kernel
theorem d_law_683 : decode code 683 = .ok (.aload_n 0, 1) := by decide +kernel
theorem d_law_684 : decode code 684 = .ok (.iload_n 3, 1) := by decide +kernel
theorem d_law_685 : decode code 685 = .ok (.iconst 3, 1) := by decide +kernel
theorem d_law_686 : decode code 686 = .ok (.iadd, 1) := by decide +kernel
theorem d_law_687 : decode code 687 = .ok (.iaload, 1) := by decide +kernel
theorem d_law_688 : decode code 688 = .ok (.aload_n 0, 1) := by decide +kernel
theorem d_law_689 : decode code 689 = .ok (.iload_n 3, 1) := by decide +kernel
theorem d_law_690 : decode code 690 = .ok (.iconst 4, 1) := by decide +kernel
theorem d_law_691 : decode code 691 = .ok (.iadd, 1) := by decide +kernel
theorem d_law_692 : decode code 692 = .ok (.iaload, 1) := by decide +kernel
theorem d_law_693 : decode code 693 = .ok (.aload_n 0, 1) := by decide +kernel
theorem d_law_694 : decode code 694 = .ok (.iload_n 3, 1) := by decide +kernel
theorem d_law_695 : decode code 695 = .ok (.iconst 5, 1) := by decide +kernel
theorem d_law_696 : decode code 696 = .ok (.iadd, 1) := by decide +kernel
theorem d_law_697 : decode code 697 = .ok (.iaload, 1) := by decide +kernel
theorem d_law_698 : decode code 698 = .ok (.invokevirtual 74, 3) := by decide +kernel
theorem d_law_701 : decode code 701 = .ok (.aload_n 2, 1) := by decide +kernel
theorem d_law_702 : decode code 702 = .ok (.aload_n 0, 1) := by decide +kernel
theorem d_law_703 : decode code 703 = .ok (.iload_n 3, 1) := by decide +kernel
theorem d_law_704 : decode code 704 = .ok (.iconst 1, 1) := by decide +kernel
theorem d_law_705 : decode code 705 = .ok (.iadd, 1) := by decide +kernel
theorem d_law_706 : decode code 706 = .ok (.iaload, 1) := by decide +kernel
theorem d_law_707 : decode code 707 = .ok (.aload_n 0, 1) := by decide +kernel
theorem d_law_708 : decode code 708 = .ok (.iload_n 3, 1) := by decide +kernel
theorem d_law_709 : decode code 709 = .ok (.iconst 2, 1) := by decide +kernel
theorem d_law_710 : decode code 710 = .ok (.iadd, 1) := by decide +kernel
theorem d_law_711 : decode code 711 = .ok (.iaload, 1) := by decide +kernel
theorem d_law_712 : decode code 712 = .ok (.aload_n 0, 1) := by decide +kernel
theorem d_law_713 : decode code 713 = .ok (.iload_n 3, 1) := by decide +kernel
theorem d_law_714 : decode code 714 = .ok (.iconst 3, 1) := by decide +kernel
theorem d_law_715 : decode code 715 = .ok (.iadd, 1) := by decide +kernel
theorem d_law_716 : decode code 716 = .ok (.iaload, 1) := by decide +kernel
theorem d_law_717 : decode code 717 = .ok (.aload_n 0, 1) := by decide +kernel
theorem d_law_718 : decode code 718 = .ok (.iload_n 3, 1) := by decide +kernel
theorem d_law_719 : decode code 719 = .ok (.iconst 4, 1) := by decide +kernel
theorem d_law_720 : decode code 720 = .ok (.iadd, 1) := by decide +kernel
theorem d_law_721 : decode code 721 = .ok (.iaload, 1) := by decide +kernel
theorem d_law_722 : decode code 722 = .ok (.aload_n 0, 1) := by decide +kernel
theorem d_law_723 : decode code 723 = .ok (.iload_n 3, 1) := by decide +kernel
theorem d_law_724 : decode code 724 = .ok (.iconst 5, 1) := by decide +kernel
theorem d_law_725 : decode code 725 = .ok (.iadd, 1) := by decide +kernel
theorem d_law_726 : decode code 726 = .ok (.iaload, 1) := by decide +kernel
theorem d_law_727 : decode code 727 = .ok (.invokevirtual 77, 3) := by decide +kernel
theorem d_law_730 : decode code 730 = .ok (.lcmp, 1) := by decide +kernel
theorem d_law_731 : decode code 731 = .ok (.ifCond .eq 403, 3) := by decide +kernel
theorem d_law_736 : decode code 736 = .ok (.aload_n 1, 1) := by decide +kernel
theorem d_law_737 : decode code 737 = .ok (.aload_n 0, 1) := by decide +kernel
theorem d_law_738 : decode code 738 = .ok (.iload_n 3, 1) := by decide +kernel
theorem d_law_739 : decode code 739 = .ok (.iconst 1, 1) := by decide +kernel
theorem d_law_740 : decode code 740 = .ok (.iadd, 1) := by decide +kernel
theorem d_law_741 : decode code 741 = .ok (.iaload, 1) := by decide +kernel
theorem d_law_742 : decode code 742 = .ok (.aload_n 0, 1) := by decide +kernel
theorem d_law_743 : decode code 743 = .ok (.iload_n 3, 1) := by decide +kernel
theorem d_law_744 : decode code 744 = .ok (.iconst 2, 1) := by decide +kernel
theorem d_law_745 : decode code 745 = .ok (.iadd, 1) := by decide +kernel
theorem d_law_746 : decode code 746 = .ok (.iaload, 1) := by decide +kernel
theorem d_law_747 : decode code 747 = .ok (.aload_n 0, 1) := by decide +kernel
theorem d_law_748 : decode code 748 = .ok (.iload_n 3, 1) := by decide +kernel
theorem d_law_749 : decode code 749 = .ok (.iconst 3, 1) := by decide +kernel
theorem d_law_750 : decode code 750 = .ok (.iadd, 1) := by decide +kernel
theorem d_law_751 : decode code 751 = .ok (.iaload, 1) := by decide +kernel
theorem d_law_752 : decode code 752 = .ok (.invokevirtual 78, 3) := by decide +kernel
theorem d_law_755 : decode code 755 = .ok (.aload_n 2, 1) := by decide +kernel
theorem d_law_756 : decode code 756 = .ok (.aload_n 0, 1) := by decide +kernel
theorem d_law_757 : decode code 757 = .ok (.iload_n 3, 1) := by decide +kernel
theorem d_law_758 : decode code 758 = .ok (.iconst 1, 1) := by decide +kernel
theorem d_law_759 : decode code 759 = .ok (.iadd, 1) := by decide +kernel
theorem d_law_760 : decode code 760 = .ok (.iaload, 1) := by decide +kernel
theorem d_law_761 : decode code 761 = .ok (.aload_n 0, 1) := by decide +kernel
theorem d_law_762 : decode code 762 = .ok (.iload_n 3, 1) := by decide +kernel
theorem d_law_763 : decode code 763 = .ok (.iconst 2, 1) := by decide +kernel
theorem d_law_764 : decode code 764 = .ok (.iadd, 1) := by decide +kernel
theorem d_law_765 : decode code 765 = .ok (.iaload, 1) := by decide +kernel
theorem d_law_766 : decode code 766 = .ok (.aload_n 0, 1) := by decide +kernel
theorem d_law_767 : decode code 767 = .ok (.iload_n 3, 1) := by decide +kernel
theorem d_law_768 : decode code 768 = .ok (.iconst 3, 1) := by decide +kernel
theorem d_law_769 : decode code 769 = .ok (.iadd, 1) := by decide +kernel
theorem d_law_770 : decode code 770 = .ok (.iaload, 1) := by decide +kernel
theorem d_law_771 : decode code 771 = .ok (.invokevirtual 81, 3) := by decide +kernel
theorem d_law_774 : decode code 774 = .ok (.if_icmp .eq 360, 3) := by decide +kernel
theorem d_law_779 : decode code 779 = .ok (.aload_n 1, 1) := by decide +kernel
theorem d_law_780 : decode code 780 = .ok (.aload_n 0, 1) := by decide +kernel
theorem d_law_781 : decode code 781 = .ok (.iload_n 3, 1) := by decide +kernel
theorem d_law_782 : decode code 782 = .ok (.iconst 1, 1) := by decide +kernel
theorem d_law_783 : decode code 783 = .ok (.iadd, 1) := by decide +kernel
theorem d_law_784 : decode code 784 = .ok (.iaload, 1) := by decide +kernel
theorem d_law_785 : decode code 785 = .ok (.aload_n 0, 1) := by decide +kernel
theorem d_law_786 : decode code 786 = .ok (.iload_n 3, 1) := by decide +kernel
theorem d_law_787 : decode code 787 = .ok (.iconst 2, 1) := by decide +kernel
theorem d_law_788 : decode code 788 = .ok (.iadd, 1) := by decide +kernel
theorem d_law_789 : decode code 789 = .ok (.iaload, 1) := by decide +kernel
theorem d_law_790 : decode code 790 = .ok (.invokevirtual 82, 3) := by decide +kernel
theorem d_law_793 : decode code 793 = .ok (.aload_n 2, 1) := by decide +kernel
theorem d_law_794 : decode code 794 = .ok (.aload_n 0, 1) := by decide +kernel
theorem d_law_795 : decode code 795 = .ok (.iload_n 3, 1) := by decide +kernel
theorem d_law_796 : decode code 796 = .ok (.iconst 1, 1) := by decide +kernel
theorem d_law_797 : decode code 797 = .ok (.iadd, 1) := by decide +kernel
theorem d_law_798 : decode code 798 = .ok (.iaload, 1) := by decide +kernel
theorem d_law_799 : decode code 799 = .ok (.aload_n 0, 1) := by decide +kernel
theorem d_law_800 : decode code 800 = .ok (.iload_n 3, 1) := by decide +kernel
theorem d_law_801 : decode code 801 = .ok (.iconst 2, 1) := by decide +kernel
theorem d_law_802 : decode code 802 = .ok (.iadd, 1) := by decide +kernel
theorem d_law_803 : decode code 803 = .ok (.iaload, 1) := by decide +kernel
theorem d_law_804 : decode code 804 = .ok (.invokevirtual 86, 3) := by decide +kernel
theorem d_law_807 : decode code 807 = .ok (.if_icmp .eq 327, 3) := by decide +kernel
theorem d_law_812 : decode code 812 = .ok (.aload_n 1, 1) := by decide +kernel
theorem d_law_813 : decode code 813 = .ok (.aload_n 0, 1) := by decide +kernel
theorem d_law_814 : decode code 814 = .ok (.iload_n 3, 1) := by decide +kernel
theorem d_law_815 : decode code 815 = .ok (.iconst 1, 1) := by decide +kernel
theorem d_law_816 : decode code 816 = .ok (.iadd, 1) := by decide +kernel
theorem d_law_817 : decode code 817 = .ok (.iaload, 1) := by decide +kernel
theorem d_law_818 : decode code 818 = .ok (.aload_n 0, 1) := by decide +kernel
theorem d_law_819 : decode code 819 = .ok (.iload_n 3, 1) := by decide +kernel
theorem d_law_820 : decode code 820 = .ok (.iconst 2, 1) := by decide +kernel
theorem d_law_821 : decode code 821 = .ok (.iadd, 1) := by decide +kernel
theorem d_law_822 : decode code 822 = .ok (.iaload, 1) := by decide +kernel
theorem d_law_823 : decode code 823 = .ok (.aload_n 0, 1) := by decide +kernel
theorem d_law_824 : decode code 824 = .ok (.iload_n 3, 1) := by decide +kernel
theorem d_law_825 : decode code 825 = .ok (.iconst 3, 1) := by decide +kernel
theorem d_law_826 : decode code 826 = .ok (.iadd, 1) := by decide +kernel
theorem d_law_827 : decode code 827 = .ok (.iaload, 1) := by decide +kernel
theorem d_law_828 : decode code 828 = .ok (.aload_n 0, 1) := by decide +kernel
theorem d_law_829 : decode code 829 = .ok (.iload_n 3, 1) := by decide +kernel
theorem d_law_830 : decode code 830 = .ok (.iconst 4, 1) := by decide +kernel
theorem d_law_831 : decode code 831 = .ok (.iadd, 1) := by decide +kernel
theorem d_law_832 : decode code 832 = .ok (.iaload, 1) := by decide +kernel
theorem d_law_833 : decode code 833 = .ok (.invokevirtual 87, 3) := by decide +kernel
theorem d_law_836 : decode code 836 = .ok (.aload_n 2, 1) := by decide +kernel
theorem d_law_837 : decode code 837 = .ok (.aload_n 0, 1) := by decide +kernel
theorem d_law_838 : decode code 838 = .ok (.iload_n 3, 1) := by decide +kernel
theorem d_law_839 : decode code 839 = .ok (.iconst 1, 1) := by decide +kernel
theorem d_law_840 : decode code 840 = .ok (.iadd, 1) := by decide +kernel
theorem d_law_841 : decode code 841 = .ok (.iaload, 1) := by decide +kernel
theorem d_law_842 : decode code 842 = .ok (.aload_n 0, 1) := by decide +kernel
theorem d_law_843 : decode code 843 = .ok (.iload_n 3, 1) := by decide +kernel
theorem d_law_844 : decode code 844 = .ok (.iconst 2, 1) := by decide +kernel
theorem d_law_845 : decode code 845 = .ok (.iadd, 1) := by decide +kernel
theorem d_law_846 : decode code 846 = .ok (.iaload, 1) := by decide +kernel
theorem d_law_847 : decode code 847 = .ok (.aload_n 0, 1) := by decide +kernel
theorem d_law_848 : decode code 848 = .ok (.iload_n 3, 1) := by decide +kernel
theorem d_law_849 : decode code 849 = .ok (.iconst 3, 1) := by decide +kernel
theorem d_law_850 : decode code 850 = .ok (.iadd, 1) := by decide +kernel
theorem d_law_851 : decode code 851 = .ok (.iaload, 1) := by decide +kernel
theorem d_law_852 : decode code 852 = .ok (.aload_n 0, 1) := by decide +kernel
theorem d_law_853 : decode code 853 = .ok (.iload_n 3, 1) := by decide +kernel
theorem d_law_854 : decode code 854 = .ok (.iconst 4, 1) := by decide +kernel
theorem d_law_855 : decode code 855 = .ok (.iadd, 1) := by decide +kernel
theorem d_law_856 : decode code 856 = .ok (.iaload, 1) := by decide +kernel
theorem d_law_857 : decode code 857 = .ok (.invokevirtual 90, 3) := by decide +kernel
theorem d_law_860 : decode code 860 = .ok (.if_icmp .eq 274, 3) := by decide +kernel
theorem d_law_865 : decode code 865 = .ok (.aload_n 1, 1) := by decide +kernel
theorem d_law_866 : decode code 866 = .ok (.aload_n 0, 1) := by decide +kernel
theorem d_law_867 : decode code 867 = .ok (.iload_n 3, 1) := by decide +kernel
theorem d_law_868 : decode code 868 = .ok (.iconst 1, 1) := by decide +kernel
theorem d_law_869 : decode code 869 = .ok (.iadd, 1) := by decide +kernel
theorem d_law_870 : decode code 870 = .ok (.iaload, 1) := by decide +kernel
theorem d_law_871 : decode code 871 = .ok (.aload_n 0, 1) := by decide +kernel
theorem d_law_872 : decode code 872 = .ok (.iload_n 3, 1) := by decide +kernel
theorem d_law_873 : decode code 873 = .ok (.iconst 2, 1) := by decide +kernel
theorem d_law_874 : decode code 874 = .ok (.iadd, 1) := by decide +kernel
theorem d_law_875 : decode code 875 = .ok (.iaload, 1) := by decide +kernel
theorem d_law_876 : decode code 876 = .ok (.aload_n 0, 1) := by decide +kernel
theorem d_law_877 : decode code 877 = .ok (.iload_n 3, 1) := by decide +kernel
theorem d_law_878 : decode code 878 = .ok (.iconst 3, 1) := by decide +kernel
theorem d_law_879 : decode code 879 = .ok (.iadd, 1) := by decide +kernel
theorem d_law_880 : decode code 880 = .ok (.iaload, 1) := by decide +kernel
theorem d_law_881 : decode code 881 = .ok (.aload_n 0, 1) := by decide +kernel
theorem d_law_882 : decode code 882 = .ok (.iload_n 3, 1) := by decide +kernel
theorem d_law_883 : decode code 883 = .ok (.iconst 4, 1) := by decide +kernel
theorem d_law_884 : decode code 884 = .ok (.iadd, 1) := by decide +kernel
theorem d_law_885 : decode code 885 = .ok (.iaload, 1) := by decide +kernel
theorem d_law_886 : decode code 886 = .ok (.aload_n 0, 1) := by decide +kernel
theorem d_law_887 : decode code 887 = .ok (.iload_n 3, 1) := by decide +kernel
theorem d_law_888 : decode code 888 = .ok (.iconst 5, 1) := by decide +kernel
theorem d_law_889 : decode code 889 = .ok (.iadd, 1) := by decide +kernel
theorem d_law_890 : decode code 890 = .ok (.iaload, 1) := by decide +kernel
theorem d_law_891 : decode code 891 = .ok (.invokevirtual 91, 3) := by decide +kernel
theorem d_law_894 : decode code 894 = .ok (.aload_n 2, 1) := by decide +kernel
theorem d_law_895 : decode code 895 = .ok (.aload_n 0, 1) := by decide +kernel
theorem d_law_896 : decode code 896 = .ok (.iload_n 3, 1) := by decide +kernel
theorem d_law_897 : decode code 897 = .ok (.iconst 1, 1) := by decide +kernel
theorem d_law_898 : decode code 898 = .ok (.iadd, 1) := by decide +kernel
theorem d_law_899 : decode code 899 = .ok (.iaload, 1) := by decide +kernel
theorem d_law_900 : decode code 900 = .ok (.aload_n 0, 1) := by decide +kernel
theorem d_law_901 : decode code 901 = .ok (.iload_n 3, 1) := by decide +kernel
theorem d_law_902 : decode code 902 = .ok (.iconst 2, 1) := by decide +kernel
theorem d_law_903 : decode code 903 = .ok (.iadd, 1) := by decide +kernel
theorem d_law_904 : decode code 904 = .ok (.iaload, 1) := by decide +kernel
theorem d_law_905 : decode code 905 = .ok (.aload_n 0, 1) := by decide +kernel
theorem d_law_906 : decode code 906 = .ok (.iload_n 3, 1) := by decide +kernel
theorem d_law_907 : decode code 907 = .ok (.iconst 3, 1) := by decide +kernel
theorem d_law_908 : decode code 908 = .ok (.iadd, 1) := by decide +kernel
theorem d_law_909 : decode code 909 = .ok (.iaload, 1) := by decide +kernel
theorem d_law_910 : decode code 910 = .ok (.aload_n 0, 1) := by decide +kernel
theorem d_law_911 : decode code 911 = .ok (.iload_n 3, 1) := by decide +kernel
theorem d_law_912 : decode code 912 = .ok (.iconst 4, 1) := by decide +kernel
theorem d_law_913 : decode code 913 = .ok (.iadd, 1) := by decide +kernel
theorem d_law_914 : decode code 914 = .ok (.iaload, 1) := by decide +kernel
theorem d_law_915 : decode code 915 = .ok (.aload_n 0, 1) := by decide +kernel
theorem d_law_916 : decode code 916 = .ok (.iload_n 3, 1) := by decide +kernel
theorem d_law_917 : decode code 917 = .ok (.iconst 5, 1) := by decide +kernel
theorem d_law_918 : decode code 918 = .ok (.iadd, 1) := by decide +kernel
theorem d_law_919 : decode code 919 = .ok (.iaload, 1) := by decide +kernel
theorem d_law_920 : decode code 920 = .ok (.invokevirtual 94, 3) := by decide +kernel
theorem d_law_923 : decode code 923 = .ok (.if_icmp .eq 211, 3) := by decide +kernel
theorem d_law_928 : decode code 928 = .ok (.aload_n 1, 1) := by decide +kernel
theorem d_law_929 : decode code 929 = .ok (.aload_n 0, 1) := by decide +kernel
theorem d_law_930 : decode code 930 = .ok (.iload_n 3, 1) := by decide +kernel
theorem d_law_931 : decode code 931 = .ok (.iconst 1, 1) := by decide +kernel
theorem d_law_932 : decode code 932 = .ok (.iadd, 1) := by decide +kernel
theorem d_law_933 : decode code 933 = .ok (.iaload, 1) := by decide +kernel
theorem d_law_934 : decode code 934 = .ok (.aload_n 0, 1) := by decide +kernel
theorem d_law_935 : decode code 935 = .ok (.iload_n 3, 1) := by decide +kernel
theorem d_law_936 : decode code 936 = .ok (.iconst 2, 1) := by decide +kernel
theorem d_law_937 : decode code 937 = .ok (.iadd, 1) := by decide +kernel
theorem d_law_938 : decode code 938 = .ok (.iaload, 1) := by decide +kernel
theorem d_law_939 : decode code 939 = .ok (.aload_n 0, 1) := by decide +kernel
theorem d_law_940 : decode code 940 = .ok (.iload_n 3, 1) := by decide +kernel
theorem d_law_941 : decode code 941 = .ok (.iconst 3, 1) := by decide +kernel
theorem d_law_942 : decode code 942 = .ok (.iadd, 1) := by decide +kernel
theorem d_law_943 : decode code 943 = .ok (.iaload, 1) := by decide +kernel
theorem d_law_944 : decode code 944 = .ok (.aload_n 0, 1) := by decide +kernel
theorem d_law_945 : decode code 945 = .ok (.iload_n 3, 1) := by decide +kernel
theorem d_law_946 : decode code 946 = .ok (.iconst 4, 1) := by decide +kernel
theorem d_law_947 : decode code 947 = .ok (.iadd, 1) := by decide +kernel
theorem d_law_948 : decode code 948 = .ok (.iaload, 1) := by decide +kernel
theorem d_law_949 : decode code 949 = .ok (.aload_n 0, 1) := by decide +kernel
theorem d_law_950 : decode code 950 = .ok (.iload_n 3, 1) := by decide +kernel
theorem d_law_951 : decode code 951 = .ok (.iconst 5, 1) := by decide +kernel
theorem d_law_952 : decode code 952 = .ok (.iadd, 1) := by decide +kernel
theorem d_law_953 : decode code 953 = .ok (.iaload, 1) := by decide +kernel
theorem d_law_954 : decode code 954 = .ok (.invokevirtual 95, 3) := by decide +kernel
theorem d_law_957 : decode code 957 = .ok (.aload_n 2, 1) := by decide +kernel
theorem d_law_958 : decode code 958 = .ok (.aload_n 0, 1) := by decide +kernel
theorem d_law_959 : decode code 959 = .ok (.iload_n 3, 1) := by decide +kernel
theorem d_law_960 : decode code 960 = .ok (.iconst 1, 1) := by decide +kernel
theorem d_law_961 : decode code 961 = .ok (.iadd, 1) := by decide +kernel
theorem d_law_962 : decode code 962 = .ok (.iaload, 1) := by decide +kernel
theorem d_law_963 : decode code 963 = .ok (.aload_n 0, 1) := by decide +kernel
theorem d_law_964 : decode code 964 = .ok (.iload_n 3, 1) := by decide +kernel
theorem d_law_965 : decode code 965 = .ok (.iconst 2, 1) := by decide +kernel
theorem d_law_966 : decode code 966 = .ok (.iadd, 1) := by decide +kernel
theorem d_law_967 : decode code 967 = .ok (.iaload, 1) := by decide +kernel
theorem d_law_968 : decode code 968 = .ok (.aload_n 0, 1) := by decide +kernel
theorem d_law_969 : decode code 969 = .ok (.iload_n 3, 1) := by decide +kernel
theorem d_law_970 : decode code 970 = .ok (.iconst 3, 1) := by decide +kernel
theorem d_law_971 : decode code 971 = .ok (.iadd, 1) := by decide +kernel
theorem d_law_972 : decode code 972 = .ok (.iaload, 1) := by decide +kernel
theorem d_law_973 : decode code 973 = .ok (.aload_n 0, 1) := by decide +kernel
theorem d_law_974 : decode code 974 = .ok (.iload_n 3, 1) := by decide +kernel
theorem d_law_975 : decode code 975 = .ok (.iconst 4, 1) := by decide +kernel
theorem d_law_976 : decode code 976 = .ok (.iadd, 1) := by decide +kernel
theorem d_law_977 : decode code 977 = .ok (.iaload, 1) := by decide +kernel
theorem d_law_978 : decode code 978 = .ok (.aload_n 0, 1) := by decide +kernel
theorem d_law_979 : decode code 979 = .ok (.iload_n 3, 1) := by decide +kernel
theorem d_law_980 : decode code 980 = .ok (.iconst 5, 1) := by decide +kernel
theorem d_law_981 : decode code 981 = .ok (.iadd, 1) := by decide +kernel
theorem d_law_982 : decode code 982 = .ok (.iaload, 1) := by decide +kernel
theorem d_law_983 : decode code 983 = .ok (.invokevirtual 98, 3) := by decide +kernel
theorem d_law_986 : decode code 986 = .ok (.lcmp, 1) := by decide +kernel
theorem d_law_987 : decode code 987 = .ok (.ifCond .eq 147, 3) := by decide +kernel
theorem d_law_992 : decode code 992 = .ok (.aload_n 1, 1) := by decide +kernel
theorem d_law_993 : decode code 993 = .ok (.aload_n 0, 1) := by decide +kernel
theorem d_law_994 : decode code 994 = .ok (.iload_n 3, 1) := by decide +kernel
theorem d_law_995 : decode code 995 = .ok (.iconst 1, 1) := by decide +kernel
theorem d_law_996 : decode code 996 = .ok (.iadd, 1) := by decide +kernel
theorem d_law_997 : decode code 997 = .ok (.iaload, 1) := by decide +kernel
theorem d_law_998 : decode code 998 = .ok (.aload_n 0, 1) := by decide +kernel
theorem d_law_999 : decode code 999 = .ok (.iload_n 3, 1) := by decide +kernel
theorem d_law_1000 : decode code 1000 = .ok (.iconst 2, 1) := by decide +kernel
theorem d_law_1001 : decode code 1001 = .ok (.iadd, 1) := by decide +kernel
theorem d_law_1002 : decode code 1002 = .ok (.iaload, 1) := by decide +kernel
theorem d_law_1003 : decode code 1003 = .ok (.aload_n 0, 1) := by decide +kernel
theorem d_law_1004 : decode code 1004 = .ok (.iload_n 3, 1) := by decide +kernel
theorem d_law_1005 : decode code 1005 = .ok (.iconst 3, 1) := by decide +kernel
theorem d_law_1006 : decode code 1006 = .ok (.iadd, 1) := by decide +kernel
theorem d_law_1007 : decode code 1007 = .ok (.iaload, 1) := by decide +kernel
theorem d_law_1008 : decode code 1008 = .ok (.invokevirtual 99, 3) := by decide +kernel
theorem d_law_1011 : decode code 1011 = .ok (.aload_n 2, 1) := by decide +kernel
theorem d_law_1012 : decode code 1012 = .ok (.aload_n 0, 1) := by decide +kernel
theorem d_law_1013 : decode code 1013 = .ok (.iload_n 3, 1) := by decide +kernel
theorem d_law_1014 : decode code 1014 = .ok (.iconst 1, 1) := by decide +kernel
theorem d_law_1015 : decode code 1015 = .ok (.iadd, 1) := by decide +kernel
theorem d_law_1016 : decode code 1016 = .ok (.iaload, 1) := by decide +kernel
theorem d_law_1017 : decode code 1017 = .ok (.aload_n 0, 1) := by decide +kernel
theorem d_law_1018 : decode code 1018 = .ok (.iload_n 3, 1) := by decide +kernel
theorem d_law_1019 : decode code 1019 = .ok (.iconst 2, 1) := by decide +kernel
theorem d_law_1020 : decode code 1020 = .ok (.iadd, 1) := by decide +kernel
theorem d_law_1021 : decode code 1021 = .ok (.iaload, 1) := by decide +kernel
theorem d_law_1022 : decode code 1022 = .ok (.aload_n 0, 1) := by decide +kernel
theorem d_law_1023 : decode code 1023 = .ok (.iload_n 3, 1) := by decide +kernel
theorem d_law_1024 : decode code 1024 = .ok (.iconst 3, 1) := by decide +kernel
theorem d_law_1025 : decode code 1025 = .ok (.iadd, 1) := by decide +kernel
theorem d_law_1026 : decode code 1026 = .ok (.iaload, 1) := by decide +kernel
theorem d_law_1027 : decode code 1027 = .ok (.invokevirtual 102, 3) := by decide +kernel
theorem d_law_1030 : decode code 1030 = .ok (.if_icmp .eq 104, 3) := by decide +kernel
theorem d_law_1035 : decode code 1035 = .ok (.aload_n 1, 1) := by decide +kernel
theorem d_law_1036 : decode code 1036 = .ok (.aload_n 0, 1) := by decide +kernel
theorem d_law_1037 : decode code 1037 = .ok (.iload_n 3, 1) := by decide +kernel
theorem d_law_1038 : decode code 1038 = .ok (.iconst 1, 1) := by decide +kernel
theorem d_law_1039 : decode code 1039 = .ok (.iadd, 1) := by decide +kernel
theorem d_law_1040 : decode code 1040 = .ok (.iaload, 1) := by decide +kernel
theorem d_law_1041 : decode code 1041 = .ok (.aload_n 0, 1) := by decide +kernel
theorem d_law_1042 : decode code 1042 = .ok (.iload_n 3, 1) := by decide +kernel
theorem d_law_1043 : decode code 1043 = .ok (.iconst 2, 1) := by decide +kernel
theorem d_law_1044 : decode code 1044 = .ok (.iadd, 1) := by decide +kernel
theorem d_law_1045 : decode code 1045 = .ok (.iaload, 1) := by decide +kernel
theorem d_law_1046 : decode code 1046 = .ok (.aload_n 0, 1) := by decide +kernel
theorem d_law_1047 : decode code 1047 = .ok (.iload_n 3, 1) := by decide +kernel
theorem d_law_1048 : decode code 1048 = .ok (.iconst 3, 1) := by decide +kernel
theorem d_law_1049 : decode code 1049 = .ok (.iadd, 1) := by decide +kernel
theorem d_law_1050 : decode code 1050 = .ok (.iaload, 1) := by decide +kernel
theorem d_law_1051 : decode code 1051 = .ok (.aload_n 0, 1) := by decide +kernel
theorem d_law_1052 : decode code 1052 = .ok (.iload_n 3, 1) := by decide +kernel
theorem d_law_1053 : decode code 1053 = .ok (.iconst 4, 1) := by decide +kernel
theorem d_law_1054 : decode code 1054 = .ok (.iadd, 1) := by decide +kernel
theorem d_law_1055 : decode code 1055 = .ok (.iaload, 1) := by decide +kernel
theorem d_law_1056 : decode code 1056 = .ok (.aload_n 0, 1) := by decide +kernel
theorem d_law_1057 : decode code 1057 = .ok (.iload_n 3, 1) := by decide +kernel
theorem d_law_1058 : decode code 1058 = .ok (.iconst 5, 1) := by decide +kernel
theorem d_law_1059 : decode code 1059 = .ok (.iadd, 1) := by decide +kernel
theorem d_law_1060 : decode code 1060 = .ok (.iaload, 1) := by decide +kernel
theorem d_law_1061 : decode code 1061 = .ok (.aload_n 0, 1) := by decide +kernel
theorem d_law_1062 : decode code 1062 = .ok (.iload_n 3, 1) := by decide +kernel
theorem d_law_1063 : decode code 1063 = .ok (.bipush 6, 2) := by decide +kernel
theorem d_law_1065 : decode code 1065 = .ok (.iadd, 1) := by decide +kernel
theorem d_law_1066 : decode code 1066 = .ok (.iaload, 1) := by decide +kernel
theorem d_law_1067 : decode code 1067 = .ok (.aload_n 0, 1) := by decide +kernel
theorem d_law_1068 : decode code 1068 = .ok (.iload_n 3, 1) := by decide +kernel
theorem d_law_1069 : decode code 1069 = .ok (.bipush 7, 2) := by decide +kernel
theorem d_law_1071 : decode code 1071 = .ok (.iadd, 1) := by decide +kernel
theorem d_law_1072 : decode code 1072 = .ok (.iaload, 1) := by decide +kernel
theorem d_law_1073 : decode code 1073 = .ok (.aload_n 0, 1) := by decide +kernel
theorem d_law_1074 : decode code 1074 = .ok (.iload_n 3, 1) := by decide +kernel
theorem d_law_1075 : decode code 1075 = .ok (.bipush 8, 2) := by decide +kernel
theorem d_law_1077 : decode code 1077 = .ok (.iadd, 1) := by decide +kernel
theorem d_law_1078 : decode code 1078 = .ok (.iaload, 1) := by decide +kernel
theorem d_law_1079 : decode code 1079 = .ok (.invokevirtual 103, 3) := by decide +kernel
theorem d_law_1082 : decode code 1082 = .ok (.aload_n 2, 1) := by decide +kernel
theorem d_law_1083 : decode code 1083 = .ok (.aload_n 0, 1) := by decide +kernel
theorem d_law_1084 : decode code 1084 = .ok (.iload_n 3, 1) := by decide +kernel
theorem d_law_1085 : decode code 1085 = .ok (.iconst 1, 1) := by decide +kernel
theorem d_law_1086 : decode code 1086 = .ok (.iadd, 1) := by decide +kernel
theorem d_law_1087 : decode code 1087 = .ok (.iaload, 1) := by decide +kernel
theorem d_law_1088 : decode code 1088 = .ok (.aload_n 0, 1) := by decide +kernel
theorem d_law_1089 : decode code 1089 = .ok (.iload_n 3, 1) := by decide +kernel
theorem d_law_1090 : decode code 1090 = .ok (.iconst 2, 1) := by decide +kernel
theorem d_law_1091 : decode code 1091 = .ok (.iadd, 1) := by decide +kernel
theorem d_law_1092 : decode code 1092 = .ok (.iaload, 1) := by decide +kernel
theorem d_law_1093 : decode code 1093 = .ok (.aload_n 0, 1) := by decide +kernel
theorem d_law_1094 : decode code 1094 = .ok (.iload_n 3, 1) := by decide +kernel
theorem d_law_1095 : decode code 1095 = .ok (.iconst 3, 1) := by decide +kernel
theorem d_law_1096 : decode code 1096 = .ok (.iadd, 1) := by decide +kernel
theorem d_law_1097 : decode code 1097 = .ok (.iaload, 1) := by decide +kernel
theorem d_law_1098 : decode code 1098 = .ok (.aload_n 0, 1) := by decide +kernel
theorem d_law_1099 : decode code 1099 = .ok (.iload_n 3, 1) := by decide +kernel
theorem d_law_1100 : decode code 1100 = .ok (.iconst 4, 1) := by decide +kernel
theorem d_law_1101 : decode code 1101 = .ok (.iadd, 1) := by decide +kernel
theorem d_law_1102 : decode code 1102 = .ok (.iaload, 1) := by decide +kernel
theorem d_law_1103 : decode code 1103 = .ok (.aload_n 0, 1) := by decide +kernel
theorem d_law_1104 : decode code 1104 = .ok (.iload_n 3, 1) := by decide +kernel
theorem d_law_1105 : decode code 1105 = .ok (.iconst 5, 1) := by decide +kernel
theorem d_law_1106 : decode code 1106 = .ok (.iadd, 1) := by decide +kernel
theorem d_law_1107 : decode code 1107 = .ok (.iaload, 1) := by decide +kernel
theorem d_law_1108 : decode code 1108 = .ok (.aload_n 0, 1) := by decide +kernel
theorem d_law_1109 : decode code 1109 = .ok (.iload_n 3, 1) := by decide +kernel
theorem d_law_1110 : decode code 1110 = .ok (.bipush 6, 2) := by decide +kernel
theorem d_law_1112 : decode code 1112 = .ok (.iadd, 1) := by decide +kernel
theorem d_law_1113 : decode code 1113 = .ok (.iaload, 1) := by decide +kernel
theorem d_law_1114 : decode code 1114 = .ok (.aload_n 0, 1) := by decide +kernel
theorem d_law_1115 : decode code 1115 = .ok (.iload_n 3, 1) := by decide +kernel
theorem d_law_1116 : decode code 1116 = .ok (.bipush 7, 2) := by decide +kernel
theorem d_law_1118 : decode code 1118 = .ok (.iadd, 1) := by decide +kernel
theorem d_law_1119 : decode code 1119 = .ok (.iaload, 1) := by decide +kernel
theorem d_law_1120 : decode code 1120 = .ok (.aload_n 0, 1) := by decide +kernel
theorem d_law_1121 : decode code 1121 = .ok (.iload_n 3, 1) := by decide +kernel
theorem d_law_1122 : decode code 1122 = .ok (.bipush 8, 2) := by decide +kernel
theorem d_law_1124 : decode code 1124 = .ok (.iadd, 1) := by decide +kernel
theorem d_law_1125 : decode code 1125 = .ok (.iaload, 1) := by decide +kernel
theorem d_law_1126 : decode code 1126 = .ok (.invokevirtual 107, 3) := by decide +kernel
theorem d_law_1129 : decode code 1129 = .ok (.if_icmp .eq 5, 3) := by decide +kernel
theorem d_law_1134 : decode code 1134 = .ok (.iinc 3 9, 3) := by decide +kernel
theorem d_law_1137 : decode code 1137 = .ok (.goto (-1119), 3) := by decide +kernel
theorem d_law_1140 : decode code 1140 = .ok (.iconst 1, 1) := by decide +kernel
theorem d_law_1141 : decode code 1141 = .ok (.ireturn, 1) := by decide +kernel
def Sim_price (I : Hp → Prop) (S : Nat) : Prop := ∀ (h : Hp) (x1 : Int32) (x2 : Int32) (x3 : Int32), I h → ∃ r h1 h2, f_Y_price S x1 x2 x3 h = some (r, h1) ∧ f_M_price (S + 59) x1 x2 x3 h1 = some (r, h2) ∧ I h2
def Sim_bought (I : Hp → Prop) (S : Nat) : Prop := ∀ (h : Hp) (x1 : Int32) (x2 : Int32) (x3 : Int32) (x4 : Int32), I h → ∃ r h1 h2, f_Y_bought S x1 x2 x3 x4 h = some (r, h1) ∧ f_M_bought (S + 59) x1 x2 x3 x4 h1 = some (r, h2) ∧ I h2
def Sim_cost (I : Hp → Prop) (S : Nat) : Prop := ∀ (h : Hp) (x1 : Int32) (x2 : Int32) (x3 : Int32), I h → ∃ r, f_Y_cost S h x1 x2 x3 = some r ∧ f_M_cost (S + 59) h x1 x2 x3 = some r
def Sim_goods (I : Hp → Prop) (S : Nat) : Prop := ∀ (h : Hp) (x1 : Int32) (x2 : Int32) (x3 : Int32), I h → ∃ r, f_Y_goods S h x1 x2 x3 = some r ∧ f_M_goods (S + 59) h x1 x2 x3 = some r
def Sim_count (I : Hp → Prop) (S : Nat) : Prop := ∀ (h : Hp) (x1 : Int32), I h → ∃ r, f_Y_count S h x1 = some r ∧ f_M_count (S + 59) h x1 = some r
def Sim_feed (I : Hp → Prop) (S : Nat) : Prop := ∀ (h : Hp) (x1 : Int32) (x2 : Int64), I h → ∃ r h1 h2, f_Y_feed S x1 x2 h = some (r, h1) ∧ f_M_feed (S + 59) x1 x2 h1 = some (r, h2) ∧ I h2
def Sim_number (I : Hp → Prop) (S : Nat) : Prop := ∀ (h : Hp) , I h → ∃ r h1 h2, f_Y_number S h = some (r, h1) ∧ f_M_number (S + 59) h1 = some (r, h2) ∧ I h2
def Sim_fault (I : Hp → Prop) (S : Nat) : Prop := ∀ (h : Hp) , I h → ∃ r, f_Y_fault S h = some r ∧ f_M_fault (S + 59) h = some r
def Sim_worth (I : Hp → Prop) (S : Nat) : Prop := ∀ (h : Hp) (x1 : Int32) (x2 : Int32) (x3 : Int32) (x4 : Int32) (x5 : Int32), I h → ∃ r h1 h2, f_Y_worth S x1 x2 x3 x4 x5 h = some (r, h1) ∧ f_M_worth (S + 59) x1 x2 x3 x4 x5 h1 = some (r, h2) ∧ I h2
def Sim_order (I : Hp → Prop) (S : Nat) : Prop := ∀ (h : Hp) (x1 : Int32) (x2 : Int32) (x3 : Int32) (x4 : Int32) (x5 : Int32), I h → ∃ r h1 h2, f_Y_order S x1 x2 x3 x4 x5 h = some (r, h1) ∧ f_M_order (S + 59) x1 x2 x3 x4 x5 h1 = some (r, h2) ∧ I h2
def Sim_keeps (I : Hp → Prop) (S : Nat) : Prop := ∀ (h : Hp) (x1 : Int32) (x2 : Int32) (x3 : Int32), I h → ∃ r h1 h2, f_Y_keeps S x1 x2 x3 h = some (r, h1) ∧ f_M_keeps (S + 59) x1 x2 x3 h1 = some (r, h2) ∧ I h2
def Sim_breach (I : Hp → Prop) (S : Nat) : Prop := ∀ (h : Hp) (x1 : Int32) (x2 : Int32) (x3 : Int32) (x4 : Int32), I h → ∃ r h1 h2, f_Y_breach S x1 x2 x3 x4 h = some (r, h1) ∧ f_M_breach (S + 59) x1 x2 x3 x4 h1 = some (r, h2) ∧ I h2
def Sim_clash (I : Hp → Prop) (S : Nat) : Prop := ∀ (h : Hp) (x1 : Int32), I h → ∃ r h1 h2, f_Y_clash S x1 h = some (r, h1) ∧ f_M_clash (S + 59) x1 h1 = some (r, h2) ∧ I h2
def Sim_drift (I : Hp → Prop) (S : Nat) : Prop := ∀ (h : Hp) (x1 : Int32) (x2 : Int32) (x3 : Int32) (x4 : Int32) (x5 : Int32), I h → ∃ r h1 h2, f_Y_drift S x1 x2 x3 x4 x5 h = some (r, h1) ∧ f_M_drift (S + 59) x1 x2 x3 x4 x5 h1 = some (r, h2) ∧ I h2
def Sim_chosen (I : Hp → Prop) (S : Nat) : Prop := ∀ (h : Hp) (x1 : Int32) (x2 : Int32) (x3 : Int32), I h → ∃ r, f_Y_chosen S h x1 x2 x3 = some r ∧ f_M_chosen (S + 59) h x1 x2 x3 = some r
def Sim_ring (I : Hp → Prop) (S : Nat) : Prop := ∀ (h : Hp) (x1 : Int32) (x2 : Int32), I h → ∃ r h1 h2, f_Y_ring S x1 x2 h = some (r, h1) ∧ f_M_ring (S + 59) x1 x2 h1 = some (r, h2) ∧ I h2
def Sim_need (I : Hp → Prop) (S : Nat) : Prop := ∀ (h : Hp) (x1 : Int32) (x2 : Int32) (x3 : Int32) (x4 : Int32), I h → ∃ r h1 h2, f_Y_need S x1 x2 x3 x4 h = some (r, h1) ∧ f_M_need (S + 59) x1 x2 x3 x4 h1 = some (r, h2) ∧ I h2
def Sim_part (I : Hp → Prop) (S : Nat) : Prop := ∀ (h : Hp) (x1 : Int32) (x2 : Int32) (x3 : Int32) (x4 : Int32) (x5 : Int32), I h → ∃ r, f_Y_part S h x1 x2 x3 x4 x5 = some r ∧ f_M_part (S + 59) h x1 x2 x3 x4 x5 = some r
def Sim_wage (I : Hp → Prop) (S : Nat) : Prop := ∀ (h : Hp) (x1 : Int32) (x2 : Int32) (x3 : Int32) (x4 : Int32) (x5 : Int32), I h → ∃ r h1 h2, f_Y_wage S x1 x2 x3 x4 x5 h = some (r, h1) ∧ f_M_wage (S + 59) x1 x2 x3 x4 x5 h1 = some (r, h2) ∧ I h2
def Sim_dearest (I : Hp → Prop) (S : Nat) : Prop := ∀ (h : Hp) (x1 : Int32) (x2 : Int32) (x3 : Int32), I h → ∃ r h1 h2, f_Y_dearest S x1 x2 x3 h = some (r, h1) ∧ f_M_dearest (S + 59) x1 x2 x3 h1 = some (r, h2) ∧ I h2
def Sim_turn (I : Hp → Prop) (S : Nat) : Prop := ∀ (h : Hp) (x1 : Int32) (x2 : Int32) (x3 : Int32) (x4 : Int32) (x5 : Int32) (x6 : Int32) (x7 : Int32) (x8 : Int32), I h → ∃ r h1 h2, f_Y_turn S x1 x2 x3 x4 x5 x6 x7 x8 h = some (r, h1) ∧ f_M_turn (S + 59) x1 x2 x3 x4 x5 x6 x7 x8 h1 = some (r, h2) ∧ I h2
def Sims (I : Hp → Prop) (S : Nat) : Prop := Sim_price I S ∧ Sim_bought I S ∧ Sim_cost I S ∧ Sim_goods I S ∧ Sim_count I S ∧ Sim_feed I S ∧ Sim_number I S ∧ Sim_fault I S ∧ Sim_worth I S ∧ Sim_order I S ∧ Sim_keeps I S ∧ Sim_breach I S ∧ Sim_clash I S ∧ Sim_drift I S ∧ Sim_chosen I S ∧ Sim_ring I S ∧ Sim_need I S ∧ Sim_part I S ∧ Sim_wage I S ∧ Sim_dearest I S ∧ Sim_turn I S
set_option maxRecDepth 100000 in
set_option maxHeartbeats 4000000 in
theorem lz_c0 {p : Program} {l : Launch} {e : Env} {s : State} {m : MethodId} {below : List Frame} {meth : Method} {c : Code} {S b L : Nat} {xs : Nat → Int32} {D : va_G} {cs : Nat → ClassId} {Q : State → Prop} {nm : String} (M : ZC p s m #[Value.ref b] meth c R_law nm code 4 ret S D cs) (hX : va_X b L xs s s.heap) (hbl : b < s.heap.size) (hbA : ¬ zA S b) {I : Hp → Prop} (hI : Sims I S) {h : Hp} {x3 : Int32} (hin : ∀ k : Int32, 0 ≤ k → k ≤ 8 → vp_in (x3 + k) L) (hk : ∀ (h : Hp) (H : Heap) (locs : List Loc) (ls : Array Slot), HH S D cs h H → va_S (zA S) s.heap H locs → I h → lv_has ls 4 [(0, .ref b), (1, .ref S), (2, .ref (S + 59)), (3, .int x3)] → W p l e room_1 s m #[Value.ref b] below meth c H locs 84 4976 Q (F0 m 1134 ls [])) (H : Heap) (locs : List Loc) (ls : Array Slot) (hH : HH S D cs h H) (hS : va_S (zA S) s.heap H locs) (hIh : I h) (hl : lv_has ls 4 [(0, .ref b), (1, .ref S), (2, .ref (S + 59)), (3, .int x3)]) : W p l e room_1 s m #[Value.ref b] below meth c H locs 84 4976 Q (F0 m 132 ls []) := by
  refine lv_aload_n M.x M.b d_law_132 rfl (lv_at hl 1 rfl) ?_
  refine lv_aload_n M.x M.b d_law_133 rfl (lv_at hl 0 rfl) ?_
  refine lv_iload_n M.x M.b d_law_134 rfl (lv_at hl 3 rfl) ?_
  refine lv_iconst (v := (1 : Int32)) M.x M.b d_law_135 rfl ?_
  refine lv_iadd M.x M.b d_law_136 ?_
  refine va_sld M.x M.b hX hbl hbA hS (hin 1 (by decide) (by decide)) d_law_137 ?_
  refine lv_aload_n M.x M.b d_law_138 rfl (lv_at hl 0 rfl) ?_
  refine lv_iload_n M.x M.b d_law_139 rfl (lv_at hl 3 rfl) ?_
  refine lv_iconst (v := (2 : Int32)) M.x M.b d_law_140 rfl ?_
  refine lv_iadd M.x M.b d_law_141 ?_
  refine va_sld M.x M.b hX hbl hbA hS (hin 2 (by decide) (by decide)) d_law_142 ?_
  refine lv_aload_n M.x M.b d_law_143 rfl (lv_at hl 0 rfl) ?_
  refine lv_iload_n M.x M.b d_law_144 rfl (lv_at hl 3 rfl) ?_
  refine lv_iconst (v := (3 : Int32)) M.x M.b d_law_145 rfl ?_
  refine lv_iadd M.x M.b d_law_146 ?_
  refine va_sld M.x M.b hX hbl hbA hS (hin 3 (by decide) (by decide)) d_law_147 ?_
  obtain ⟨r, h1, h2, e1, e2, hIh⟩ := hI.1 h ((xs (x3 + 1).toNatClampNeg)) ((xs (x3 + 2).toNatClampNeg)) ((xs (x3 + 3).toNatClampNeg)) hIh
  refine z_callV (ci := 7) (rest := []) (st1 := [.int r]) M hH hS (c_Y_price e1) rfl (o_Y_price e1) w_Y_price q_939 rfl ⟨Nat.le_of_ble_eq_true rfl, Nat.le_of_ble_eq_true rfl⟩ hl.1 rfl rfl (Nat.le_of_ble_eq_true rfl) ⟨Nat.le_of_ble_eq_true rfl, Nat.le_of_ble_eq_true rfl⟩ d_law_148 (fun H locs hH hS => ?_)
  refine lv_aload_n M.x M.b d_law_151 rfl (lv_at hl 2 rfl) ?_
  refine lv_aload_n M.x M.b d_law_152 rfl (lv_at hl 0 rfl) ?_
  refine lv_iload_n M.x M.b d_law_153 rfl (lv_at hl 3 rfl) ?_
  refine lv_iconst (v := (1 : Int32)) M.x M.b d_law_154 rfl ?_
  refine lv_iadd M.x M.b d_law_155 ?_
  refine va_sld M.x M.b hX hbl hbA hS (hin 1 (by decide) (by decide)) d_law_156 ?_
  refine lv_aload_n M.x M.b d_law_157 rfl (lv_at hl 0 rfl) ?_
  refine lv_iload_n M.x M.b d_law_158 rfl (lv_at hl 3 rfl) ?_
  refine lv_iconst (v := (2 : Int32)) M.x M.b d_law_159 rfl ?_
  refine lv_iadd M.x M.b d_law_160 ?_
  refine va_sld M.x M.b hX hbl hbA hS (hin 2 (by decide) (by decide)) d_law_161 ?_
  refine lv_aload_n M.x M.b d_law_162 rfl (lv_at hl 0 rfl) ?_
  refine lv_iload_n M.x M.b d_law_163 rfl (lv_at hl 3 rfl) ?_
  refine lv_iconst (v := (3 : Int32)) M.x M.b d_law_164 rfl ?_
  refine lv_iadd M.x M.b d_law_165 ?_
  refine va_sld M.x M.b hX hbl hbA hS (hin 3 (by decide) (by decide)) d_law_166 ?_
  refine z_callV (ci := 8) (rest := [.int r]) (st1 := [.int r, .int r]) M hH hS (c_M_price e2) rfl (o_M_price e2) w_M_price q_940 rfl ⟨Nat.le_of_ble_eq_true rfl, Nat.le_of_ble_eq_true rfl⟩ hl.1 rfl rfl (Nat.le_of_ble_eq_true rfl) ⟨Nat.le_of_ble_eq_true rfl, Nat.le_of_ble_eq_true rfl⟩ d_law_167 (fun H locs hH hS => ?_)
  refine lv_icmp_eq (tgt := 1134) M.x M.b d_law_170 (by decide) (fun _ => ?_) (fun c => absurd rfl c)
  exact hk _ H locs ls hH hS hIh hl
set_option maxRecDepth 100000 in
set_option maxHeartbeats 4000000 in
theorem lz_c1 {p : Program} {l : Launch} {e : Env} {s : State} {m : MethodId} {below : List Frame} {meth : Method} {c : Code} {S b L : Nat} {xs : Nat → Int32} {D : va_G} {cs : Nat → ClassId} {Q : State → Prop} {nm : String} (M : ZC p s m #[Value.ref b] meth c R_law nm code 4 ret S D cs) (hX : va_X b L xs s s.heap) (hbl : b < s.heap.size) (hbA : ¬ zA S b) {I : Hp → Prop} (hI : Sims I S) {h : Hp} {x3 : Int32} (hin : ∀ k : Int32, 0 ≤ k → k ≤ 8 → vp_in (x3 + k) L) (hk : ∀ (h : Hp) (H : Heap) (locs : List Loc) (ls : Array Slot), HH S D cs h H → va_S (zA S) s.heap H locs → I h → lv_has ls 4 [(0, .ref b), (1, .ref S), (2, .ref (S + 59)), (3, .int x3)] → W p l e room_1 s m #[Value.ref b] below meth c H locs 84 4976 Q (F0 m 1134 ls [])) (H : Heap) (locs : List Loc) (ls : Array Slot) (hH : HH S D cs h H) (hS : va_S (zA S) s.heap H locs) (hIh : I h) (hl : lv_has ls 4 [(0, .ref b), (1, .ref S), (2, .ref (S + 59)), (3, .int x3)]) : W p l e room_1 s m #[Value.ref b] below meth c H locs 84 4976 Q (F0 m 175 ls []) := by
  refine lv_aload_n M.x M.b d_law_175 rfl (lv_at hl 1 rfl) ?_
  refine lv_aload_n M.x M.b d_law_176 rfl (lv_at hl 0 rfl) ?_
  refine lv_iload_n M.x M.b d_law_177 rfl (lv_at hl 3 rfl) ?_
  refine lv_iconst (v := (1 : Int32)) M.x M.b d_law_178 rfl ?_
  refine lv_iadd M.x M.b d_law_179 ?_
  refine va_sld M.x M.b hX hbl hbA hS (hin 1 (by decide) (by decide)) d_law_180 ?_
  refine lv_aload_n M.x M.b d_law_181 rfl (lv_at hl 0 rfl) ?_
  refine lv_iload_n M.x M.b d_law_182 rfl (lv_at hl 3 rfl) ?_
  refine lv_iconst (v := (2 : Int32)) M.x M.b d_law_183 rfl ?_
  refine lv_iadd M.x M.b d_law_184 ?_
  refine va_sld M.x M.b hX hbl hbA hS (hin 2 (by decide) (by decide)) d_law_185 ?_
  refine lv_aload_n M.x M.b d_law_186 rfl (lv_at hl 0 rfl) ?_
  refine lv_iload_n M.x M.b d_law_187 rfl (lv_at hl 3 rfl) ?_
  refine lv_iconst (v := (3 : Int32)) M.x M.b d_law_188 rfl ?_
  refine lv_iadd M.x M.b d_law_189 ?_
  refine va_sld M.x M.b hX hbl hbA hS (hin 3 (by decide) (by decide)) d_law_190 ?_
  refine lv_aload_n M.x M.b d_law_191 rfl (lv_at hl 0 rfl) ?_
  refine lv_iload_n M.x M.b d_law_192 rfl (lv_at hl 3 rfl) ?_
  refine lv_iconst (v := (4 : Int32)) M.x M.b d_law_193 rfl ?_
  refine lv_iadd M.x M.b d_law_194 ?_
  refine va_sld M.x M.b hX hbl hbA hS (hin 4 (by decide) (by decide)) d_law_195 ?_
  obtain ⟨r, h1, h2, e1, e2, hIh⟩ := hI.2.1 h ((xs (x3 + 1).toNatClampNeg)) ((xs (x3 + 2).toNatClampNeg)) ((xs (x3 + 3).toNatClampNeg)) ((xs (x3 + 4).toNatClampNeg)) hIh
  refine z_callV (ci := 7) (rest := []) (st1 := [.int r]) M hH hS (c_Y_bought e1) rfl (o_Y_bought e1) w_Y_bought q_941 rfl ⟨Nat.le_of_ble_eq_true rfl, Nat.le_of_ble_eq_true rfl⟩ hl.1 rfl rfl (Nat.le_of_ble_eq_true rfl) ⟨Nat.le_of_ble_eq_true rfl, Nat.le_of_ble_eq_true rfl⟩ d_law_196 (fun H locs hH hS => ?_)
  refine lv_aload_n M.x M.b d_law_199 rfl (lv_at hl 2 rfl) ?_
  refine lv_aload_n M.x M.b d_law_200 rfl (lv_at hl 0 rfl) ?_
  refine lv_iload_n M.x M.b d_law_201 rfl (lv_at hl 3 rfl) ?_
  refine lv_iconst (v := (1 : Int32)) M.x M.b d_law_202 rfl ?_
  refine lv_iadd M.x M.b d_law_203 ?_
  refine va_sld M.x M.b hX hbl hbA hS (hin 1 (by decide) (by decide)) d_law_204 ?_
  refine lv_aload_n M.x M.b d_law_205 rfl (lv_at hl 0 rfl) ?_
  refine lv_iload_n M.x M.b d_law_206 rfl (lv_at hl 3 rfl) ?_
  refine lv_iconst (v := (2 : Int32)) M.x M.b d_law_207 rfl ?_
  refine lv_iadd M.x M.b d_law_208 ?_
  refine va_sld M.x M.b hX hbl hbA hS (hin 2 (by decide) (by decide)) d_law_209 ?_
  refine lv_aload_n M.x M.b d_law_210 rfl (lv_at hl 0 rfl) ?_
  refine lv_iload_n M.x M.b d_law_211 rfl (lv_at hl 3 rfl) ?_
  refine lv_iconst (v := (3 : Int32)) M.x M.b d_law_212 rfl ?_
  refine lv_iadd M.x M.b d_law_213 ?_
  refine va_sld M.x M.b hX hbl hbA hS (hin 3 (by decide) (by decide)) d_law_214 ?_
  refine lv_aload_n M.x M.b d_law_215 rfl (lv_at hl 0 rfl) ?_
  refine lv_iload_n M.x M.b d_law_216 rfl (lv_at hl 3 rfl) ?_
  refine lv_iconst (v := (4 : Int32)) M.x M.b d_law_217 rfl ?_
  refine lv_iadd M.x M.b d_law_218 ?_
  refine va_sld M.x M.b hX hbl hbA hS (hin 4 (by decide) (by decide)) d_law_219 ?_
  refine z_callV (ci := 8) (rest := [.int r]) (st1 := [.int r, .int r]) M hH hS (c_M_bought e2) rfl (o_M_bought e2) w_M_bought q_942 rfl ⟨Nat.le_of_ble_eq_true rfl, Nat.le_of_ble_eq_true rfl⟩ hl.1 rfl rfl (Nat.le_of_ble_eq_true rfl) ⟨Nat.le_of_ble_eq_true rfl, Nat.le_of_ble_eq_true rfl⟩ d_law_220 (fun H locs hH hS => ?_)
  refine lv_icmp_eq (tgt := 1134) M.x M.b d_law_223 (by decide) (fun _ => ?_) (fun c => absurd rfl c)
  exact hk _ H locs ls hH hS hIh hl
set_option maxRecDepth 100000 in
set_option maxHeartbeats 4000000 in
theorem lz_c2 {p : Program} {l : Launch} {e : Env} {s : State} {m : MethodId} {below : List Frame} {meth : Method} {c : Code} {S b L : Nat} {xs : Nat → Int32} {D : va_G} {cs : Nat → ClassId} {Q : State → Prop} {nm : String} (M : ZC p s m #[Value.ref b] meth c R_law nm code 4 ret S D cs) (hX : va_X b L xs s s.heap) (hbl : b < s.heap.size) (hbA : ¬ zA S b) {I : Hp → Prop} (hI : Sims I S) {h : Hp} {x3 : Int32} (hin : ∀ k : Int32, 0 ≤ k → k ≤ 8 → vp_in (x3 + k) L) (hk : ∀ (h : Hp) (H : Heap) (locs : List Loc) (ls : Array Slot), HH S D cs h H → va_S (zA S) s.heap H locs → I h → lv_has ls 4 [(0, .ref b), (1, .ref S), (2, .ref (S + 59)), (3, .int x3)] → W p l e room_1 s m #[Value.ref b] below meth c H locs 84 4976 Q (F0 m 1134 ls [])) (H : Heap) (locs : List Loc) (ls : Array Slot) (hH : HH S D cs h H) (hS : va_S (zA S) s.heap H locs) (hIh : I h) (hl : lv_has ls 4 [(0, .ref b), (1, .ref S), (2, .ref (S + 59)), (3, .int x3)]) : W p l e room_1 s m #[Value.ref b] below meth c H locs 84 4976 Q (F0 m 228 ls []) := by
  refine lv_aload_n M.x M.b d_law_228 rfl (lv_at hl 1 rfl) ?_
  refine lv_aload_n M.x M.b d_law_229 rfl (lv_at hl 0 rfl) ?_
  refine lv_iload_n M.x M.b d_law_230 rfl (lv_at hl 3 rfl) ?_
  refine lv_iconst (v := (1 : Int32)) M.x M.b d_law_231 rfl ?_
  refine lv_iadd M.x M.b d_law_232 ?_
  refine va_sld M.x M.b hX hbl hbA hS (hin 1 (by decide) (by decide)) d_law_233 ?_
  refine lv_aload_n M.x M.b d_law_234 rfl (lv_at hl 0 rfl) ?_
  refine lv_iload_n M.x M.b d_law_235 rfl (lv_at hl 3 rfl) ?_
  refine lv_iconst (v := (2 : Int32)) M.x M.b d_law_236 rfl ?_
  refine lv_iadd M.x M.b d_law_237 ?_
  refine va_sld M.x M.b hX hbl hbA hS (hin 2 (by decide) (by decide)) d_law_238 ?_
  refine lv_aload_n M.x M.b d_law_239 rfl (lv_at hl 0 rfl) ?_
  refine lv_iload_n M.x M.b d_law_240 rfl (lv_at hl 3 rfl) ?_
  refine lv_iconst (v := (3 : Int32)) M.x M.b d_law_241 rfl ?_
  refine lv_iadd M.x M.b d_law_242 ?_
  refine va_sld M.x M.b hX hbl hbA hS (hin 3 (by decide) (by decide)) d_law_243 ?_
  obtain ⟨r, e1, e2⟩ := hI.2.2.1 h ((xs (x3 + 1).toNatClampNeg)) ((xs (x3 + 2).toNatClampNeg)) ((xs (x3 + 3).toNatClampNeg)) hIh
  refine z_callV (ci := 7) (rest := []) (st1 := [.int r]) M hH hS (c_Y_cost e1) rfl (o_Y_cost e1) w_Y_cost q_943 rfl ⟨Nat.le_of_ble_eq_true rfl, Nat.le_of_ble_eq_true rfl⟩ hl.1 rfl rfl (Nat.le_of_ble_eq_true rfl) ⟨Nat.le_of_ble_eq_true rfl, Nat.le_of_ble_eq_true rfl⟩ d_law_244 (fun H locs hH hS => ?_)
  refine lv_aload_n M.x M.b d_law_247 rfl (lv_at hl 2 rfl) ?_
  refine lv_aload_n M.x M.b d_law_248 rfl (lv_at hl 0 rfl) ?_
  refine lv_iload_n M.x M.b d_law_249 rfl (lv_at hl 3 rfl) ?_
  refine lv_iconst (v := (1 : Int32)) M.x M.b d_law_250 rfl ?_
  refine lv_iadd M.x M.b d_law_251 ?_
  refine va_sld M.x M.b hX hbl hbA hS (hin 1 (by decide) (by decide)) d_law_252 ?_
  refine lv_aload_n M.x M.b d_law_253 rfl (lv_at hl 0 rfl) ?_
  refine lv_iload_n M.x M.b d_law_254 rfl (lv_at hl 3 rfl) ?_
  refine lv_iconst (v := (2 : Int32)) M.x M.b d_law_255 rfl ?_
  refine lv_iadd M.x M.b d_law_256 ?_
  refine va_sld M.x M.b hX hbl hbA hS (hin 2 (by decide) (by decide)) d_law_257 ?_
  refine lv_aload_n M.x M.b d_law_258 rfl (lv_at hl 0 rfl) ?_
  refine lv_iload_n M.x M.b d_law_259 rfl (lv_at hl 3 rfl) ?_
  refine lv_iconst (v := (3 : Int32)) M.x M.b d_law_260 rfl ?_
  refine lv_iadd M.x M.b d_law_261 ?_
  refine va_sld M.x M.b hX hbl hbA hS (hin 3 (by decide) (by decide)) d_law_262 ?_
  refine z_callV (ci := 8) (rest := [.int r]) (st1 := [.int r, .int r]) M hH hS (c_M_cost e2) rfl (o_M_cost e2) w_M_cost q_944 rfl ⟨Nat.le_of_ble_eq_true rfl, Nat.le_of_ble_eq_true rfl⟩ hl.1 rfl rfl (Nat.le_of_ble_eq_true rfl) ⟨Nat.le_of_ble_eq_true rfl, Nat.le_of_ble_eq_true rfl⟩ d_law_263 (fun H locs hH hS => ?_)
  refine lv_icmp_eq (tgt := 1134) M.x M.b d_law_266 (by decide) (fun _ => ?_) (fun c => absurd rfl c)
  exact hk _ H locs ls hH hS hIh hl
set_option maxRecDepth 100000 in
set_option maxHeartbeats 4000000 in
theorem lz_c3 {p : Program} {l : Launch} {e : Env} {s : State} {m : MethodId} {below : List Frame} {meth : Method} {c : Code} {S b L : Nat} {xs : Nat → Int32} {D : va_G} {cs : Nat → ClassId} {Q : State → Prop} {nm : String} (M : ZC p s m #[Value.ref b] meth c R_law nm code 4 ret S D cs) (hX : va_X b L xs s s.heap) (hbl : b < s.heap.size) (hbA : ¬ zA S b) {I : Hp → Prop} (hI : Sims I S) {h : Hp} {x3 : Int32} (hin : ∀ k : Int32, 0 ≤ k → k ≤ 8 → vp_in (x3 + k) L) (hk : ∀ (h : Hp) (H : Heap) (locs : List Loc) (ls : Array Slot), HH S D cs h H → va_S (zA S) s.heap H locs → I h → lv_has ls 4 [(0, .ref b), (1, .ref S), (2, .ref (S + 59)), (3, .int x3)] → W p l e room_1 s m #[Value.ref b] below meth c H locs 84 4976 Q (F0 m 1134 ls [])) (H : Heap) (locs : List Loc) (ls : Array Slot) (hH : HH S D cs h H) (hS : va_S (zA S) s.heap H locs) (hIh : I h) (hl : lv_has ls 4 [(0, .ref b), (1, .ref S), (2, .ref (S + 59)), (3, .int x3)]) : W p l e room_1 s m #[Value.ref b] below meth c H locs 84 4976 Q (F0 m 271 ls []) := by
  refine lv_aload_n M.x M.b d_law_271 rfl (lv_at hl 1 rfl) ?_
  refine lv_aload_n M.x M.b d_law_272 rfl (lv_at hl 0 rfl) ?_
  refine lv_iload_n M.x M.b d_law_273 rfl (lv_at hl 3 rfl) ?_
  refine lv_iconst (v := (1 : Int32)) M.x M.b d_law_274 rfl ?_
  refine lv_iadd M.x M.b d_law_275 ?_
  refine va_sld M.x M.b hX hbl hbA hS (hin 1 (by decide) (by decide)) d_law_276 ?_
  refine lv_aload_n M.x M.b d_law_277 rfl (lv_at hl 0 rfl) ?_
  refine lv_iload_n M.x M.b d_law_278 rfl (lv_at hl 3 rfl) ?_
  refine lv_iconst (v := (2 : Int32)) M.x M.b d_law_279 rfl ?_
  refine lv_iadd M.x M.b d_law_280 ?_
  refine va_sld M.x M.b hX hbl hbA hS (hin 2 (by decide) (by decide)) d_law_281 ?_
  refine lv_aload_n M.x M.b d_law_282 rfl (lv_at hl 0 rfl) ?_
  refine lv_iload_n M.x M.b d_law_283 rfl (lv_at hl 3 rfl) ?_
  refine lv_iconst (v := (3 : Int32)) M.x M.b d_law_284 rfl ?_
  refine lv_iadd M.x M.b d_law_285 ?_
  refine va_sld M.x M.b hX hbl hbA hS (hin 3 (by decide) (by decide)) d_law_286 ?_
  obtain ⟨r, e1, e2⟩ := hI.2.2.2.1 h ((xs (x3 + 1).toNatClampNeg)) ((xs (x3 + 2).toNatClampNeg)) ((xs (x3 + 3).toNatClampNeg)) hIh
  refine z_callV (ci := 7) (rest := []) (st1 := [.int r]) M hH hS (c_Y_goods e1) rfl (o_Y_goods e1) w_Y_goods q_945 rfl ⟨Nat.le_of_ble_eq_true rfl, Nat.le_of_ble_eq_true rfl⟩ hl.1 rfl rfl (Nat.le_of_ble_eq_true rfl) ⟨Nat.le_of_ble_eq_true rfl, Nat.le_of_ble_eq_true rfl⟩ d_law_287 (fun H locs hH hS => ?_)
  refine lv_aload_n M.x M.b d_law_290 rfl (lv_at hl 2 rfl) ?_
  refine lv_aload_n M.x M.b d_law_291 rfl (lv_at hl 0 rfl) ?_
  refine lv_iload_n M.x M.b d_law_292 rfl (lv_at hl 3 rfl) ?_
  refine lv_iconst (v := (1 : Int32)) M.x M.b d_law_293 rfl ?_
  refine lv_iadd M.x M.b d_law_294 ?_
  refine va_sld M.x M.b hX hbl hbA hS (hin 1 (by decide) (by decide)) d_law_295 ?_
  refine lv_aload_n M.x M.b d_law_296 rfl (lv_at hl 0 rfl) ?_
  refine lv_iload_n M.x M.b d_law_297 rfl (lv_at hl 3 rfl) ?_
  refine lv_iconst (v := (2 : Int32)) M.x M.b d_law_298 rfl ?_
  refine lv_iadd M.x M.b d_law_299 ?_
  refine va_sld M.x M.b hX hbl hbA hS (hin 2 (by decide) (by decide)) d_law_300 ?_
  refine lv_aload_n M.x M.b d_law_301 rfl (lv_at hl 0 rfl) ?_
  refine lv_iload_n M.x M.b d_law_302 rfl (lv_at hl 3 rfl) ?_
  refine lv_iconst (v := (3 : Int32)) M.x M.b d_law_303 rfl ?_
  refine lv_iadd M.x M.b d_law_304 ?_
  refine va_sld M.x M.b hX hbl hbA hS (hin 3 (by decide) (by decide)) d_law_305 ?_
  refine z_callV (ci := 8) (rest := [.int r]) (st1 := [.int r, .int r]) M hH hS (c_M_goods e2) rfl (o_M_goods e2) w_M_goods q_946 rfl ⟨Nat.le_of_ble_eq_true rfl, Nat.le_of_ble_eq_true rfl⟩ hl.1 rfl rfl (Nat.le_of_ble_eq_true rfl) ⟨Nat.le_of_ble_eq_true rfl, Nat.le_of_ble_eq_true rfl⟩ d_law_306 (fun H locs hH hS => ?_)
  refine lv_icmp_eq (tgt := 1134) M.x M.b d_law_309 (by decide) (fun _ => ?_) (fun c => absurd rfl c)
  exact hk _ H locs ls hH hS hIh hl
set_option maxRecDepth 100000 in
set_option maxHeartbeats 4000000 in
theorem lz_c4 {p : Program} {l : Launch} {e : Env} {s : State} {m : MethodId} {below : List Frame} {meth : Method} {c : Code} {S b L : Nat} {xs : Nat → Int32} {D : va_G} {cs : Nat → ClassId} {Q : State → Prop} {nm : String} (M : ZC p s m #[Value.ref b] meth c R_law nm code 4 ret S D cs) (hX : va_X b L xs s s.heap) (hbl : b < s.heap.size) (hbA : ¬ zA S b) {I : Hp → Prop} (hI : Sims I S) {h : Hp} {x3 : Int32} (hin : ∀ k : Int32, 0 ≤ k → k ≤ 8 → vp_in (x3 + k) L) (hk : ∀ (h : Hp) (H : Heap) (locs : List Loc) (ls : Array Slot), HH S D cs h H → va_S (zA S) s.heap H locs → I h → lv_has ls 4 [(0, .ref b), (1, .ref S), (2, .ref (S + 59)), (3, .int x3)] → W p l e room_1 s m #[Value.ref b] below meth c H locs 84 4976 Q (F0 m 1134 ls [])) (H : Heap) (locs : List Loc) (ls : Array Slot) (hH : HH S D cs h H) (hS : va_S (zA S) s.heap H locs) (hIh : I h) (hl : lv_has ls 4 [(0, .ref b), (1, .ref S), (2, .ref (S + 59)), (3, .int x3)]) : W p l e room_1 s m #[Value.ref b] below meth c H locs 84 4976 Q (F0 m 314 ls []) := by
  refine lv_aload_n M.x M.b d_law_314 rfl (lv_at hl 1 rfl) ?_
  refine lv_aload_n M.x M.b d_law_315 rfl (lv_at hl 0 rfl) ?_
  refine lv_iload_n M.x M.b d_law_316 rfl (lv_at hl 3 rfl) ?_
  refine lv_iconst (v := (1 : Int32)) M.x M.b d_law_317 rfl ?_
  refine lv_iadd M.x M.b d_law_318 ?_
  refine va_sld M.x M.b hX hbl hbA hS (hin 1 (by decide) (by decide)) d_law_319 ?_
  obtain ⟨r, e1, e2⟩ := hI.2.2.2.2.1 h ((xs (x3 + 1).toNatClampNeg)) hIh
  refine z_callV (ci := 7) (rest := []) (st1 := [.int r]) M hH hS (c_Y_count e1) rfl (o_Y_count e1) w_Y_count q_947 rfl ⟨Nat.le_of_ble_eq_true rfl, Nat.le_of_ble_eq_true rfl⟩ hl.1 rfl rfl (Nat.le_of_ble_eq_true rfl) ⟨Nat.le_of_ble_eq_true rfl, Nat.le_of_ble_eq_true rfl⟩ d_law_320 (fun H locs hH hS => ?_)
  refine lv_aload_n M.x M.b d_law_323 rfl (lv_at hl 2 rfl) ?_
  refine lv_aload_n M.x M.b d_law_324 rfl (lv_at hl 0 rfl) ?_
  refine lv_iload_n M.x M.b d_law_325 rfl (lv_at hl 3 rfl) ?_
  refine lv_iconst (v := (1 : Int32)) M.x M.b d_law_326 rfl ?_
  refine lv_iadd M.x M.b d_law_327 ?_
  refine va_sld M.x M.b hX hbl hbA hS (hin 1 (by decide) (by decide)) d_law_328 ?_
  refine z_callV (ci := 8) (rest := [.int r]) (st1 := [.int r, .int r]) M hH hS (c_M_count e2) rfl (o_M_count e2) w_M_count q_948 rfl ⟨Nat.le_of_ble_eq_true rfl, Nat.le_of_ble_eq_true rfl⟩ hl.1 rfl rfl (Nat.le_of_ble_eq_true rfl) ⟨Nat.le_of_ble_eq_true rfl, Nat.le_of_ble_eq_true rfl⟩ d_law_329 (fun H locs hH hS => ?_)
  refine lv_icmp_eq (tgt := 1134) M.x M.b d_law_332 (by decide) (fun _ => ?_) (fun c => absurd rfl c)
  exact hk _ H locs ls hH hS hIh hl
set_option maxRecDepth 100000 in
set_option maxHeartbeats 4000000 in
theorem lz_c5 {p : Program} {l : Launch} {e : Env} {s : State} {m : MethodId} {below : List Frame} {meth : Method} {c : Code} {S b L : Nat} {xs : Nat → Int32} {D : va_G} {cs : Nat → ClassId} {Q : State → Prop} {nm : String} (M : ZC p s m #[Value.ref b] meth c R_law nm code 4 ret S D cs) (hX : va_X b L xs s s.heap) (hbl : b < s.heap.size) (hbA : ¬ zA S b) {I : Hp → Prop} (hI : Sims I S) {h : Hp} {x3 : Int32} (hin : ∀ k : Int32, 0 ≤ k → k ≤ 8 → vp_in (x3 + k) L) (hk : ∀ (h : Hp) (H : Heap) (locs : List Loc) (ls : Array Slot), HH S D cs h H → va_S (zA S) s.heap H locs → I h → lv_has ls 4 [(0, .ref b), (1, .ref S), (2, .ref (S + 59)), (3, .int x3)] → W p l e room_1 s m #[Value.ref b] below meth c H locs 84 4976 Q (F0 m 1134 ls [])) (H : Heap) (locs : List Loc) (ls : Array Slot) (hH : HH S D cs h H) (hS : va_S (zA S) s.heap H locs) (hIh : I h) (hl : lv_has ls 4 [(0, .ref b), (1, .ref S), (2, .ref (S + 59)), (3, .int x3)]) : W p l e room_1 s m #[Value.ref b] below meth c H locs 84 4976 Q (F0 m 337 ls []) := by
  refine lv_aload_n M.x M.b d_law_337 rfl (lv_at hl 1 rfl) ?_
  refine lv_aload_n M.x M.b d_law_338 rfl (lv_at hl 0 rfl) ?_
  refine lv_iload_n M.x M.b d_law_339 rfl (lv_at hl 3 rfl) ?_
  refine lv_iconst (v := (1 : Int32)) M.x M.b d_law_340 rfl ?_
  refine lv_iadd M.x M.b d_law_341 ?_
  refine va_sld M.x M.b hX hbl hbA hS (hin 1 (by decide) (by decide)) d_law_342 ?_
  refine lv_aload_n M.x M.b d_law_343 rfl (lv_at hl 0 rfl) ?_
  refine lv_iload_n M.x M.b d_law_344 rfl (lv_at hl 3 rfl) ?_
  refine lv_iconst (v := (2 : Int32)) M.x M.b d_law_345 rfl ?_
  refine lv_iadd M.x M.b d_law_346 ?_
  refine va_sld M.x M.b hX hbl hbA hS (hin 2 (by decide) (by decide)) d_law_347 ?_
  refine lv_i2l M.x M.b d_law_348 rfl ?_
  refine lv_bipush (v := (32 : Int32)) M.x M.b d_law_349 rfl ?_
  refine lv_lshl M.x M.b d_law_351 rfl ?_
  refine lv_aload_n M.x M.b d_law_352 rfl (lv_at hl 0 rfl) ?_
  refine lv_iload_n M.x M.b d_law_353 rfl (lv_at hl 3 rfl) ?_
  refine lv_iconst (v := (3 : Int32)) M.x M.b d_law_354 rfl ?_
  refine lv_iadd M.x M.b d_law_355 ?_
  refine va_sld M.x M.b hX hbl hbA hS (hin 3 (by decide) (by decide)) d_law_356 ?_
  refine lv_i2l M.x M.b d_law_357 rfl ?_
  refine z_ldc2 (v := (4294967295 : Int64)) M q_949 d_law_358 ?_
  refine lv_land M.x M.b d_law_361 ?_
  refine lv_lor M.x M.b d_law_362 ?_
  obtain ⟨r, h1, h2, e1, e2, hIh⟩ := hI.2.2.2.2.2.1 h ((xs (x3 + 1).toNatClampNeg)) (((((xs (x3 + 2).toNatClampNeg)).toInt64 <<< (((32 : Int32)).toInt64 &&& 63)) ||| (((xs (x3 + 3).toNatClampNeg)).toInt64 &&& (4294967295 : Int64)))) hIh
  refine z_callV (ci := 7) (rest := []) (st1 := [.int r]) M hH hS (c_Y_feed e1) rfl (o_Y_feed e1) w_Y_feed q_950 rfl ⟨Nat.le_of_ble_eq_true rfl, Nat.le_of_ble_eq_true rfl⟩ hl.1 rfl rfl (Nat.le_of_ble_eq_true rfl) ⟨Nat.le_of_ble_eq_true rfl, Nat.le_of_ble_eq_true rfl⟩ d_law_363 (fun H locs hH hS => ?_)
  refine lv_aload_n M.x M.b d_law_366 rfl (lv_at hl 2 rfl) ?_
  refine lv_aload_n M.x M.b d_law_367 rfl (lv_at hl 0 rfl) ?_
  refine lv_iload_n M.x M.b d_law_368 rfl (lv_at hl 3 rfl) ?_
  refine lv_iconst (v := (1 : Int32)) M.x M.b d_law_369 rfl ?_
  refine lv_iadd M.x M.b d_law_370 ?_
  refine va_sld M.x M.b hX hbl hbA hS (hin 1 (by decide) (by decide)) d_law_371 ?_
  refine lv_aload_n M.x M.b d_law_372 rfl (lv_at hl 0 rfl) ?_
  refine lv_iload_n M.x M.b d_law_373 rfl (lv_at hl 3 rfl) ?_
  refine lv_iconst (v := (2 : Int32)) M.x M.b d_law_374 rfl ?_
  refine lv_iadd M.x M.b d_law_375 ?_
  refine va_sld M.x M.b hX hbl hbA hS (hin 2 (by decide) (by decide)) d_law_376 ?_
  refine lv_i2l M.x M.b d_law_377 rfl ?_
  refine lv_bipush (v := (32 : Int32)) M.x M.b d_law_378 rfl ?_
  refine lv_lshl M.x M.b d_law_380 rfl ?_
  refine lv_aload_n M.x M.b d_law_381 rfl (lv_at hl 0 rfl) ?_
  refine lv_iload_n M.x M.b d_law_382 rfl (lv_at hl 3 rfl) ?_
  refine lv_iconst (v := (3 : Int32)) M.x M.b d_law_383 rfl ?_
  refine lv_iadd M.x M.b d_law_384 ?_
  refine va_sld M.x M.b hX hbl hbA hS (hin 3 (by decide) (by decide)) d_law_385 ?_
  refine lv_i2l M.x M.b d_law_386 rfl ?_
  refine z_ldc2 (v := (4294967295 : Int64)) M q_949 d_law_387 ?_
  refine lv_land M.x M.b d_law_390 ?_
  refine lv_lor M.x M.b d_law_391 ?_
  refine z_callV (ci := 8) (rest := [.int r]) (st1 := [.int r, .int r]) M hH hS (c_M_feed e2) rfl (o_M_feed e2) w_M_feed q_951 rfl ⟨Nat.le_of_ble_eq_true rfl, Nat.le_of_ble_eq_true rfl⟩ hl.1 rfl rfl (Nat.le_of_ble_eq_true rfl) ⟨Nat.le_of_ble_eq_true rfl, Nat.le_of_ble_eq_true rfl⟩ d_law_392 (fun H locs hH hS => ?_)
  refine lv_icmp_eq (tgt := 1134) M.x M.b d_law_395 (by decide) (fun _ => ?_) (fun c => absurd rfl c)
  exact hk _ H locs ls hH hS hIh hl
set_option maxRecDepth 100000 in
set_option maxHeartbeats 4000000 in
theorem lz_c6 {p : Program} {l : Launch} {e : Env} {s : State} {m : MethodId} {below : List Frame} {meth : Method} {c : Code} {S b L : Nat} {xs : Nat → Int32} {D : va_G} {cs : Nat → ClassId} {Q : State → Prop} {nm : String} (M : ZC p s m #[Value.ref b] meth c R_law nm code 4 ret S D cs) (hX : va_X b L xs s s.heap) (hbl : b < s.heap.size) (hbA : ¬ zA S b) {I : Hp → Prop} (hI : Sims I S) {h : Hp} {x3 : Int32} (hin : ∀ k : Int32, 0 ≤ k → k ≤ 8 → vp_in (x3 + k) L) (hk : ∀ (h : Hp) (H : Heap) (locs : List Loc) (ls : Array Slot), HH S D cs h H → va_S (zA S) s.heap H locs → I h → lv_has ls 4 [(0, .ref b), (1, .ref S), (2, .ref (S + 59)), (3, .int x3)] → W p l e room_1 s m #[Value.ref b] below meth c H locs 84 4976 Q (F0 m 1134 ls [])) (H : Heap) (locs : List Loc) (ls : Array Slot) (hH : HH S D cs h H) (hS : va_S (zA S) s.heap H locs) (hIh : I h) (hl : lv_has ls 4 [(0, .ref b), (1, .ref S), (2, .ref (S + 59)), (3, .int x3)]) : W p l e room_1 s m #[Value.ref b] below meth c H locs 84 4976 Q (F0 m 400 ls []) := by
  refine lv_aload_n M.x M.b d_law_400 rfl (lv_at hl 1 rfl) ?_
  obtain ⟨r, h1, h2, e1, e2, hIh⟩ := hI.2.2.2.2.2.2.1 h  hIh
  refine z_callV (ci := 7) (rest := []) (st1 := [.int r]) M hH hS (c_Y_number e1) rfl (o_Y_number e1) w_Y_number q_952 rfl ⟨Nat.le_of_ble_eq_true rfl, Nat.le_of_ble_eq_true rfl⟩ hl.1 rfl rfl (Nat.le_of_ble_eq_true rfl) ⟨Nat.le_of_ble_eq_true rfl, Nat.le_of_ble_eq_true rfl⟩ d_law_401 (fun H locs hH hS => ?_)
  refine lv_aload_n M.x M.b d_law_404 rfl (lv_at hl 2 rfl) ?_
  refine z_callV (ci := 8) (rest := [.int r]) (st1 := [.int r, .int r]) M hH hS (c_M_number e2) rfl (o_M_number e2) w_M_number q_953 rfl ⟨Nat.le_of_ble_eq_true rfl, Nat.le_of_ble_eq_true rfl⟩ hl.1 rfl rfl (Nat.le_of_ble_eq_true rfl) ⟨Nat.le_of_ble_eq_true rfl, Nat.le_of_ble_eq_true rfl⟩ d_law_405 (fun H locs hH hS => ?_)
  refine lv_icmp_eq (tgt := 1134) M.x M.b d_law_408 (by decide) (fun _ => ?_) (fun c => absurd rfl c)
  exact hk _ H locs ls hH hS hIh hl
set_option maxRecDepth 100000 in
set_option maxHeartbeats 4000000 in
theorem lz_c7 {p : Program} {l : Launch} {e : Env} {s : State} {m : MethodId} {below : List Frame} {meth : Method} {c : Code} {S b L : Nat} {xs : Nat → Int32} {D : va_G} {cs : Nat → ClassId} {Q : State → Prop} {nm : String} (M : ZC p s m #[Value.ref b] meth c R_law nm code 4 ret S D cs) (hX : va_X b L xs s s.heap) (hbl : b < s.heap.size) (hbA : ¬ zA S b) {I : Hp → Prop} (hI : Sims I S) {h : Hp} {x3 : Int32} (hin : ∀ k : Int32, 0 ≤ k → k ≤ 8 → vp_in (x3 + k) L) (hk : ∀ (h : Hp) (H : Heap) (locs : List Loc) (ls : Array Slot), HH S D cs h H → va_S (zA S) s.heap H locs → I h → lv_has ls 4 [(0, .ref b), (1, .ref S), (2, .ref (S + 59)), (3, .int x3)] → W p l e room_1 s m #[Value.ref b] below meth c H locs 84 4976 Q (F0 m 1134 ls [])) (H : Heap) (locs : List Loc) (ls : Array Slot) (hH : HH S D cs h H) (hS : va_S (zA S) s.heap H locs) (hIh : I h) (hl : lv_has ls 4 [(0, .ref b), (1, .ref S), (2, .ref (S + 59)), (3, .int x3)]) : W p l e room_1 s m #[Value.ref b] below meth c H locs 84 4976 Q (F0 m 413 ls []) := by
  refine lv_aload_n M.x M.b d_law_413 rfl (lv_at hl 1 rfl) ?_
  obtain ⟨r, e1, e2⟩ := hI.2.2.2.2.2.2.2.1 h  hIh
  refine z_callV (ci := 7) (rest := []) (st1 := [.int r]) M hH hS (c_Y_fault e1) rfl (o_Y_fault e1) w_Y_fault q_954 rfl ⟨Nat.le_of_ble_eq_true rfl, Nat.le_of_ble_eq_true rfl⟩ hl.1 rfl rfl (Nat.le_of_ble_eq_true rfl) ⟨Nat.le_of_ble_eq_true rfl, Nat.le_of_ble_eq_true rfl⟩ d_law_414 (fun H locs hH hS => ?_)
  refine lv_aload_n M.x M.b d_law_417 rfl (lv_at hl 2 rfl) ?_
  refine z_callV (ci := 8) (rest := [.int r]) (st1 := [.int r, .int r]) M hH hS (c_M_fault e2) rfl (o_M_fault e2) w_M_fault q_955 rfl ⟨Nat.le_of_ble_eq_true rfl, Nat.le_of_ble_eq_true rfl⟩ hl.1 rfl rfl (Nat.le_of_ble_eq_true rfl) ⟨Nat.le_of_ble_eq_true rfl, Nat.le_of_ble_eq_true rfl⟩ d_law_418 (fun H locs hH hS => ?_)
  refine lv_icmp_eq (tgt := 1134) M.x M.b d_law_421 (by decide) (fun _ => ?_) (fun c => absurd rfl c)
  exact hk _ H locs ls hH hS hIh hl
set_option maxRecDepth 100000 in
set_option maxHeartbeats 4000000 in
theorem lz_c8 {p : Program} {l : Launch} {e : Env} {s : State} {m : MethodId} {below : List Frame} {meth : Method} {c : Code} {S b L : Nat} {xs : Nat → Int32} {D : va_G} {cs : Nat → ClassId} {Q : State → Prop} {nm : String} (M : ZC p s m #[Value.ref b] meth c R_law nm code 4 ret S D cs) (hX : va_X b L xs s s.heap) (hbl : b < s.heap.size) (hbA : ¬ zA S b) {I : Hp → Prop} (hI : Sims I S) {h : Hp} {x3 : Int32} (hin : ∀ k : Int32, 0 ≤ k → k ≤ 8 → vp_in (x3 + k) L) (hk : ∀ (h : Hp) (H : Heap) (locs : List Loc) (ls : Array Slot), HH S D cs h H → va_S (zA S) s.heap H locs → I h → lv_has ls 4 [(0, .ref b), (1, .ref S), (2, .ref (S + 59)), (3, .int x3)] → W p l e room_1 s m #[Value.ref b] below meth c H locs 84 4976 Q (F0 m 1134 ls [])) (H : Heap) (locs : List Loc) (ls : Array Slot) (hH : HH S D cs h H) (hS : va_S (zA S) s.heap H locs) (hIh : I h) (hl : lv_has ls 4 [(0, .ref b), (1, .ref S), (2, .ref (S + 59)), (3, .int x3)]) : W p l e room_1 s m #[Value.ref b] below meth c H locs 84 4976 Q (F0 m 426 ls []) := by
  refine lv_aload_n M.x M.b d_law_426 rfl (lv_at hl 1 rfl) ?_
  refine lv_aload_n M.x M.b d_law_427 rfl (lv_at hl 0 rfl) ?_
  refine lv_iload_n M.x M.b d_law_428 rfl (lv_at hl 3 rfl) ?_
  refine lv_iconst (v := (1 : Int32)) M.x M.b d_law_429 rfl ?_
  refine lv_iadd M.x M.b d_law_430 ?_
  refine va_sld M.x M.b hX hbl hbA hS (hin 1 (by decide) (by decide)) d_law_431 ?_
  refine lv_aload_n M.x M.b d_law_432 rfl (lv_at hl 0 rfl) ?_
  refine lv_iload_n M.x M.b d_law_433 rfl (lv_at hl 3 rfl) ?_
  refine lv_iconst (v := (2 : Int32)) M.x M.b d_law_434 rfl ?_
  refine lv_iadd M.x M.b d_law_435 ?_
  refine va_sld M.x M.b hX hbl hbA hS (hin 2 (by decide) (by decide)) d_law_436 ?_
  refine lv_aload_n M.x M.b d_law_437 rfl (lv_at hl 0 rfl) ?_
  refine lv_iload_n M.x M.b d_law_438 rfl (lv_at hl 3 rfl) ?_
  refine lv_iconst (v := (3 : Int32)) M.x M.b d_law_439 rfl ?_
  refine lv_iadd M.x M.b d_law_440 ?_
  refine va_sld M.x M.b hX hbl hbA hS (hin 3 (by decide) (by decide)) d_law_441 ?_
  refine lv_aload_n M.x M.b d_law_442 rfl (lv_at hl 0 rfl) ?_
  refine lv_iload_n M.x M.b d_law_443 rfl (lv_at hl 3 rfl) ?_
  refine lv_iconst (v := (4 : Int32)) M.x M.b d_law_444 rfl ?_
  refine lv_iadd M.x M.b d_law_445 ?_
  refine va_sld M.x M.b hX hbl hbA hS (hin 4 (by decide) (by decide)) d_law_446 ?_
  refine lv_aload_n M.x M.b d_law_447 rfl (lv_at hl 0 rfl) ?_
  refine lv_iload_n M.x M.b d_law_448 rfl (lv_at hl 3 rfl) ?_
  refine lv_iconst (v := (5 : Int32)) M.x M.b d_law_449 rfl ?_
  refine lv_iadd M.x M.b d_law_450 ?_
  refine va_sld M.x M.b hX hbl hbA hS (hin 5 (by decide) (by decide)) d_law_451 ?_
  obtain ⟨r, h1, h2, e1, e2, hIh⟩ := hI.2.2.2.2.2.2.2.2.1 h ((xs (x3 + 1).toNatClampNeg)) ((xs (x3 + 2).toNatClampNeg)) ((xs (x3 + 3).toNatClampNeg)) ((xs (x3 + 4).toNatClampNeg)) ((xs (x3 + 5).toNatClampNeg)) hIh
  refine z_callV (ci := 7) (rest := []) (st1 := [.long r]) M hH hS (c_Y_worth e1) rfl (o_Y_worth e1) w_Y_worth q_956 rfl ⟨Nat.le_of_ble_eq_true rfl, Nat.le_of_ble_eq_true rfl⟩ hl.1 rfl rfl (Nat.le_of_ble_eq_true rfl) ⟨Nat.le_of_ble_eq_true rfl, Nat.le_of_ble_eq_true rfl⟩ d_law_452 (fun H locs hH hS => ?_)
  refine lv_aload_n M.x M.b d_law_455 rfl (lv_at hl 2 rfl) ?_
  refine lv_aload_n M.x M.b d_law_456 rfl (lv_at hl 0 rfl) ?_
  refine lv_iload_n M.x M.b d_law_457 rfl (lv_at hl 3 rfl) ?_
  refine lv_iconst (v := (1 : Int32)) M.x M.b d_law_458 rfl ?_
  refine lv_iadd M.x M.b d_law_459 ?_
  refine va_sld M.x M.b hX hbl hbA hS (hin 1 (by decide) (by decide)) d_law_460 ?_
  refine lv_aload_n M.x M.b d_law_461 rfl (lv_at hl 0 rfl) ?_
  refine lv_iload_n M.x M.b d_law_462 rfl (lv_at hl 3 rfl) ?_
  refine lv_iconst (v := (2 : Int32)) M.x M.b d_law_463 rfl ?_
  refine lv_iadd M.x M.b d_law_464 ?_
  refine va_sld M.x M.b hX hbl hbA hS (hin 2 (by decide) (by decide)) d_law_465 ?_
  refine lv_aload_n M.x M.b d_law_466 rfl (lv_at hl 0 rfl) ?_
  refine lv_iload_n M.x M.b d_law_467 rfl (lv_at hl 3 rfl) ?_
  refine lv_iconst (v := (3 : Int32)) M.x M.b d_law_468 rfl ?_
  refine lv_iadd M.x M.b d_law_469 ?_
  refine va_sld M.x M.b hX hbl hbA hS (hin 3 (by decide) (by decide)) d_law_470 ?_
  refine lv_aload_n M.x M.b d_law_471 rfl (lv_at hl 0 rfl) ?_
  refine lv_iload_n M.x M.b d_law_472 rfl (lv_at hl 3 rfl) ?_
  refine lv_iconst (v := (4 : Int32)) M.x M.b d_law_473 rfl ?_
  refine lv_iadd M.x M.b d_law_474 ?_
  refine va_sld M.x M.b hX hbl hbA hS (hin 4 (by decide) (by decide)) d_law_475 ?_
  refine lv_aload_n M.x M.b d_law_476 rfl (lv_at hl 0 rfl) ?_
  refine lv_iload_n M.x M.b d_law_477 rfl (lv_at hl 3 rfl) ?_
  refine lv_iconst (v := (5 : Int32)) M.x M.b d_law_478 rfl ?_
  refine lv_iadd M.x M.b d_law_479 ?_
  refine va_sld M.x M.b hX hbl hbA hS (hin 5 (by decide) (by decide)) d_law_480 ?_
  refine z_callV (ci := 8) (rest := [.long r]) (st1 := [.long r, .long r]) M hH hS (c_M_worth e2) rfl (o_M_worth e2) w_M_worth q_957 rfl ⟨Nat.le_of_ble_eq_true rfl, Nat.le_of_ble_eq_true rfl⟩ hl.1 rfl rfl (Nat.le_of_ble_eq_true rfl) ⟨Nat.le_of_ble_eq_true rfl, Nat.le_of_ble_eq_true rfl⟩ d_law_481 (fun H locs hH hS => ?_)
  refine z_lcmp_eq (tgt := 1134) M d_law_484 d_law_485 (by decide) (fun _ => ?_) (fun c => absurd rfl c)
  exact hk _ H locs ls hH hS hIh hl
set_option maxRecDepth 100000 in
set_option maxHeartbeats 4000000 in
theorem lz_c9 {p : Program} {l : Launch} {e : Env} {s : State} {m : MethodId} {below : List Frame} {meth : Method} {c : Code} {S b L : Nat} {xs : Nat → Int32} {D : va_G} {cs : Nat → ClassId} {Q : State → Prop} {nm : String} (M : ZC p s m #[Value.ref b] meth c R_law nm code 4 ret S D cs) (hX : va_X b L xs s s.heap) (hbl : b < s.heap.size) (hbA : ¬ zA S b) {I : Hp → Prop} (hI : Sims I S) {h : Hp} {x3 : Int32} (hin : ∀ k : Int32, 0 ≤ k → k ≤ 8 → vp_in (x3 + k) L) (hk : ∀ (h : Hp) (H : Heap) (locs : List Loc) (ls : Array Slot), HH S D cs h H → va_S (zA S) s.heap H locs → I h → lv_has ls 4 [(0, .ref b), (1, .ref S), (2, .ref (S + 59)), (3, .int x3)] → W p l e room_1 s m #[Value.ref b] below meth c H locs 84 4976 Q (F0 m 1134 ls [])) (H : Heap) (locs : List Loc) (ls : Array Slot) (hH : HH S D cs h H) (hS : va_S (zA S) s.heap H locs) (hIh : I h) (hl : lv_has ls 4 [(0, .ref b), (1, .ref S), (2, .ref (S + 59)), (3, .int x3)]) : W p l e room_1 s m #[Value.ref b] below meth c H locs 84 4976 Q (F0 m 490 ls []) := by
  refine lv_aload_n M.x M.b d_law_490 rfl (lv_at hl 1 rfl) ?_
  refine lv_aload_n M.x M.b d_law_491 rfl (lv_at hl 0 rfl) ?_
  refine lv_iload_n M.x M.b d_law_492 rfl (lv_at hl 3 rfl) ?_
  refine lv_iconst (v := (1 : Int32)) M.x M.b d_law_493 rfl ?_
  refine lv_iadd M.x M.b d_law_494 ?_
  refine va_sld M.x M.b hX hbl hbA hS (hin 1 (by decide) (by decide)) d_law_495 ?_
  refine lv_aload_n M.x M.b d_law_496 rfl (lv_at hl 0 rfl) ?_
  refine lv_iload_n M.x M.b d_law_497 rfl (lv_at hl 3 rfl) ?_
  refine lv_iconst (v := (2 : Int32)) M.x M.b d_law_498 rfl ?_
  refine lv_iadd M.x M.b d_law_499 ?_
  refine va_sld M.x M.b hX hbl hbA hS (hin 2 (by decide) (by decide)) d_law_500 ?_
  refine lv_aload_n M.x M.b d_law_501 rfl (lv_at hl 0 rfl) ?_
  refine lv_iload_n M.x M.b d_law_502 rfl (lv_at hl 3 rfl) ?_
  refine lv_iconst (v := (3 : Int32)) M.x M.b d_law_503 rfl ?_
  refine lv_iadd M.x M.b d_law_504 ?_
  refine va_sld M.x M.b hX hbl hbA hS (hin 3 (by decide) (by decide)) d_law_505 ?_
  refine lv_aload_n M.x M.b d_law_506 rfl (lv_at hl 0 rfl) ?_
  refine lv_iload_n M.x M.b d_law_507 rfl (lv_at hl 3 rfl) ?_
  refine lv_iconst (v := (4 : Int32)) M.x M.b d_law_508 rfl ?_
  refine lv_iadd M.x M.b d_law_509 ?_
  refine va_sld M.x M.b hX hbl hbA hS (hin 4 (by decide) (by decide)) d_law_510 ?_
  refine lv_aload_n M.x M.b d_law_511 rfl (lv_at hl 0 rfl) ?_
  refine lv_iload_n M.x M.b d_law_512 rfl (lv_at hl 3 rfl) ?_
  refine lv_iconst (v := (5 : Int32)) M.x M.b d_law_513 rfl ?_
  refine lv_iadd M.x M.b d_law_514 ?_
  refine va_sld M.x M.b hX hbl hbA hS (hin 5 (by decide) (by decide)) d_law_515 ?_
  obtain ⟨r, h1, h2, e1, e2, hIh⟩ := hI.2.2.2.2.2.2.2.2.2.1 h ((xs (x3 + 1).toNatClampNeg)) ((xs (x3 + 2).toNatClampNeg)) ((xs (x3 + 3).toNatClampNeg)) ((xs (x3 + 4).toNatClampNeg)) ((xs (x3 + 5).toNatClampNeg)) hIh
  refine z_callV (ci := 7) (rest := []) (st1 := [.int r]) M hH hS (c_Y_order e1) rfl (o_Y_order e1) w_Y_order q_958 rfl ⟨Nat.le_of_ble_eq_true rfl, Nat.le_of_ble_eq_true rfl⟩ hl.1 rfl rfl (Nat.le_of_ble_eq_true rfl) ⟨Nat.le_of_ble_eq_true rfl, Nat.le_of_ble_eq_true rfl⟩ d_law_516 (fun H locs hH hS => ?_)
  refine lv_aload_n M.x M.b d_law_519 rfl (lv_at hl 2 rfl) ?_
  refine lv_aload_n M.x M.b d_law_520 rfl (lv_at hl 0 rfl) ?_
  refine lv_iload_n M.x M.b d_law_521 rfl (lv_at hl 3 rfl) ?_
  refine lv_iconst (v := (1 : Int32)) M.x M.b d_law_522 rfl ?_
  refine lv_iadd M.x M.b d_law_523 ?_
  refine va_sld M.x M.b hX hbl hbA hS (hin 1 (by decide) (by decide)) d_law_524 ?_
  refine lv_aload_n M.x M.b d_law_525 rfl (lv_at hl 0 rfl) ?_
  refine lv_iload_n M.x M.b d_law_526 rfl (lv_at hl 3 rfl) ?_
  refine lv_iconst (v := (2 : Int32)) M.x M.b d_law_527 rfl ?_
  refine lv_iadd M.x M.b d_law_528 ?_
  refine va_sld M.x M.b hX hbl hbA hS (hin 2 (by decide) (by decide)) d_law_529 ?_
  refine lv_aload_n M.x M.b d_law_530 rfl (lv_at hl 0 rfl) ?_
  refine lv_iload_n M.x M.b d_law_531 rfl (lv_at hl 3 rfl) ?_
  refine lv_iconst (v := (3 : Int32)) M.x M.b d_law_532 rfl ?_
  refine lv_iadd M.x M.b d_law_533 ?_
  refine va_sld M.x M.b hX hbl hbA hS (hin 3 (by decide) (by decide)) d_law_534 ?_
  refine lv_aload_n M.x M.b d_law_535 rfl (lv_at hl 0 rfl) ?_
  refine lv_iload_n M.x M.b d_law_536 rfl (lv_at hl 3 rfl) ?_
  refine lv_iconst (v := (4 : Int32)) M.x M.b d_law_537 rfl ?_
  refine lv_iadd M.x M.b d_law_538 ?_
  refine va_sld M.x M.b hX hbl hbA hS (hin 4 (by decide) (by decide)) d_law_539 ?_
  refine lv_aload_n M.x M.b d_law_540 rfl (lv_at hl 0 rfl) ?_
  refine lv_iload_n M.x M.b d_law_541 rfl (lv_at hl 3 rfl) ?_
  refine lv_iconst (v := (5 : Int32)) M.x M.b d_law_542 rfl ?_
  refine lv_iadd M.x M.b d_law_543 ?_
  refine va_sld M.x M.b hX hbl hbA hS (hin 5 (by decide) (by decide)) d_law_544 ?_
  refine z_callV (ci := 8) (rest := [.int r]) (st1 := [.int r, .int r]) M hH hS (c_M_order e2) rfl (o_M_order e2) w_M_order q_959 rfl ⟨Nat.le_of_ble_eq_true rfl, Nat.le_of_ble_eq_true rfl⟩ hl.1 rfl rfl (Nat.le_of_ble_eq_true rfl) ⟨Nat.le_of_ble_eq_true rfl, Nat.le_of_ble_eq_true rfl⟩ d_law_545 (fun H locs hH hS => ?_)
  refine lv_icmp_eq (tgt := 1134) M.x M.b d_law_548 (by decide) (fun _ => ?_) (fun c => absurd rfl c)
  exact hk _ H locs ls hH hS hIh hl
set_option maxRecDepth 100000 in
set_option maxHeartbeats 4000000 in
theorem lz_c10 {p : Program} {l : Launch} {e : Env} {s : State} {m : MethodId} {below : List Frame} {meth : Method} {c : Code} {S b L : Nat} {xs : Nat → Int32} {D : va_G} {cs : Nat → ClassId} {Q : State → Prop} {nm : String} (M : ZC p s m #[Value.ref b] meth c R_law nm code 4 ret S D cs) (hX : va_X b L xs s s.heap) (hbl : b < s.heap.size) (hbA : ¬ zA S b) {I : Hp → Prop} (hI : Sims I S) {h : Hp} {x3 : Int32} (hin : ∀ k : Int32, 0 ≤ k → k ≤ 8 → vp_in (x3 + k) L) (hk : ∀ (h : Hp) (H : Heap) (locs : List Loc) (ls : Array Slot), HH S D cs h H → va_S (zA S) s.heap H locs → I h → lv_has ls 4 [(0, .ref b), (1, .ref S), (2, .ref (S + 59)), (3, .int x3)] → W p l e room_1 s m #[Value.ref b] below meth c H locs 84 4976 Q (F0 m 1134 ls [])) (H : Heap) (locs : List Loc) (ls : Array Slot) (hH : HH S D cs h H) (hS : va_S (zA S) s.heap H locs) (hIh : I h) (hl : lv_has ls 4 [(0, .ref b), (1, .ref S), (2, .ref (S + 59)), (3, .int x3)]) : W p l e room_1 s m #[Value.ref b] below meth c H locs 84 4976 Q (F0 m 553 ls []) := by
  refine lv_aload_n M.x M.b d_law_553 rfl (lv_at hl 1 rfl) ?_
  refine lv_aload_n M.x M.b d_law_554 rfl (lv_at hl 0 rfl) ?_
  refine lv_iload_n M.x M.b d_law_555 rfl (lv_at hl 3 rfl) ?_
  refine lv_iconst (v := (1 : Int32)) M.x M.b d_law_556 rfl ?_
  refine lv_iadd M.x M.b d_law_557 ?_
  refine va_sld M.x M.b hX hbl hbA hS (hin 1 (by decide) (by decide)) d_law_558 ?_
  refine lv_aload_n M.x M.b d_law_559 rfl (lv_at hl 0 rfl) ?_
  refine lv_iload_n M.x M.b d_law_560 rfl (lv_at hl 3 rfl) ?_
  refine lv_iconst (v := (2 : Int32)) M.x M.b d_law_561 rfl ?_
  refine lv_iadd M.x M.b d_law_562 ?_
  refine va_sld M.x M.b hX hbl hbA hS (hin 2 (by decide) (by decide)) d_law_563 ?_
  refine lv_aload_n M.x M.b d_law_564 rfl (lv_at hl 0 rfl) ?_
  refine lv_iload_n M.x M.b d_law_565 rfl (lv_at hl 3 rfl) ?_
  refine lv_iconst (v := (3 : Int32)) M.x M.b d_law_566 rfl ?_
  refine lv_iadd M.x M.b d_law_567 ?_
  refine va_sld M.x M.b hX hbl hbA hS (hin 3 (by decide) (by decide)) d_law_568 ?_
  obtain ⟨r, h1, h2, e1, e2, hIh⟩ := hI.2.2.2.2.2.2.2.2.2.2.1 h ((xs (x3 + 1).toNatClampNeg)) ((xs (x3 + 2).toNatClampNeg)) ((xs (x3 + 3).toNatClampNeg)) hIh
  refine z_callV (ci := 7) (rest := []) (st1 := [.int r]) M hH hS (c_Y_keeps e1) rfl (o_Y_keeps e1) w_Y_keeps q_960 rfl ⟨Nat.le_of_ble_eq_true rfl, Nat.le_of_ble_eq_true rfl⟩ hl.1 rfl rfl (Nat.le_of_ble_eq_true rfl) ⟨Nat.le_of_ble_eq_true rfl, Nat.le_of_ble_eq_true rfl⟩ d_law_569 (fun H locs hH hS => ?_)
  refine lv_aload_n M.x M.b d_law_572 rfl (lv_at hl 2 rfl) ?_
  refine lv_aload_n M.x M.b d_law_573 rfl (lv_at hl 0 rfl) ?_
  refine lv_iload_n M.x M.b d_law_574 rfl (lv_at hl 3 rfl) ?_
  refine lv_iconst (v := (1 : Int32)) M.x M.b d_law_575 rfl ?_
  refine lv_iadd M.x M.b d_law_576 ?_
  refine va_sld M.x M.b hX hbl hbA hS (hin 1 (by decide) (by decide)) d_law_577 ?_
  refine lv_aload_n M.x M.b d_law_578 rfl (lv_at hl 0 rfl) ?_
  refine lv_iload_n M.x M.b d_law_579 rfl (lv_at hl 3 rfl) ?_
  refine lv_iconst (v := (2 : Int32)) M.x M.b d_law_580 rfl ?_
  refine lv_iadd M.x M.b d_law_581 ?_
  refine va_sld M.x M.b hX hbl hbA hS (hin 2 (by decide) (by decide)) d_law_582 ?_
  refine lv_aload_n M.x M.b d_law_583 rfl (lv_at hl 0 rfl) ?_
  refine lv_iload_n M.x M.b d_law_584 rfl (lv_at hl 3 rfl) ?_
  refine lv_iconst (v := (3 : Int32)) M.x M.b d_law_585 rfl ?_
  refine lv_iadd M.x M.b d_law_586 ?_
  refine va_sld M.x M.b hX hbl hbA hS (hin 3 (by decide) (by decide)) d_law_587 ?_
  refine z_callV (ci := 8) (rest := [.int r]) (st1 := [.int r, .int r]) M hH hS (c_M_keeps e2) rfl (o_M_keeps e2) w_M_keeps q_961 rfl ⟨Nat.le_of_ble_eq_true rfl, Nat.le_of_ble_eq_true rfl⟩ hl.1 rfl rfl (Nat.le_of_ble_eq_true rfl) ⟨Nat.le_of_ble_eq_true rfl, Nat.le_of_ble_eq_true rfl⟩ d_law_588 (fun H locs hH hS => ?_)
  refine lv_icmp_eq (tgt := 1134) M.x M.b d_law_591 (by decide) (fun _ => ?_) (fun c => absurd rfl c)
  exact hk _ H locs ls hH hS hIh hl
set_option maxRecDepth 100000 in
set_option maxHeartbeats 4000000 in
theorem lz_c11 {p : Program} {l : Launch} {e : Env} {s : State} {m : MethodId} {below : List Frame} {meth : Method} {c : Code} {S b L : Nat} {xs : Nat → Int32} {D : va_G} {cs : Nat → ClassId} {Q : State → Prop} {nm : String} (M : ZC p s m #[Value.ref b] meth c R_law nm code 4 ret S D cs) (hX : va_X b L xs s s.heap) (hbl : b < s.heap.size) (hbA : ¬ zA S b) {I : Hp → Prop} (hI : Sims I S) {h : Hp} {x3 : Int32} (hin : ∀ k : Int32, 0 ≤ k → k ≤ 8 → vp_in (x3 + k) L) (hk : ∀ (h : Hp) (H : Heap) (locs : List Loc) (ls : Array Slot), HH S D cs h H → va_S (zA S) s.heap H locs → I h → lv_has ls 4 [(0, .ref b), (1, .ref S), (2, .ref (S + 59)), (3, .int x3)] → W p l e room_1 s m #[Value.ref b] below meth c H locs 84 4976 Q (F0 m 1134 ls [])) (H : Heap) (locs : List Loc) (ls : Array Slot) (hH : HH S D cs h H) (hS : va_S (zA S) s.heap H locs) (hIh : I h) (hl : lv_has ls 4 [(0, .ref b), (1, .ref S), (2, .ref (S + 59)), (3, .int x3)]) : W p l e room_1 s m #[Value.ref b] below meth c H locs 84 4976 Q (F0 m 596 ls []) := by
  refine lv_aload_n M.x M.b d_law_596 rfl (lv_at hl 1 rfl) ?_
  refine lv_aload_n M.x M.b d_law_597 rfl (lv_at hl 0 rfl) ?_
  refine lv_iload_n M.x M.b d_law_598 rfl (lv_at hl 3 rfl) ?_
  refine lv_iconst (v := (1 : Int32)) M.x M.b d_law_599 rfl ?_
  refine lv_iadd M.x M.b d_law_600 ?_
  refine va_sld M.x M.b hX hbl hbA hS (hin 1 (by decide) (by decide)) d_law_601 ?_
  refine lv_aload_n M.x M.b d_law_602 rfl (lv_at hl 0 rfl) ?_
  refine lv_iload_n M.x M.b d_law_603 rfl (lv_at hl 3 rfl) ?_
  refine lv_iconst (v := (2 : Int32)) M.x M.b d_law_604 rfl ?_
  refine lv_iadd M.x M.b d_law_605 ?_
  refine va_sld M.x M.b hX hbl hbA hS (hin 2 (by decide) (by decide)) d_law_606 ?_
  refine lv_aload_n M.x M.b d_law_607 rfl (lv_at hl 0 rfl) ?_
  refine lv_iload_n M.x M.b d_law_608 rfl (lv_at hl 3 rfl) ?_
  refine lv_iconst (v := (3 : Int32)) M.x M.b d_law_609 rfl ?_
  refine lv_iadd M.x M.b d_law_610 ?_
  refine va_sld M.x M.b hX hbl hbA hS (hin 3 (by decide) (by decide)) d_law_611 ?_
  refine lv_aload_n M.x M.b d_law_612 rfl (lv_at hl 0 rfl) ?_
  refine lv_iload_n M.x M.b d_law_613 rfl (lv_at hl 3 rfl) ?_
  refine lv_iconst (v := (4 : Int32)) M.x M.b d_law_614 rfl ?_
  refine lv_iadd M.x M.b d_law_615 ?_
  refine va_sld M.x M.b hX hbl hbA hS (hin 4 (by decide) (by decide)) d_law_616 ?_
  obtain ⟨r, h1, h2, e1, e2, hIh⟩ := hI.2.2.2.2.2.2.2.2.2.2.2.1 h ((xs (x3 + 1).toNatClampNeg)) ((xs (x3 + 2).toNatClampNeg)) ((xs (x3 + 3).toNatClampNeg)) ((xs (x3 + 4).toNatClampNeg)) hIh
  refine z_callV (ci := 7) (rest := []) (st1 := [.int r]) M hH hS (c_Y_breach e1) rfl (o_Y_breach e1) w_Y_breach q_962 rfl ⟨Nat.le_of_ble_eq_true rfl, Nat.le_of_ble_eq_true rfl⟩ hl.1 rfl rfl (Nat.le_of_ble_eq_true rfl) ⟨Nat.le_of_ble_eq_true rfl, Nat.le_of_ble_eq_true rfl⟩ d_law_617 (fun H locs hH hS => ?_)
  refine lv_aload_n M.x M.b d_law_620 rfl (lv_at hl 2 rfl) ?_
  refine lv_aload_n M.x M.b d_law_621 rfl (lv_at hl 0 rfl) ?_
  refine lv_iload_n M.x M.b d_law_622 rfl (lv_at hl 3 rfl) ?_
  refine lv_iconst (v := (1 : Int32)) M.x M.b d_law_623 rfl ?_
  refine lv_iadd M.x M.b d_law_624 ?_
  refine va_sld M.x M.b hX hbl hbA hS (hin 1 (by decide) (by decide)) d_law_625 ?_
  refine lv_aload_n M.x M.b d_law_626 rfl (lv_at hl 0 rfl) ?_
  refine lv_iload_n M.x M.b d_law_627 rfl (lv_at hl 3 rfl) ?_
  refine lv_iconst (v := (2 : Int32)) M.x M.b d_law_628 rfl ?_
  refine lv_iadd M.x M.b d_law_629 ?_
  refine va_sld M.x M.b hX hbl hbA hS (hin 2 (by decide) (by decide)) d_law_630 ?_
  refine lv_aload_n M.x M.b d_law_631 rfl (lv_at hl 0 rfl) ?_
  refine lv_iload_n M.x M.b d_law_632 rfl (lv_at hl 3 rfl) ?_
  refine lv_iconst (v := (3 : Int32)) M.x M.b d_law_633 rfl ?_
  refine lv_iadd M.x M.b d_law_634 ?_
  refine va_sld M.x M.b hX hbl hbA hS (hin 3 (by decide) (by decide)) d_law_635 ?_
  refine lv_aload_n M.x M.b d_law_636 rfl (lv_at hl 0 rfl) ?_
  refine lv_iload_n M.x M.b d_law_637 rfl (lv_at hl 3 rfl) ?_
  refine lv_iconst (v := (4 : Int32)) M.x M.b d_law_638 rfl ?_
  refine lv_iadd M.x M.b d_law_639 ?_
  refine va_sld M.x M.b hX hbl hbA hS (hin 4 (by decide) (by decide)) d_law_640 ?_
  refine z_callV (ci := 8) (rest := [.int r]) (st1 := [.int r, .int r]) M hH hS (c_M_breach e2) rfl (o_M_breach e2) w_M_breach q_963 rfl ⟨Nat.le_of_ble_eq_true rfl, Nat.le_of_ble_eq_true rfl⟩ hl.1 rfl rfl (Nat.le_of_ble_eq_true rfl) ⟨Nat.le_of_ble_eq_true rfl, Nat.le_of_ble_eq_true rfl⟩ d_law_641 (fun H locs hH hS => ?_)
  refine lv_icmp_eq (tgt := 1134) M.x M.b d_law_644 (by decide) (fun _ => ?_) (fun c => absurd rfl c)
  exact hk _ H locs ls hH hS hIh hl
set_option maxRecDepth 100000 in
set_option maxHeartbeats 4000000 in
theorem lz_c12 {p : Program} {l : Launch} {e : Env} {s : State} {m : MethodId} {below : List Frame} {meth : Method} {c : Code} {S b L : Nat} {xs : Nat → Int32} {D : va_G} {cs : Nat → ClassId} {Q : State → Prop} {nm : String} (M : ZC p s m #[Value.ref b] meth c R_law nm code 4 ret S D cs) (hX : va_X b L xs s s.heap) (hbl : b < s.heap.size) (hbA : ¬ zA S b) {I : Hp → Prop} (hI : Sims I S) {h : Hp} {x3 : Int32} (hin : ∀ k : Int32, 0 ≤ k → k ≤ 8 → vp_in (x3 + k) L) (hk : ∀ (h : Hp) (H : Heap) (locs : List Loc) (ls : Array Slot), HH S D cs h H → va_S (zA S) s.heap H locs → I h → lv_has ls 4 [(0, .ref b), (1, .ref S), (2, .ref (S + 59)), (3, .int x3)] → W p l e room_1 s m #[Value.ref b] below meth c H locs 84 4976 Q (F0 m 1134 ls [])) (H : Heap) (locs : List Loc) (ls : Array Slot) (hH : HH S D cs h H) (hS : va_S (zA S) s.heap H locs) (hIh : I h) (hl : lv_has ls 4 [(0, .ref b), (1, .ref S), (2, .ref (S + 59)), (3, .int x3)]) : W p l e room_1 s m #[Value.ref b] below meth c H locs 84 4976 Q (F0 m 649 ls []) := by
  refine lv_aload_n M.x M.b d_law_649 rfl (lv_at hl 1 rfl) ?_
  refine lv_aload_n M.x M.b d_law_650 rfl (lv_at hl 0 rfl) ?_
  refine lv_iload_n M.x M.b d_law_651 rfl (lv_at hl 3 rfl) ?_
  refine lv_iconst (v := (1 : Int32)) M.x M.b d_law_652 rfl ?_
  refine lv_iadd M.x M.b d_law_653 ?_
  refine va_sld M.x M.b hX hbl hbA hS (hin 1 (by decide) (by decide)) d_law_654 ?_
  obtain ⟨r, h1, h2, e1, e2, hIh⟩ := hI.2.2.2.2.2.2.2.2.2.2.2.2.1 h ((xs (x3 + 1).toNatClampNeg)) hIh
  refine z_callV (ci := 7) (rest := []) (st1 := [.int r]) M hH hS (c_Y_clash e1) rfl (o_Y_clash e1) w_Y_clash q_964 rfl ⟨Nat.le_of_ble_eq_true rfl, Nat.le_of_ble_eq_true rfl⟩ hl.1 rfl rfl (Nat.le_of_ble_eq_true rfl) ⟨Nat.le_of_ble_eq_true rfl, Nat.le_of_ble_eq_true rfl⟩ d_law_655 (fun H locs hH hS => ?_)
  refine lv_aload_n M.x M.b d_law_658 rfl (lv_at hl 2 rfl) ?_
  refine lv_aload_n M.x M.b d_law_659 rfl (lv_at hl 0 rfl) ?_
  refine lv_iload_n M.x M.b d_law_660 rfl (lv_at hl 3 rfl) ?_
  refine lv_iconst (v := (1 : Int32)) M.x M.b d_law_661 rfl ?_
  refine lv_iadd M.x M.b d_law_662 ?_
  refine va_sld M.x M.b hX hbl hbA hS (hin 1 (by decide) (by decide)) d_law_663 ?_
  refine z_callV (ci := 8) (rest := [.int r]) (st1 := [.int r, .int r]) M hH hS (c_M_clash e2) rfl (o_M_clash e2) w_M_clash q_965 rfl ⟨Nat.le_of_ble_eq_true rfl, Nat.le_of_ble_eq_true rfl⟩ hl.1 rfl rfl (Nat.le_of_ble_eq_true rfl) ⟨Nat.le_of_ble_eq_true rfl, Nat.le_of_ble_eq_true rfl⟩ d_law_664 (fun H locs hH hS => ?_)
  refine lv_icmp_eq (tgt := 1134) M.x M.b d_law_667 (by decide) (fun _ => ?_) (fun c => absurd rfl c)
  exact hk _ H locs ls hH hS hIh hl
set_option maxRecDepth 100000 in
set_option maxHeartbeats 4000000 in
theorem lz_c13 {p : Program} {l : Launch} {e : Env} {s : State} {m : MethodId} {below : List Frame} {meth : Method} {c : Code} {S b L : Nat} {xs : Nat → Int32} {D : va_G} {cs : Nat → ClassId} {Q : State → Prop} {nm : String} (M : ZC p s m #[Value.ref b] meth c R_law nm code 4 ret S D cs) (hX : va_X b L xs s s.heap) (hbl : b < s.heap.size) (hbA : ¬ zA S b) {I : Hp → Prop} (hI : Sims I S) {h : Hp} {x3 : Int32} (hin : ∀ k : Int32, 0 ≤ k → k ≤ 8 → vp_in (x3 + k) L) (hk : ∀ (h : Hp) (H : Heap) (locs : List Loc) (ls : Array Slot), HH S D cs h H → va_S (zA S) s.heap H locs → I h → lv_has ls 4 [(0, .ref b), (1, .ref S), (2, .ref (S + 59)), (3, .int x3)] → W p l e room_1 s m #[Value.ref b] below meth c H locs 84 4976 Q (F0 m 1134 ls [])) (H : Heap) (locs : List Loc) (ls : Array Slot) (hH : HH S D cs h H) (hS : va_S (zA S) s.heap H locs) (hIh : I h) (hl : lv_has ls 4 [(0, .ref b), (1, .ref S), (2, .ref (S + 59)), (3, .int x3)]) : W p l e room_1 s m #[Value.ref b] below meth c H locs 84 4976 Q (F0 m 672 ls []) := by
  refine lv_aload_n M.x M.b d_law_672 rfl (lv_at hl 1 rfl) ?_
  refine lv_aload_n M.x M.b d_law_673 rfl (lv_at hl 0 rfl) ?_
  refine lv_iload_n M.x M.b d_law_674 rfl (lv_at hl 3 rfl) ?_
  refine lv_iconst (v := (1 : Int32)) M.x M.b d_law_675 rfl ?_
  refine lv_iadd M.x M.b d_law_676 ?_
  refine va_sld M.x M.b hX hbl hbA hS (hin 1 (by decide) (by decide)) d_law_677 ?_
  refine lv_aload_n M.x M.b d_law_678 rfl (lv_at hl 0 rfl) ?_
  refine lv_iload_n M.x M.b d_law_679 rfl (lv_at hl 3 rfl) ?_
  refine lv_iconst (v := (2 : Int32)) M.x M.b d_law_680 rfl ?_
  refine lv_iadd M.x M.b d_law_681 ?_
  refine va_sld M.x M.b hX hbl hbA hS (hin 2 (by decide) (by decide)) d_law_682 ?_
  refine lv_aload_n M.x M.b d_law_683 rfl (lv_at hl 0 rfl) ?_
  refine lv_iload_n M.x M.b d_law_684 rfl (lv_at hl 3 rfl) ?_
  refine lv_iconst (v := (3 : Int32)) M.x M.b d_law_685 rfl ?_
  refine lv_iadd M.x M.b d_law_686 ?_
  refine va_sld M.x M.b hX hbl hbA hS (hin 3 (by decide) (by decide)) d_law_687 ?_
  refine lv_aload_n M.x M.b d_law_688 rfl (lv_at hl 0 rfl) ?_
  refine lv_iload_n M.x M.b d_law_689 rfl (lv_at hl 3 rfl) ?_
  refine lv_iconst (v := (4 : Int32)) M.x M.b d_law_690 rfl ?_
  refine lv_iadd M.x M.b d_law_691 ?_
  refine va_sld M.x M.b hX hbl hbA hS (hin 4 (by decide) (by decide)) d_law_692 ?_
  refine lv_aload_n M.x M.b d_law_693 rfl (lv_at hl 0 rfl) ?_
  refine lv_iload_n M.x M.b d_law_694 rfl (lv_at hl 3 rfl) ?_
  refine lv_iconst (v := (5 : Int32)) M.x M.b d_law_695 rfl ?_
  refine lv_iadd M.x M.b d_law_696 ?_
  refine va_sld M.x M.b hX hbl hbA hS (hin 5 (by decide) (by decide)) d_law_697 ?_
  obtain ⟨r, h1, h2, e1, e2, hIh⟩ := hI.2.2.2.2.2.2.2.2.2.2.2.2.2.1 h ((xs (x3 + 1).toNatClampNeg)) ((xs (x3 + 2).toNatClampNeg)) ((xs (x3 + 3).toNatClampNeg)) ((xs (x3 + 4).toNatClampNeg)) ((xs (x3 + 5).toNatClampNeg)) hIh
  refine z_callV (ci := 7) (rest := []) (st1 := [.long r]) M hH hS (c_Y_drift e1) rfl (o_Y_drift e1) w_Y_drift q_966 rfl ⟨Nat.le_of_ble_eq_true rfl, Nat.le_of_ble_eq_true rfl⟩ hl.1 rfl rfl (Nat.le_of_ble_eq_true rfl) ⟨Nat.le_of_ble_eq_true rfl, Nat.le_of_ble_eq_true rfl⟩ d_law_698 (fun H locs hH hS => ?_)
  refine lv_aload_n M.x M.b d_law_701 rfl (lv_at hl 2 rfl) ?_
  refine lv_aload_n M.x M.b d_law_702 rfl (lv_at hl 0 rfl) ?_
  refine lv_iload_n M.x M.b d_law_703 rfl (lv_at hl 3 rfl) ?_
  refine lv_iconst (v := (1 : Int32)) M.x M.b d_law_704 rfl ?_
  refine lv_iadd M.x M.b d_law_705 ?_
  refine va_sld M.x M.b hX hbl hbA hS (hin 1 (by decide) (by decide)) d_law_706 ?_
  refine lv_aload_n M.x M.b d_law_707 rfl (lv_at hl 0 rfl) ?_
  refine lv_iload_n M.x M.b d_law_708 rfl (lv_at hl 3 rfl) ?_
  refine lv_iconst (v := (2 : Int32)) M.x M.b d_law_709 rfl ?_
  refine lv_iadd M.x M.b d_law_710 ?_
  refine va_sld M.x M.b hX hbl hbA hS (hin 2 (by decide) (by decide)) d_law_711 ?_
  refine lv_aload_n M.x M.b d_law_712 rfl (lv_at hl 0 rfl) ?_
  refine lv_iload_n M.x M.b d_law_713 rfl (lv_at hl 3 rfl) ?_
  refine lv_iconst (v := (3 : Int32)) M.x M.b d_law_714 rfl ?_
  refine lv_iadd M.x M.b d_law_715 ?_
  refine va_sld M.x M.b hX hbl hbA hS (hin 3 (by decide) (by decide)) d_law_716 ?_
  refine lv_aload_n M.x M.b d_law_717 rfl (lv_at hl 0 rfl) ?_
  refine lv_iload_n M.x M.b d_law_718 rfl (lv_at hl 3 rfl) ?_
  refine lv_iconst (v := (4 : Int32)) M.x M.b d_law_719 rfl ?_
  refine lv_iadd M.x M.b d_law_720 ?_
  refine va_sld M.x M.b hX hbl hbA hS (hin 4 (by decide) (by decide)) d_law_721 ?_
  refine lv_aload_n M.x M.b d_law_722 rfl (lv_at hl 0 rfl) ?_
  refine lv_iload_n M.x M.b d_law_723 rfl (lv_at hl 3 rfl) ?_
  refine lv_iconst (v := (5 : Int32)) M.x M.b d_law_724 rfl ?_
  refine lv_iadd M.x M.b d_law_725 ?_
  refine va_sld M.x M.b hX hbl hbA hS (hin 5 (by decide) (by decide)) d_law_726 ?_
  refine z_callV (ci := 8) (rest := [.long r]) (st1 := [.long r, .long r]) M hH hS (c_M_drift e2) rfl (o_M_drift e2) w_M_drift q_967 rfl ⟨Nat.le_of_ble_eq_true rfl, Nat.le_of_ble_eq_true rfl⟩ hl.1 rfl rfl (Nat.le_of_ble_eq_true rfl) ⟨Nat.le_of_ble_eq_true rfl, Nat.le_of_ble_eq_true rfl⟩ d_law_727 (fun H locs hH hS => ?_)
  refine z_lcmp_eq (tgt := 1134) M d_law_730 d_law_731 (by decide) (fun _ => ?_) (fun c => absurd rfl c)
  exact hk _ H locs ls hH hS hIh hl
set_option maxRecDepth 100000 in
set_option maxHeartbeats 4000000 in
theorem lz_c14 {p : Program} {l : Launch} {e : Env} {s : State} {m : MethodId} {below : List Frame} {meth : Method} {c : Code} {S b L : Nat} {xs : Nat → Int32} {D : va_G} {cs : Nat → ClassId} {Q : State → Prop} {nm : String} (M : ZC p s m #[Value.ref b] meth c R_law nm code 4 ret S D cs) (hX : va_X b L xs s s.heap) (hbl : b < s.heap.size) (hbA : ¬ zA S b) {I : Hp → Prop} (hI : Sims I S) {h : Hp} {x3 : Int32} (hin : ∀ k : Int32, 0 ≤ k → k ≤ 8 → vp_in (x3 + k) L) (hk : ∀ (h : Hp) (H : Heap) (locs : List Loc) (ls : Array Slot), HH S D cs h H → va_S (zA S) s.heap H locs → I h → lv_has ls 4 [(0, .ref b), (1, .ref S), (2, .ref (S + 59)), (3, .int x3)] → W p l e room_1 s m #[Value.ref b] below meth c H locs 84 4976 Q (F0 m 1134 ls [])) (H : Heap) (locs : List Loc) (ls : Array Slot) (hH : HH S D cs h H) (hS : va_S (zA S) s.heap H locs) (hIh : I h) (hl : lv_has ls 4 [(0, .ref b), (1, .ref S), (2, .ref (S + 59)), (3, .int x3)]) : W p l e room_1 s m #[Value.ref b] below meth c H locs 84 4976 Q (F0 m 736 ls []) := by
  refine lv_aload_n M.x M.b d_law_736 rfl (lv_at hl 1 rfl) ?_
  refine lv_aload_n M.x M.b d_law_737 rfl (lv_at hl 0 rfl) ?_
  refine lv_iload_n M.x M.b d_law_738 rfl (lv_at hl 3 rfl) ?_
  refine lv_iconst (v := (1 : Int32)) M.x M.b d_law_739 rfl ?_
  refine lv_iadd M.x M.b d_law_740 ?_
  refine va_sld M.x M.b hX hbl hbA hS (hin 1 (by decide) (by decide)) d_law_741 ?_
  refine lv_aload_n M.x M.b d_law_742 rfl (lv_at hl 0 rfl) ?_
  refine lv_iload_n M.x M.b d_law_743 rfl (lv_at hl 3 rfl) ?_
  refine lv_iconst (v := (2 : Int32)) M.x M.b d_law_744 rfl ?_
  refine lv_iadd M.x M.b d_law_745 ?_
  refine va_sld M.x M.b hX hbl hbA hS (hin 2 (by decide) (by decide)) d_law_746 ?_
  refine lv_aload_n M.x M.b d_law_747 rfl (lv_at hl 0 rfl) ?_
  refine lv_iload_n M.x M.b d_law_748 rfl (lv_at hl 3 rfl) ?_
  refine lv_iconst (v := (3 : Int32)) M.x M.b d_law_749 rfl ?_
  refine lv_iadd M.x M.b d_law_750 ?_
  refine va_sld M.x M.b hX hbl hbA hS (hin 3 (by decide) (by decide)) d_law_751 ?_
  obtain ⟨r, e1, e2⟩ := hI.2.2.2.2.2.2.2.2.2.2.2.2.2.2.1 h ((xs (x3 + 1).toNatClampNeg)) ((xs (x3 + 2).toNatClampNeg)) ((xs (x3 + 3).toNatClampNeg)) hIh
  refine z_callV (ci := 7) (rest := []) (st1 := [.int r]) M hH hS (c_Y_chosen e1) rfl (o_Y_chosen e1) w_Y_chosen q_968 rfl ⟨Nat.le_of_ble_eq_true rfl, Nat.le_of_ble_eq_true rfl⟩ hl.1 rfl rfl (Nat.le_of_ble_eq_true rfl) ⟨Nat.le_of_ble_eq_true rfl, Nat.le_of_ble_eq_true rfl⟩ d_law_752 (fun H locs hH hS => ?_)
  refine lv_aload_n M.x M.b d_law_755 rfl (lv_at hl 2 rfl) ?_
  refine lv_aload_n M.x M.b d_law_756 rfl (lv_at hl 0 rfl) ?_
  refine lv_iload_n M.x M.b d_law_757 rfl (lv_at hl 3 rfl) ?_
  refine lv_iconst (v := (1 : Int32)) M.x M.b d_law_758 rfl ?_
  refine lv_iadd M.x M.b d_law_759 ?_
  refine va_sld M.x M.b hX hbl hbA hS (hin 1 (by decide) (by decide)) d_law_760 ?_
  refine lv_aload_n M.x M.b d_law_761 rfl (lv_at hl 0 rfl) ?_
  refine lv_iload_n M.x M.b d_law_762 rfl (lv_at hl 3 rfl) ?_
  refine lv_iconst (v := (2 : Int32)) M.x M.b d_law_763 rfl ?_
  refine lv_iadd M.x M.b d_law_764 ?_
  refine va_sld M.x M.b hX hbl hbA hS (hin 2 (by decide) (by decide)) d_law_765 ?_
  refine lv_aload_n M.x M.b d_law_766 rfl (lv_at hl 0 rfl) ?_
  refine lv_iload_n M.x M.b d_law_767 rfl (lv_at hl 3 rfl) ?_
  refine lv_iconst (v := (3 : Int32)) M.x M.b d_law_768 rfl ?_
  refine lv_iadd M.x M.b d_law_769 ?_
  refine va_sld M.x M.b hX hbl hbA hS (hin 3 (by decide) (by decide)) d_law_770 ?_
  refine z_callV (ci := 8) (rest := [.int r]) (st1 := [.int r, .int r]) M hH hS (c_M_chosen e2) rfl (o_M_chosen e2) w_M_chosen q_969 rfl ⟨Nat.le_of_ble_eq_true rfl, Nat.le_of_ble_eq_true rfl⟩ hl.1 rfl rfl (Nat.le_of_ble_eq_true rfl) ⟨Nat.le_of_ble_eq_true rfl, Nat.le_of_ble_eq_true rfl⟩ d_law_771 (fun H locs hH hS => ?_)
  refine lv_icmp_eq (tgt := 1134) M.x M.b d_law_774 (by decide) (fun _ => ?_) (fun c => absurd rfl c)
  exact hk _ H locs ls hH hS hIh hl
set_option maxRecDepth 100000 in
set_option maxHeartbeats 4000000 in
theorem lz_c15 {p : Program} {l : Launch} {e : Env} {s : State} {m : MethodId} {below : List Frame} {meth : Method} {c : Code} {S b L : Nat} {xs : Nat → Int32} {D : va_G} {cs : Nat → ClassId} {Q : State → Prop} {nm : String} (M : ZC p s m #[Value.ref b] meth c R_law nm code 4 ret S D cs) (hX : va_X b L xs s s.heap) (hbl : b < s.heap.size) (hbA : ¬ zA S b) {I : Hp → Prop} (hI : Sims I S) {h : Hp} {x3 : Int32} (hin : ∀ k : Int32, 0 ≤ k → k ≤ 8 → vp_in (x3 + k) L) (hk : ∀ (h : Hp) (H : Heap) (locs : List Loc) (ls : Array Slot), HH S D cs h H → va_S (zA S) s.heap H locs → I h → lv_has ls 4 [(0, .ref b), (1, .ref S), (2, .ref (S + 59)), (3, .int x3)] → W p l e room_1 s m #[Value.ref b] below meth c H locs 84 4976 Q (F0 m 1134 ls [])) (H : Heap) (locs : List Loc) (ls : Array Slot) (hH : HH S D cs h H) (hS : va_S (zA S) s.heap H locs) (hIh : I h) (hl : lv_has ls 4 [(0, .ref b), (1, .ref S), (2, .ref (S + 59)), (3, .int x3)]) : W p l e room_1 s m #[Value.ref b] below meth c H locs 84 4976 Q (F0 m 779 ls []) := by
  refine lv_aload_n M.x M.b d_law_779 rfl (lv_at hl 1 rfl) ?_
  refine lv_aload_n M.x M.b d_law_780 rfl (lv_at hl 0 rfl) ?_
  refine lv_iload_n M.x M.b d_law_781 rfl (lv_at hl 3 rfl) ?_
  refine lv_iconst (v := (1 : Int32)) M.x M.b d_law_782 rfl ?_
  refine lv_iadd M.x M.b d_law_783 ?_
  refine va_sld M.x M.b hX hbl hbA hS (hin 1 (by decide) (by decide)) d_law_784 ?_
  refine lv_aload_n M.x M.b d_law_785 rfl (lv_at hl 0 rfl) ?_
  refine lv_iload_n M.x M.b d_law_786 rfl (lv_at hl 3 rfl) ?_
  refine lv_iconst (v := (2 : Int32)) M.x M.b d_law_787 rfl ?_
  refine lv_iadd M.x M.b d_law_788 ?_
  refine va_sld M.x M.b hX hbl hbA hS (hin 2 (by decide) (by decide)) d_law_789 ?_
  obtain ⟨r, h1, h2, e1, e2, hIh⟩ := hI.2.2.2.2.2.2.2.2.2.2.2.2.2.2.2.1 h ((xs (x3 + 1).toNatClampNeg)) ((xs (x3 + 2).toNatClampNeg)) hIh
  refine z_callV (ci := 7) (rest := []) (st1 := [.int r]) M hH hS (c_Y_ring e1) rfl (o_Y_ring e1) w_Y_ring q_970 rfl ⟨Nat.le_of_ble_eq_true rfl, Nat.le_of_ble_eq_true rfl⟩ hl.1 rfl rfl (Nat.le_of_ble_eq_true rfl) ⟨Nat.le_of_ble_eq_true rfl, Nat.le_of_ble_eq_true rfl⟩ d_law_790 (fun H locs hH hS => ?_)
  refine lv_aload_n M.x M.b d_law_793 rfl (lv_at hl 2 rfl) ?_
  refine lv_aload_n M.x M.b d_law_794 rfl (lv_at hl 0 rfl) ?_
  refine lv_iload_n M.x M.b d_law_795 rfl (lv_at hl 3 rfl) ?_
  refine lv_iconst (v := (1 : Int32)) M.x M.b d_law_796 rfl ?_
  refine lv_iadd M.x M.b d_law_797 ?_
  refine va_sld M.x M.b hX hbl hbA hS (hin 1 (by decide) (by decide)) d_law_798 ?_
  refine lv_aload_n M.x M.b d_law_799 rfl (lv_at hl 0 rfl) ?_
  refine lv_iload_n M.x M.b d_law_800 rfl (lv_at hl 3 rfl) ?_
  refine lv_iconst (v := (2 : Int32)) M.x M.b d_law_801 rfl ?_
  refine lv_iadd M.x M.b d_law_802 ?_
  refine va_sld M.x M.b hX hbl hbA hS (hin 2 (by decide) (by decide)) d_law_803 ?_
  refine z_callV (ci := 8) (rest := [.int r]) (st1 := [.int r, .int r]) M hH hS (c_M_ring e2) rfl (o_M_ring e2) w_M_ring q_971 rfl ⟨Nat.le_of_ble_eq_true rfl, Nat.le_of_ble_eq_true rfl⟩ hl.1 rfl rfl (Nat.le_of_ble_eq_true rfl) ⟨Nat.le_of_ble_eq_true rfl, Nat.le_of_ble_eq_true rfl⟩ d_law_804 (fun H locs hH hS => ?_)
  refine lv_icmp_eq (tgt := 1134) M.x M.b d_law_807 (by decide) (fun _ => ?_) (fun c => absurd rfl c)
  exact hk _ H locs ls hH hS hIh hl
set_option maxRecDepth 100000 in
set_option maxHeartbeats 4000000 in
theorem lz_c16 {p : Program} {l : Launch} {e : Env} {s : State} {m : MethodId} {below : List Frame} {meth : Method} {c : Code} {S b L : Nat} {xs : Nat → Int32} {D : va_G} {cs : Nat → ClassId} {Q : State → Prop} {nm : String} (M : ZC p s m #[Value.ref b] meth c R_law nm code 4 ret S D cs) (hX : va_X b L xs s s.heap) (hbl : b < s.heap.size) (hbA : ¬ zA S b) {I : Hp → Prop} (hI : Sims I S) {h : Hp} {x3 : Int32} (hin : ∀ k : Int32, 0 ≤ k → k ≤ 8 → vp_in (x3 + k) L) (hk : ∀ (h : Hp) (H : Heap) (locs : List Loc) (ls : Array Slot), HH S D cs h H → va_S (zA S) s.heap H locs → I h → lv_has ls 4 [(0, .ref b), (1, .ref S), (2, .ref (S + 59)), (3, .int x3)] → W p l e room_1 s m #[Value.ref b] below meth c H locs 84 4976 Q (F0 m 1134 ls [])) (H : Heap) (locs : List Loc) (ls : Array Slot) (hH : HH S D cs h H) (hS : va_S (zA S) s.heap H locs) (hIh : I h) (hl : lv_has ls 4 [(0, .ref b), (1, .ref S), (2, .ref (S + 59)), (3, .int x3)]) : W p l e room_1 s m #[Value.ref b] below meth c H locs 84 4976 Q (F0 m 812 ls []) := by
  refine lv_aload_n M.x M.b d_law_812 rfl (lv_at hl 1 rfl) ?_
  refine lv_aload_n M.x M.b d_law_813 rfl (lv_at hl 0 rfl) ?_
  refine lv_iload_n M.x M.b d_law_814 rfl (lv_at hl 3 rfl) ?_
  refine lv_iconst (v := (1 : Int32)) M.x M.b d_law_815 rfl ?_
  refine lv_iadd M.x M.b d_law_816 ?_
  refine va_sld M.x M.b hX hbl hbA hS (hin 1 (by decide) (by decide)) d_law_817 ?_
  refine lv_aload_n M.x M.b d_law_818 rfl (lv_at hl 0 rfl) ?_
  refine lv_iload_n M.x M.b d_law_819 rfl (lv_at hl 3 rfl) ?_
  refine lv_iconst (v := (2 : Int32)) M.x M.b d_law_820 rfl ?_
  refine lv_iadd M.x M.b d_law_821 ?_
  refine va_sld M.x M.b hX hbl hbA hS (hin 2 (by decide) (by decide)) d_law_822 ?_
  refine lv_aload_n M.x M.b d_law_823 rfl (lv_at hl 0 rfl) ?_
  refine lv_iload_n M.x M.b d_law_824 rfl (lv_at hl 3 rfl) ?_
  refine lv_iconst (v := (3 : Int32)) M.x M.b d_law_825 rfl ?_
  refine lv_iadd M.x M.b d_law_826 ?_
  refine va_sld M.x M.b hX hbl hbA hS (hin 3 (by decide) (by decide)) d_law_827 ?_
  refine lv_aload_n M.x M.b d_law_828 rfl (lv_at hl 0 rfl) ?_
  refine lv_iload_n M.x M.b d_law_829 rfl (lv_at hl 3 rfl) ?_
  refine lv_iconst (v := (4 : Int32)) M.x M.b d_law_830 rfl ?_
  refine lv_iadd M.x M.b d_law_831 ?_
  refine va_sld M.x M.b hX hbl hbA hS (hin 4 (by decide) (by decide)) d_law_832 ?_
  obtain ⟨r, h1, h2, e1, e2, hIh⟩ := hI.2.2.2.2.2.2.2.2.2.2.2.2.2.2.2.2.1 h ((xs (x3 + 1).toNatClampNeg)) ((xs (x3 + 2).toNatClampNeg)) ((xs (x3 + 3).toNatClampNeg)) ((xs (x3 + 4).toNatClampNeg)) hIh
  refine z_callV (ci := 7) (rest := []) (st1 := [.int r]) M hH hS (c_Y_need e1) rfl (o_Y_need e1) w_Y_need q_972 rfl ⟨Nat.le_of_ble_eq_true rfl, Nat.le_of_ble_eq_true rfl⟩ hl.1 rfl rfl (Nat.le_of_ble_eq_true rfl) ⟨Nat.le_of_ble_eq_true rfl, Nat.le_of_ble_eq_true rfl⟩ d_law_833 (fun H locs hH hS => ?_)
  refine lv_aload_n M.x M.b d_law_836 rfl (lv_at hl 2 rfl) ?_
  refine lv_aload_n M.x M.b d_law_837 rfl (lv_at hl 0 rfl) ?_
  refine lv_iload_n M.x M.b d_law_838 rfl (lv_at hl 3 rfl) ?_
  refine lv_iconst (v := (1 : Int32)) M.x M.b d_law_839 rfl ?_
  refine lv_iadd M.x M.b d_law_840 ?_
  refine va_sld M.x M.b hX hbl hbA hS (hin 1 (by decide) (by decide)) d_law_841 ?_
  refine lv_aload_n M.x M.b d_law_842 rfl (lv_at hl 0 rfl) ?_
  refine lv_iload_n M.x M.b d_law_843 rfl (lv_at hl 3 rfl) ?_
  refine lv_iconst (v := (2 : Int32)) M.x M.b d_law_844 rfl ?_
  refine lv_iadd M.x M.b d_law_845 ?_
  refine va_sld M.x M.b hX hbl hbA hS (hin 2 (by decide) (by decide)) d_law_846 ?_
  refine lv_aload_n M.x M.b d_law_847 rfl (lv_at hl 0 rfl) ?_
  refine lv_iload_n M.x M.b d_law_848 rfl (lv_at hl 3 rfl) ?_
  refine lv_iconst (v := (3 : Int32)) M.x M.b d_law_849 rfl ?_
  refine lv_iadd M.x M.b d_law_850 ?_
  refine va_sld M.x M.b hX hbl hbA hS (hin 3 (by decide) (by decide)) d_law_851 ?_
  refine lv_aload_n M.x M.b d_law_852 rfl (lv_at hl 0 rfl) ?_
  refine lv_iload_n M.x M.b d_law_853 rfl (lv_at hl 3 rfl) ?_
  refine lv_iconst (v := (4 : Int32)) M.x M.b d_law_854 rfl ?_
  refine lv_iadd M.x M.b d_law_855 ?_
  refine va_sld M.x M.b hX hbl hbA hS (hin 4 (by decide) (by decide)) d_law_856 ?_
  refine z_callV (ci := 8) (rest := [.int r]) (st1 := [.int r, .int r]) M hH hS (c_M_need e2) rfl (o_M_need e2) w_M_need q_973 rfl ⟨Nat.le_of_ble_eq_true rfl, Nat.le_of_ble_eq_true rfl⟩ hl.1 rfl rfl (Nat.le_of_ble_eq_true rfl) ⟨Nat.le_of_ble_eq_true rfl, Nat.le_of_ble_eq_true rfl⟩ d_law_857 (fun H locs hH hS => ?_)
  refine lv_icmp_eq (tgt := 1134) M.x M.b d_law_860 (by decide) (fun _ => ?_) (fun c => absurd rfl c)
  exact hk _ H locs ls hH hS hIh hl
set_option maxRecDepth 100000 in
set_option maxHeartbeats 4000000 in
theorem lz_c17 {p : Program} {l : Launch} {e : Env} {s : State} {m : MethodId} {below : List Frame} {meth : Method} {c : Code} {S b L : Nat} {xs : Nat → Int32} {D : va_G} {cs : Nat → ClassId} {Q : State → Prop} {nm : String} (M : ZC p s m #[Value.ref b] meth c R_law nm code 4 ret S D cs) (hX : va_X b L xs s s.heap) (hbl : b < s.heap.size) (hbA : ¬ zA S b) {I : Hp → Prop} (hI : Sims I S) {h : Hp} {x3 : Int32} (hin : ∀ k : Int32, 0 ≤ k → k ≤ 8 → vp_in (x3 + k) L) (hk : ∀ (h : Hp) (H : Heap) (locs : List Loc) (ls : Array Slot), HH S D cs h H → va_S (zA S) s.heap H locs → I h → lv_has ls 4 [(0, .ref b), (1, .ref S), (2, .ref (S + 59)), (3, .int x3)] → W p l e room_1 s m #[Value.ref b] below meth c H locs 84 4976 Q (F0 m 1134 ls [])) (H : Heap) (locs : List Loc) (ls : Array Slot) (hH : HH S D cs h H) (hS : va_S (zA S) s.heap H locs) (hIh : I h) (hl : lv_has ls 4 [(0, .ref b), (1, .ref S), (2, .ref (S + 59)), (3, .int x3)]) : W p l e room_1 s m #[Value.ref b] below meth c H locs 84 4976 Q (F0 m 865 ls []) := by
  refine lv_aload_n M.x M.b d_law_865 rfl (lv_at hl 1 rfl) ?_
  refine lv_aload_n M.x M.b d_law_866 rfl (lv_at hl 0 rfl) ?_
  refine lv_iload_n M.x M.b d_law_867 rfl (lv_at hl 3 rfl) ?_
  refine lv_iconst (v := (1 : Int32)) M.x M.b d_law_868 rfl ?_
  refine lv_iadd M.x M.b d_law_869 ?_
  refine va_sld M.x M.b hX hbl hbA hS (hin 1 (by decide) (by decide)) d_law_870 ?_
  refine lv_aload_n M.x M.b d_law_871 rfl (lv_at hl 0 rfl) ?_
  refine lv_iload_n M.x M.b d_law_872 rfl (lv_at hl 3 rfl) ?_
  refine lv_iconst (v := (2 : Int32)) M.x M.b d_law_873 rfl ?_
  refine lv_iadd M.x M.b d_law_874 ?_
  refine va_sld M.x M.b hX hbl hbA hS (hin 2 (by decide) (by decide)) d_law_875 ?_
  refine lv_aload_n M.x M.b d_law_876 rfl (lv_at hl 0 rfl) ?_
  refine lv_iload_n M.x M.b d_law_877 rfl (lv_at hl 3 rfl) ?_
  refine lv_iconst (v := (3 : Int32)) M.x M.b d_law_878 rfl ?_
  refine lv_iadd M.x M.b d_law_879 ?_
  refine va_sld M.x M.b hX hbl hbA hS (hin 3 (by decide) (by decide)) d_law_880 ?_
  refine lv_aload_n M.x M.b d_law_881 rfl (lv_at hl 0 rfl) ?_
  refine lv_iload_n M.x M.b d_law_882 rfl (lv_at hl 3 rfl) ?_
  refine lv_iconst (v := (4 : Int32)) M.x M.b d_law_883 rfl ?_
  refine lv_iadd M.x M.b d_law_884 ?_
  refine va_sld M.x M.b hX hbl hbA hS (hin 4 (by decide) (by decide)) d_law_885 ?_
  refine lv_aload_n M.x M.b d_law_886 rfl (lv_at hl 0 rfl) ?_
  refine lv_iload_n M.x M.b d_law_887 rfl (lv_at hl 3 rfl) ?_
  refine lv_iconst (v := (5 : Int32)) M.x M.b d_law_888 rfl ?_
  refine lv_iadd M.x M.b d_law_889 ?_
  refine va_sld M.x M.b hX hbl hbA hS (hin 5 (by decide) (by decide)) d_law_890 ?_
  obtain ⟨r, e1, e2⟩ := hI.2.2.2.2.2.2.2.2.2.2.2.2.2.2.2.2.2.1 h ((xs (x3 + 1).toNatClampNeg)) ((xs (x3 + 2).toNatClampNeg)) ((xs (x3 + 3).toNatClampNeg)) ((xs (x3 + 4).toNatClampNeg)) ((xs (x3 + 5).toNatClampNeg)) hIh
  refine z_callV (ci := 7) (rest := []) (st1 := [.int r]) M hH hS (c_Y_part e1) rfl (o_Y_part e1) w_Y_part q_974 rfl ⟨Nat.le_of_ble_eq_true rfl, Nat.le_of_ble_eq_true rfl⟩ hl.1 rfl rfl (Nat.le_of_ble_eq_true rfl) ⟨Nat.le_of_ble_eq_true rfl, Nat.le_of_ble_eq_true rfl⟩ d_law_891 (fun H locs hH hS => ?_)
  refine lv_aload_n M.x M.b d_law_894 rfl (lv_at hl 2 rfl) ?_
  refine lv_aload_n M.x M.b d_law_895 rfl (lv_at hl 0 rfl) ?_
  refine lv_iload_n M.x M.b d_law_896 rfl (lv_at hl 3 rfl) ?_
  refine lv_iconst (v := (1 : Int32)) M.x M.b d_law_897 rfl ?_
  refine lv_iadd M.x M.b d_law_898 ?_
  refine va_sld M.x M.b hX hbl hbA hS (hin 1 (by decide) (by decide)) d_law_899 ?_
  refine lv_aload_n M.x M.b d_law_900 rfl (lv_at hl 0 rfl) ?_
  refine lv_iload_n M.x M.b d_law_901 rfl (lv_at hl 3 rfl) ?_
  refine lv_iconst (v := (2 : Int32)) M.x M.b d_law_902 rfl ?_
  refine lv_iadd M.x M.b d_law_903 ?_
  refine va_sld M.x M.b hX hbl hbA hS (hin 2 (by decide) (by decide)) d_law_904 ?_
  refine lv_aload_n M.x M.b d_law_905 rfl (lv_at hl 0 rfl) ?_
  refine lv_iload_n M.x M.b d_law_906 rfl (lv_at hl 3 rfl) ?_
  refine lv_iconst (v := (3 : Int32)) M.x M.b d_law_907 rfl ?_
  refine lv_iadd M.x M.b d_law_908 ?_
  refine va_sld M.x M.b hX hbl hbA hS (hin 3 (by decide) (by decide)) d_law_909 ?_
  refine lv_aload_n M.x M.b d_law_910 rfl (lv_at hl 0 rfl) ?_
  refine lv_iload_n M.x M.b d_law_911 rfl (lv_at hl 3 rfl) ?_
  refine lv_iconst (v := (4 : Int32)) M.x M.b d_law_912 rfl ?_
  refine lv_iadd M.x M.b d_law_913 ?_
  refine va_sld M.x M.b hX hbl hbA hS (hin 4 (by decide) (by decide)) d_law_914 ?_
  refine lv_aload_n M.x M.b d_law_915 rfl (lv_at hl 0 rfl) ?_
  refine lv_iload_n M.x M.b d_law_916 rfl (lv_at hl 3 rfl) ?_
  refine lv_iconst (v := (5 : Int32)) M.x M.b d_law_917 rfl ?_
  refine lv_iadd M.x M.b d_law_918 ?_
  refine va_sld M.x M.b hX hbl hbA hS (hin 5 (by decide) (by decide)) d_law_919 ?_
  refine z_callV (ci := 8) (rest := [.int r]) (st1 := [.int r, .int r]) M hH hS (c_M_part e2) rfl (o_M_part e2) w_M_part q_975 rfl ⟨Nat.le_of_ble_eq_true rfl, Nat.le_of_ble_eq_true rfl⟩ hl.1 rfl rfl (Nat.le_of_ble_eq_true rfl) ⟨Nat.le_of_ble_eq_true rfl, Nat.le_of_ble_eq_true rfl⟩ d_law_920 (fun H locs hH hS => ?_)
  refine lv_icmp_eq (tgt := 1134) M.x M.b d_law_923 (by decide) (fun _ => ?_) (fun c => absurd rfl c)
  exact hk _ H locs ls hH hS hIh hl
set_option maxRecDepth 100000 in
set_option maxHeartbeats 4000000 in
theorem lz_c18 {p : Program} {l : Launch} {e : Env} {s : State} {m : MethodId} {below : List Frame} {meth : Method} {c : Code} {S b L : Nat} {xs : Nat → Int32} {D : va_G} {cs : Nat → ClassId} {Q : State → Prop} {nm : String} (M : ZC p s m #[Value.ref b] meth c R_law nm code 4 ret S D cs) (hX : va_X b L xs s s.heap) (hbl : b < s.heap.size) (hbA : ¬ zA S b) {I : Hp → Prop} (hI : Sims I S) {h : Hp} {x3 : Int32} (hin : ∀ k : Int32, 0 ≤ k → k ≤ 8 → vp_in (x3 + k) L) (hk : ∀ (h : Hp) (H : Heap) (locs : List Loc) (ls : Array Slot), HH S D cs h H → va_S (zA S) s.heap H locs → I h → lv_has ls 4 [(0, .ref b), (1, .ref S), (2, .ref (S + 59)), (3, .int x3)] → W p l e room_1 s m #[Value.ref b] below meth c H locs 84 4976 Q (F0 m 1134 ls [])) (H : Heap) (locs : List Loc) (ls : Array Slot) (hH : HH S D cs h H) (hS : va_S (zA S) s.heap H locs) (hIh : I h) (hl : lv_has ls 4 [(0, .ref b), (1, .ref S), (2, .ref (S + 59)), (3, .int x3)]) : W p l e room_1 s m #[Value.ref b] below meth c H locs 84 4976 Q (F0 m 928 ls []) := by
  refine lv_aload_n M.x M.b d_law_928 rfl (lv_at hl 1 rfl) ?_
  refine lv_aload_n M.x M.b d_law_929 rfl (lv_at hl 0 rfl) ?_
  refine lv_iload_n M.x M.b d_law_930 rfl (lv_at hl 3 rfl) ?_
  refine lv_iconst (v := (1 : Int32)) M.x M.b d_law_931 rfl ?_
  refine lv_iadd M.x M.b d_law_932 ?_
  refine va_sld M.x M.b hX hbl hbA hS (hin 1 (by decide) (by decide)) d_law_933 ?_
  refine lv_aload_n M.x M.b d_law_934 rfl (lv_at hl 0 rfl) ?_
  refine lv_iload_n M.x M.b d_law_935 rfl (lv_at hl 3 rfl) ?_
  refine lv_iconst (v := (2 : Int32)) M.x M.b d_law_936 rfl ?_
  refine lv_iadd M.x M.b d_law_937 ?_
  refine va_sld M.x M.b hX hbl hbA hS (hin 2 (by decide) (by decide)) d_law_938 ?_
  refine lv_aload_n M.x M.b d_law_939 rfl (lv_at hl 0 rfl) ?_
  refine lv_iload_n M.x M.b d_law_940 rfl (lv_at hl 3 rfl) ?_
  refine lv_iconst (v := (3 : Int32)) M.x M.b d_law_941 rfl ?_
  refine lv_iadd M.x M.b d_law_942 ?_
  refine va_sld M.x M.b hX hbl hbA hS (hin 3 (by decide) (by decide)) d_law_943 ?_
  refine lv_aload_n M.x M.b d_law_944 rfl (lv_at hl 0 rfl) ?_
  refine lv_iload_n M.x M.b d_law_945 rfl (lv_at hl 3 rfl) ?_
  refine lv_iconst (v := (4 : Int32)) M.x M.b d_law_946 rfl ?_
  refine lv_iadd M.x M.b d_law_947 ?_
  refine va_sld M.x M.b hX hbl hbA hS (hin 4 (by decide) (by decide)) d_law_948 ?_
  refine lv_aload_n M.x M.b d_law_949 rfl (lv_at hl 0 rfl) ?_
  refine lv_iload_n M.x M.b d_law_950 rfl (lv_at hl 3 rfl) ?_
  refine lv_iconst (v := (5 : Int32)) M.x M.b d_law_951 rfl ?_
  refine lv_iadd M.x M.b d_law_952 ?_
  refine va_sld M.x M.b hX hbl hbA hS (hin 5 (by decide) (by decide)) d_law_953 ?_
  obtain ⟨r, h1, h2, e1, e2, hIh⟩ := hI.2.2.2.2.2.2.2.2.2.2.2.2.2.2.2.2.2.2.1 h ((xs (x3 + 1).toNatClampNeg)) ((xs (x3 + 2).toNatClampNeg)) ((xs (x3 + 3).toNatClampNeg)) ((xs (x3 + 4).toNatClampNeg)) ((xs (x3 + 5).toNatClampNeg)) hIh
  refine z_callV (ci := 7) (rest := []) (st1 := [.long r]) M hH hS (c_Y_wage e1) rfl (o_Y_wage e1) w_Y_wage q_976 rfl ⟨Nat.le_of_ble_eq_true rfl, Nat.le_of_ble_eq_true rfl⟩ hl.1 rfl rfl (Nat.le_of_ble_eq_true rfl) ⟨Nat.le_of_ble_eq_true rfl, Nat.le_of_ble_eq_true rfl⟩ d_law_954 (fun H locs hH hS => ?_)
  refine lv_aload_n M.x M.b d_law_957 rfl (lv_at hl 2 rfl) ?_
  refine lv_aload_n M.x M.b d_law_958 rfl (lv_at hl 0 rfl) ?_
  refine lv_iload_n M.x M.b d_law_959 rfl (lv_at hl 3 rfl) ?_
  refine lv_iconst (v := (1 : Int32)) M.x M.b d_law_960 rfl ?_
  refine lv_iadd M.x M.b d_law_961 ?_
  refine va_sld M.x M.b hX hbl hbA hS (hin 1 (by decide) (by decide)) d_law_962 ?_
  refine lv_aload_n M.x M.b d_law_963 rfl (lv_at hl 0 rfl) ?_
  refine lv_iload_n M.x M.b d_law_964 rfl (lv_at hl 3 rfl) ?_
  refine lv_iconst (v := (2 : Int32)) M.x M.b d_law_965 rfl ?_
  refine lv_iadd M.x M.b d_law_966 ?_
  refine va_sld M.x M.b hX hbl hbA hS (hin 2 (by decide) (by decide)) d_law_967 ?_
  refine lv_aload_n M.x M.b d_law_968 rfl (lv_at hl 0 rfl) ?_
  refine lv_iload_n M.x M.b d_law_969 rfl (lv_at hl 3 rfl) ?_
  refine lv_iconst (v := (3 : Int32)) M.x M.b d_law_970 rfl ?_
  refine lv_iadd M.x M.b d_law_971 ?_
  refine va_sld M.x M.b hX hbl hbA hS (hin 3 (by decide) (by decide)) d_law_972 ?_
  refine lv_aload_n M.x M.b d_law_973 rfl (lv_at hl 0 rfl) ?_
  refine lv_iload_n M.x M.b d_law_974 rfl (lv_at hl 3 rfl) ?_
  refine lv_iconst (v := (4 : Int32)) M.x M.b d_law_975 rfl ?_
  refine lv_iadd M.x M.b d_law_976 ?_
  refine va_sld M.x M.b hX hbl hbA hS (hin 4 (by decide) (by decide)) d_law_977 ?_
  refine lv_aload_n M.x M.b d_law_978 rfl (lv_at hl 0 rfl) ?_
  refine lv_iload_n M.x M.b d_law_979 rfl (lv_at hl 3 rfl) ?_
  refine lv_iconst (v := (5 : Int32)) M.x M.b d_law_980 rfl ?_
  refine lv_iadd M.x M.b d_law_981 ?_
  refine va_sld M.x M.b hX hbl hbA hS (hin 5 (by decide) (by decide)) d_law_982 ?_
  refine z_callV (ci := 8) (rest := [.long r]) (st1 := [.long r, .long r]) M hH hS (c_M_wage e2) rfl (o_M_wage e2) w_M_wage q_977 rfl ⟨Nat.le_of_ble_eq_true rfl, Nat.le_of_ble_eq_true rfl⟩ hl.1 rfl rfl (Nat.le_of_ble_eq_true rfl) ⟨Nat.le_of_ble_eq_true rfl, Nat.le_of_ble_eq_true rfl⟩ d_law_983 (fun H locs hH hS => ?_)
  refine z_lcmp_eq (tgt := 1134) M d_law_986 d_law_987 (by decide) (fun _ => ?_) (fun c => absurd rfl c)
  exact hk _ H locs ls hH hS hIh hl
set_option maxRecDepth 100000 in
set_option maxHeartbeats 4000000 in
theorem lz_c19 {p : Program} {l : Launch} {e : Env} {s : State} {m : MethodId} {below : List Frame} {meth : Method} {c : Code} {S b L : Nat} {xs : Nat → Int32} {D : va_G} {cs : Nat → ClassId} {Q : State → Prop} {nm : String} (M : ZC p s m #[Value.ref b] meth c R_law nm code 4 ret S D cs) (hX : va_X b L xs s s.heap) (hbl : b < s.heap.size) (hbA : ¬ zA S b) {I : Hp → Prop} (hI : Sims I S) {h : Hp} {x3 : Int32} (hin : ∀ k : Int32, 0 ≤ k → k ≤ 8 → vp_in (x3 + k) L) (hk : ∀ (h : Hp) (H : Heap) (locs : List Loc) (ls : Array Slot), HH S D cs h H → va_S (zA S) s.heap H locs → I h → lv_has ls 4 [(0, .ref b), (1, .ref S), (2, .ref (S + 59)), (3, .int x3)] → W p l e room_1 s m #[Value.ref b] below meth c H locs 84 4976 Q (F0 m 1134 ls [])) (H : Heap) (locs : List Loc) (ls : Array Slot) (hH : HH S D cs h H) (hS : va_S (zA S) s.heap H locs) (hIh : I h) (hl : lv_has ls 4 [(0, .ref b), (1, .ref S), (2, .ref (S + 59)), (3, .int x3)]) : W p l e room_1 s m #[Value.ref b] below meth c H locs 84 4976 Q (F0 m 992 ls []) := by
  refine lv_aload_n M.x M.b d_law_992 rfl (lv_at hl 1 rfl) ?_
  refine lv_aload_n M.x M.b d_law_993 rfl (lv_at hl 0 rfl) ?_
  refine lv_iload_n M.x M.b d_law_994 rfl (lv_at hl 3 rfl) ?_
  refine lv_iconst (v := (1 : Int32)) M.x M.b d_law_995 rfl ?_
  refine lv_iadd M.x M.b d_law_996 ?_
  refine va_sld M.x M.b hX hbl hbA hS (hin 1 (by decide) (by decide)) d_law_997 ?_
  refine lv_aload_n M.x M.b d_law_998 rfl (lv_at hl 0 rfl) ?_
  refine lv_iload_n M.x M.b d_law_999 rfl (lv_at hl 3 rfl) ?_
  refine lv_iconst (v := (2 : Int32)) M.x M.b d_law_1000 rfl ?_
  refine lv_iadd M.x M.b d_law_1001 ?_
  refine va_sld M.x M.b hX hbl hbA hS (hin 2 (by decide) (by decide)) d_law_1002 ?_
  refine lv_aload_n M.x M.b d_law_1003 rfl (lv_at hl 0 rfl) ?_
  refine lv_iload_n M.x M.b d_law_1004 rfl (lv_at hl 3 rfl) ?_
  refine lv_iconst (v := (3 : Int32)) M.x M.b d_law_1005 rfl ?_
  refine lv_iadd M.x M.b d_law_1006 ?_
  refine va_sld M.x M.b hX hbl hbA hS (hin 3 (by decide) (by decide)) d_law_1007 ?_
  obtain ⟨r, h1, h2, e1, e2, hIh⟩ := hI.2.2.2.2.2.2.2.2.2.2.2.2.2.2.2.2.2.2.2.1 h ((xs (x3 + 1).toNatClampNeg)) ((xs (x3 + 2).toNatClampNeg)) ((xs (x3 + 3).toNatClampNeg)) hIh
  refine z_callV (ci := 7) (rest := []) (st1 := [.int r]) M hH hS (c_Y_dearest e1) rfl (o_Y_dearest e1) w_Y_dearest q_978 rfl ⟨Nat.le_of_ble_eq_true rfl, Nat.le_of_ble_eq_true rfl⟩ hl.1 rfl rfl (Nat.le_of_ble_eq_true rfl) ⟨Nat.le_of_ble_eq_true rfl, Nat.le_of_ble_eq_true rfl⟩ d_law_1008 (fun H locs hH hS => ?_)
  refine lv_aload_n M.x M.b d_law_1011 rfl (lv_at hl 2 rfl) ?_
  refine lv_aload_n M.x M.b d_law_1012 rfl (lv_at hl 0 rfl) ?_
  refine lv_iload_n M.x M.b d_law_1013 rfl (lv_at hl 3 rfl) ?_
  refine lv_iconst (v := (1 : Int32)) M.x M.b d_law_1014 rfl ?_
  refine lv_iadd M.x M.b d_law_1015 ?_
  refine va_sld M.x M.b hX hbl hbA hS (hin 1 (by decide) (by decide)) d_law_1016 ?_
  refine lv_aload_n M.x M.b d_law_1017 rfl (lv_at hl 0 rfl) ?_
  refine lv_iload_n M.x M.b d_law_1018 rfl (lv_at hl 3 rfl) ?_
  refine lv_iconst (v := (2 : Int32)) M.x M.b d_law_1019 rfl ?_
  refine lv_iadd M.x M.b d_law_1020 ?_
  refine va_sld M.x M.b hX hbl hbA hS (hin 2 (by decide) (by decide)) d_law_1021 ?_
  refine lv_aload_n M.x M.b d_law_1022 rfl (lv_at hl 0 rfl) ?_
  refine lv_iload_n M.x M.b d_law_1023 rfl (lv_at hl 3 rfl) ?_
  refine lv_iconst (v := (3 : Int32)) M.x M.b d_law_1024 rfl ?_
  refine lv_iadd M.x M.b d_law_1025 ?_
  refine va_sld M.x M.b hX hbl hbA hS (hin 3 (by decide) (by decide)) d_law_1026 ?_
  refine z_callV (ci := 8) (rest := [.int r]) (st1 := [.int r, .int r]) M hH hS (c_M_dearest e2) rfl (o_M_dearest e2) w_M_dearest q_979 rfl ⟨Nat.le_of_ble_eq_true rfl, Nat.le_of_ble_eq_true rfl⟩ hl.1 rfl rfl (Nat.le_of_ble_eq_true rfl) ⟨Nat.le_of_ble_eq_true rfl, Nat.le_of_ble_eq_true rfl⟩ d_law_1027 (fun H locs hH hS => ?_)
  refine lv_icmp_eq (tgt := 1134) M.x M.b d_law_1030 (by decide) (fun _ => ?_) (fun c => absurd rfl c)
  exact hk _ H locs ls hH hS hIh hl
set_option maxRecDepth 100000 in
set_option maxHeartbeats 4000000 in
theorem lz_c20 {p : Program} {l : Launch} {e : Env} {s : State} {m : MethodId} {below : List Frame} {meth : Method} {c : Code} {S b L : Nat} {xs : Nat → Int32} {D : va_G} {cs : Nat → ClassId} {Q : State → Prop} {nm : String} (M : ZC p s m #[Value.ref b] meth c R_law nm code 4 ret S D cs) (hX : va_X b L xs s s.heap) (hbl : b < s.heap.size) (hbA : ¬ zA S b) {I : Hp → Prop} (hI : Sims I S) {h : Hp} {x3 : Int32} (hin : ∀ k : Int32, 0 ≤ k → k ≤ 8 → vp_in (x3 + k) L) (hk : ∀ (h : Hp) (H : Heap) (locs : List Loc) (ls : Array Slot), HH S D cs h H → va_S (zA S) s.heap H locs → I h → lv_has ls 4 [(0, .ref b), (1, .ref S), (2, .ref (S + 59)), (3, .int x3)] → W p l e room_1 s m #[Value.ref b] below meth c H locs 84 4976 Q (F0 m 1134 ls [])) (H : Heap) (locs : List Loc) (ls : Array Slot) (hH : HH S D cs h H) (hS : va_S (zA S) s.heap H locs) (hIh : I h) (hl : lv_has ls 4 [(0, .ref b), (1, .ref S), (2, .ref (S + 59)), (3, .int x3)]) : W p l e room_1 s m #[Value.ref b] below meth c H locs 84 4976 Q (F0 m 1035 ls []) := by
  refine lv_aload_n M.x M.b d_law_1035 rfl (lv_at hl 1 rfl) ?_
  refine lv_aload_n M.x M.b d_law_1036 rfl (lv_at hl 0 rfl) ?_
  refine lv_iload_n M.x M.b d_law_1037 rfl (lv_at hl 3 rfl) ?_
  refine lv_iconst (v := (1 : Int32)) M.x M.b d_law_1038 rfl ?_
  refine lv_iadd M.x M.b d_law_1039 ?_
  refine va_sld M.x M.b hX hbl hbA hS (hin 1 (by decide) (by decide)) d_law_1040 ?_
  refine lv_aload_n M.x M.b d_law_1041 rfl (lv_at hl 0 rfl) ?_
  refine lv_iload_n M.x M.b d_law_1042 rfl (lv_at hl 3 rfl) ?_
  refine lv_iconst (v := (2 : Int32)) M.x M.b d_law_1043 rfl ?_
  refine lv_iadd M.x M.b d_law_1044 ?_
  refine va_sld M.x M.b hX hbl hbA hS (hin 2 (by decide) (by decide)) d_law_1045 ?_
  refine lv_aload_n M.x M.b d_law_1046 rfl (lv_at hl 0 rfl) ?_
  refine lv_iload_n M.x M.b d_law_1047 rfl (lv_at hl 3 rfl) ?_
  refine lv_iconst (v := (3 : Int32)) M.x M.b d_law_1048 rfl ?_
  refine lv_iadd M.x M.b d_law_1049 ?_
  refine va_sld M.x M.b hX hbl hbA hS (hin 3 (by decide) (by decide)) d_law_1050 ?_
  refine lv_aload_n M.x M.b d_law_1051 rfl (lv_at hl 0 rfl) ?_
  refine lv_iload_n M.x M.b d_law_1052 rfl (lv_at hl 3 rfl) ?_
  refine lv_iconst (v := (4 : Int32)) M.x M.b d_law_1053 rfl ?_
  refine lv_iadd M.x M.b d_law_1054 ?_
  refine va_sld M.x M.b hX hbl hbA hS (hin 4 (by decide) (by decide)) d_law_1055 ?_
  refine lv_aload_n M.x M.b d_law_1056 rfl (lv_at hl 0 rfl) ?_
  refine lv_iload_n M.x M.b d_law_1057 rfl (lv_at hl 3 rfl) ?_
  refine lv_iconst (v := (5 : Int32)) M.x M.b d_law_1058 rfl ?_
  refine lv_iadd M.x M.b d_law_1059 ?_
  refine va_sld M.x M.b hX hbl hbA hS (hin 5 (by decide) (by decide)) d_law_1060 ?_
  refine lv_aload_n M.x M.b d_law_1061 rfl (lv_at hl 0 rfl) ?_
  refine lv_iload_n M.x M.b d_law_1062 rfl (lv_at hl 3 rfl) ?_
  refine lv_bipush (v := (6 : Int32)) M.x M.b d_law_1063 rfl ?_
  refine lv_iadd M.x M.b d_law_1065 ?_
  refine va_sld M.x M.b hX hbl hbA hS (hin 6 (by decide) (by decide)) d_law_1066 ?_
  refine lv_aload_n M.x M.b d_law_1067 rfl (lv_at hl 0 rfl) ?_
  refine lv_iload_n M.x M.b d_law_1068 rfl (lv_at hl 3 rfl) ?_
  refine lv_bipush (v := (7 : Int32)) M.x M.b d_law_1069 rfl ?_
  refine lv_iadd M.x M.b d_law_1071 ?_
  refine va_sld M.x M.b hX hbl hbA hS (hin 7 (by decide) (by decide)) d_law_1072 ?_
  refine lv_aload_n M.x M.b d_law_1073 rfl (lv_at hl 0 rfl) ?_
  refine lv_iload_n M.x M.b d_law_1074 rfl (lv_at hl 3 rfl) ?_
  refine lv_bipush (v := (8 : Int32)) M.x M.b d_law_1075 rfl ?_
  refine lv_iadd M.x M.b d_law_1077 ?_
  refine va_sld M.x M.b hX hbl hbA hS (hin 8 (by decide) (by decide)) d_law_1078 ?_
  obtain ⟨r, h1, h2, e1, e2, hIh⟩ := hI.2.2.2.2.2.2.2.2.2.2.2.2.2.2.2.2.2.2.2.2 h ((xs (x3 + 1).toNatClampNeg)) ((xs (x3 + 2).toNatClampNeg)) ((xs (x3 + 3).toNatClampNeg)) ((xs (x3 + 4).toNatClampNeg)) ((xs (x3 + 5).toNatClampNeg)) ((xs (x3 + 6).toNatClampNeg)) ((xs (x3 + 7).toNatClampNeg)) ((xs (x3 + 8).toNatClampNeg)) hIh
  refine z_callV (ci := 7) (rest := []) (st1 := [.int r]) M hH hS (c_Y_turn e1) rfl (o_Y_turn e1) w_Y_turn q_980 rfl ⟨Nat.le_of_ble_eq_true rfl, Nat.le_of_ble_eq_true rfl⟩ hl.1 rfl rfl (Nat.le_of_ble_eq_true rfl) ⟨Nat.le_of_ble_eq_true rfl, Nat.le_of_ble_eq_true rfl⟩ d_law_1079 (fun H locs hH hS => ?_)
  refine lv_aload_n M.x M.b d_law_1082 rfl (lv_at hl 2 rfl) ?_
  refine lv_aload_n M.x M.b d_law_1083 rfl (lv_at hl 0 rfl) ?_
  refine lv_iload_n M.x M.b d_law_1084 rfl (lv_at hl 3 rfl) ?_
  refine lv_iconst (v := (1 : Int32)) M.x M.b d_law_1085 rfl ?_
  refine lv_iadd M.x M.b d_law_1086 ?_
  refine va_sld M.x M.b hX hbl hbA hS (hin 1 (by decide) (by decide)) d_law_1087 ?_
  refine lv_aload_n M.x M.b d_law_1088 rfl (lv_at hl 0 rfl) ?_
  refine lv_iload_n M.x M.b d_law_1089 rfl (lv_at hl 3 rfl) ?_
  refine lv_iconst (v := (2 : Int32)) M.x M.b d_law_1090 rfl ?_
  refine lv_iadd M.x M.b d_law_1091 ?_
  refine va_sld M.x M.b hX hbl hbA hS (hin 2 (by decide) (by decide)) d_law_1092 ?_
  refine lv_aload_n M.x M.b d_law_1093 rfl (lv_at hl 0 rfl) ?_
  refine lv_iload_n M.x M.b d_law_1094 rfl (lv_at hl 3 rfl) ?_
  refine lv_iconst (v := (3 : Int32)) M.x M.b d_law_1095 rfl ?_
  refine lv_iadd M.x M.b d_law_1096 ?_
  refine va_sld M.x M.b hX hbl hbA hS (hin 3 (by decide) (by decide)) d_law_1097 ?_
  refine lv_aload_n M.x M.b d_law_1098 rfl (lv_at hl 0 rfl) ?_
  refine lv_iload_n M.x M.b d_law_1099 rfl (lv_at hl 3 rfl) ?_
  refine lv_iconst (v := (4 : Int32)) M.x M.b d_law_1100 rfl ?_
  refine lv_iadd M.x M.b d_law_1101 ?_
  refine va_sld M.x M.b hX hbl hbA hS (hin 4 (by decide) (by decide)) d_law_1102 ?_
  refine lv_aload_n M.x M.b d_law_1103 rfl (lv_at hl 0 rfl) ?_
  refine lv_iload_n M.x M.b d_law_1104 rfl (lv_at hl 3 rfl) ?_
  refine lv_iconst (v := (5 : Int32)) M.x M.b d_law_1105 rfl ?_
  refine lv_iadd M.x M.b d_law_1106 ?_
  refine va_sld M.x M.b hX hbl hbA hS (hin 5 (by decide) (by decide)) d_law_1107 ?_
  refine lv_aload_n M.x M.b d_law_1108 rfl (lv_at hl 0 rfl) ?_
  refine lv_iload_n M.x M.b d_law_1109 rfl (lv_at hl 3 rfl) ?_
  refine lv_bipush (v := (6 : Int32)) M.x M.b d_law_1110 rfl ?_
  refine lv_iadd M.x M.b d_law_1112 ?_
  refine va_sld M.x M.b hX hbl hbA hS (hin 6 (by decide) (by decide)) d_law_1113 ?_
  refine lv_aload_n M.x M.b d_law_1114 rfl (lv_at hl 0 rfl) ?_
  refine lv_iload_n M.x M.b d_law_1115 rfl (lv_at hl 3 rfl) ?_
  refine lv_bipush (v := (7 : Int32)) M.x M.b d_law_1116 rfl ?_
  refine lv_iadd M.x M.b d_law_1118 ?_
  refine va_sld M.x M.b hX hbl hbA hS (hin 7 (by decide) (by decide)) d_law_1119 ?_
  refine lv_aload_n M.x M.b d_law_1120 rfl (lv_at hl 0 rfl) ?_
  refine lv_iload_n M.x M.b d_law_1121 rfl (lv_at hl 3 rfl) ?_
  refine lv_bipush (v := (8 : Int32)) M.x M.b d_law_1122 rfl ?_
  refine lv_iadd M.x M.b d_law_1124 ?_
  refine va_sld M.x M.b hX hbl hbA hS (hin 8 (by decide) (by decide)) d_law_1125 ?_
  refine z_callV (ci := 8) (rest := [.int r]) (st1 := [.int r, .int r]) M hH hS (c_M_turn e2) rfl (o_M_turn e2) w_M_turn q_981 rfl ⟨Nat.le_of_ble_eq_true rfl, Nat.le_of_ble_eq_true rfl⟩ hl.1 rfl rfl (Nat.le_of_ble_eq_true rfl) ⟨Nat.le_of_ble_eq_true rfl, Nat.le_of_ble_eq_true rfl⟩ d_law_1126 (fun H locs hH hS => ?_)
  refine lv_icmp_eq (tgt := 1134) M.x M.b d_law_1129 (by decide) (fun _ => ?_) (fun c => absurd rfl c)
  exact hk _ H locs ls hH hS hIh hl
theorem lz_cmp {i L : Nat} (hL : L ≤ 4608) (hi : i ≤ L + 9) : (Int32.ofNat L - 9 < nI i) ↔ L < i + 9 := by
  have h9 : (9 : Int32) = nI 9 := rfl
  have e : (nI L - nI 9).toInt = (L : Int) - (9 : Nat) := pk_sub_toInt (by omega) (by omega)
  rw [Int32.lt_iff_toInt_lt, h9, show Int32.ofNat L = nI L from rfl, e, nI_toInt (by omega)]
  omega
theorem lz_in {i L : Nat} (hL : L ≤ 4608) (h : i + 9 ≤ L) : ∀ k : Int32, 0 ≤ k → k ≤ 8 → vp_in (nI i + k) L := by
  intro k h0 h8
  rw [vp_in_iff]
  rw [Int32.le_iff_toInt_le] at h0 h8
  have z0 : (0 : Int32).toInt = 0 := rfl
  have z8 : (8 : Int32).toInt = 8 := rfl
  rw [z0] at h0
  rw [z8] at h8
  have hb : (nI i + k).toInt = (nI i).toInt + k.toInt := by
    rw [Int32.toInt_add, nI_toInt (by omega)]
    exact Int.bmod_eq_of_le (by omega) (by omega)
  rw [hb, nI_toInt (by omega)]
  omega
set_option maxRecDepth 100000 in
set_option maxHeartbeats 4000000 in
theorem lz_loop {p : Program} {l : Launch} {e : Env} {s : State} {m : MethodId} {below : List Frame} {meth : Method} {c : Code} {S b L : Nat} {xs : Nat → Int32} {D : va_G} {cs : Nat → ClassId} {Q : State → Prop} {nm : String} (M : ZC p s m #[Value.ref b] meth c R_law nm code 4 ret S D cs) (hX : va_X b L xs s s.heap) (hbl : b < s.heap.size) (hbA : ¬ zA S b) {I : Hp → Prop} (hI : Sims I S) (hL : L ≤ 4608) (hN : S = s.heap.size) (hret : ∀ (H : Heap) (ls : Array Slot), W p l e room_1 s m #[Value.ref b] below meth c H [] 600000 7302250 Q (F0 m 1141 ls [.int 1])) : ∀ (n i : Nat) (h : Hp) (H : Heap) (locs : List Loc) (ls : Array Slot) (x3 : Int32), L < i + 9 * n → i ≤ L + 9 → x3 = nI i → HH S D cs h H → va_S (zA S) s.heap H locs → I h → lv_has ls 4 [(0, .ref b), (1, .ref S), (2, .ref (S + 59)), (3, .int x3)] → W p l e room_1 s m #[Value.ref b] below meth c H locs 84 4976 Q (F0 m 18 ls []) := by
  intro n
  induction n with
  | zero =>
    intro i h H locs ls x3 hn hi ex hH hS hIh hl
    subst ex
    refine lv_iload_n M.x M.b d_law_18 rfl (lv_at hl 3 rfl) ?_
    refine lv_aload_n M.x M.b d_law_19 rfl (lv_at hl 0 rfl) ?_
    refine va_slen M.x M.b hX hbl hbA hS d_law_20 ?_
    refine lv_bipush (v := (9 : Int32)) M.x M.b d_law_21 rfl ?_
    refine lv_isub M.x M.b d_law_23 ?_
    refine lv_icmp_gt (tgt := 1140) M.x M.b d_law_24 (by decide) (fun _ => ?_) (fun q => absurd ((lz_cmp hL hi).mpr (by omega)) q)
    refine lv_iconst (v := (1 : Int32)) M.x M.b d_law_1140 rfl ?_
    refine va_forget (fun q hq => by rw [← hN]; exact hS.2.2 q hq) ?_
    exact W.widen (Nat.le_of_ble_eq_true rfl) (Nat.le_of_ble_eq_true rfl) (hret _ _)
  | succ n ih =>
    intro i h H locs ls x3 hn hi ex hH hS hIh hl
    refine lv_iload_n M.x M.b d_law_18 rfl (lv_at hl 3 rfl) ?_
    refine lv_aload_n M.x M.b d_law_19 rfl (lv_at hl 0 rfl) ?_
    refine va_slen M.x M.b hX hbl hbA hS d_law_20 ?_
    refine lv_bipush (v := (9 : Int32)) M.x M.b d_law_21 rfl ?_
    refine lv_isub M.x M.b d_law_23 ?_
    refine lv_icmp_gt (tgt := 1140) M.x M.b d_law_24 (by decide) (fun _ => ?_) (fun q => ?_)
    · refine lv_iconst (v := (1 : Int32)) M.x M.b d_law_1140 rfl ?_
      refine va_forget (fun q hq => by rw [← hN]; exact hS.2.2 q hq) ?_
      exact W.widen (Nat.le_of_ble_eq_true rfl) (Nat.le_of_ble_eq_true rfl) (hret _ _)
    · have hlt : i + 9 ≤ L := by
        rcases Nat.lt_or_ge L (i + 9) with z | z
        · exact absurd (by rw [ex]; exact (lz_cmp hL hi).mpr z) q
        · exact z
      have hin : ∀ k : Int32, 0 ≤ k → k ≤ 8 → vp_in (x3 + k) L := by rw [ex]; exact lz_in hL hlt
      have hk : ∀ (h : Hp) (H : Heap) (locs : List Loc) (ls : Array Slot), HH S D cs h H → va_S (zA S) s.heap H locs → I h → lv_has ls 4 [(0, .ref b), (1, .ref S), (2, .ref (S + 59)), (3, .int x3)] → W p l e room_1 s m #[Value.ref b] below meth c H locs 84 4976 Q (F0 m 1134 ls []) := by
        intro h H locs ls hH hS hIh hl
        refine lv_iinc (v := x3 + 9) (lv' := [(3, .int (x3 + 9)), (0, .ref b), (1, .ref S), (2, .ref (S + 59))]) M.x M.b d_law_1134 hl (k := 3) rfl rfl (by decide) rfl (fun ls hl => ?_)
        refine lv_goto (tgt := 18) M.x M.b d_law_1137 (by decide) ?_
        exact ih (i + 9) h H locs ls (x3 + 9) (by omega) (by omega) (by rw [ex, show (9 : Int32) = nI 9 from rfl, nI_add]) hH hS hIh (lv_sub hl [1, 2, 3, 0] rfl)
      refine lv_aload_n M.x M.b d_law_27 rfl (lv_at hl 0 rfl) ?_
      refine lv_iload_n M.x M.b d_law_28 rfl (lv_at hl 3 rfl) ?_
      refine va_sld M.x M.b hX hbl hbA hS (by have z := hin 0 (by decide) (by decide); rwa [show x3 + 0 = x3 from Int32.add_zero x3] at z) d_law_29 ?_
      refine lv_bipush (v := (31 : Int32)) M.x M.b d_law_30 rfl ?_
      refine lv_iand M.x M.b d_law_32 ?_
      generalize xs x3.toNatClampNeg &&& (31 : Int32) = sw
      by_cases q0 : sw = (0 : Int32)
      · refine lv_tableIn (tgt := 132) (off := 99) M.x M.b d_law_33 (by rw [q0]; decide) (by rw [q0]; decide) (by rw [q0]; rfl) (by decide) ?_
        exact lz_c0 M hX hbl hbA hI hin hk H locs ls hH hS hIh hl
      by_cases q1 : sw = (1 : Int32)
      · refine lv_tableIn (tgt := 175) (off := 142) M.x M.b d_law_33 (by rw [q1]; decide) (by rw [q1]; decide) (by rw [q1]; rfl) (by decide) ?_
        exact lz_c1 M hX hbl hbA hI hin hk H locs ls hH hS hIh hl
      by_cases q2 : sw = (2 : Int32)
      · refine lv_tableIn (tgt := 228) (off := 195) M.x M.b d_law_33 (by rw [q2]; decide) (by rw [q2]; decide) (by rw [q2]; rfl) (by decide) ?_
        exact lz_c2 M hX hbl hbA hI hin hk H locs ls hH hS hIh hl
      by_cases q3 : sw = (3 : Int32)
      · refine lv_tableIn (tgt := 271) (off := 238) M.x M.b d_law_33 (by rw [q3]; decide) (by rw [q3]; decide) (by rw [q3]; rfl) (by decide) ?_
        exact lz_c3 M hX hbl hbA hI hin hk H locs ls hH hS hIh hl
      by_cases q4 : sw = (4 : Int32)
      · refine lv_tableIn (tgt := 314) (off := 281) M.x M.b d_law_33 (by rw [q4]; decide) (by rw [q4]; decide) (by rw [q4]; rfl) (by decide) ?_
        exact lz_c4 M hX hbl hbA hI hin hk H locs ls hH hS hIh hl
      by_cases q5 : sw = (5 : Int32)
      · refine lv_tableIn (tgt := 337) (off := 304) M.x M.b d_law_33 (by rw [q5]; decide) (by rw [q5]; decide) (by rw [q5]; rfl) (by decide) ?_
        exact lz_c5 M hX hbl hbA hI hin hk H locs ls hH hS hIh hl
      by_cases q6 : sw = (6 : Int32)
      · refine lv_tableIn (tgt := 400) (off := 367) M.x M.b d_law_33 (by rw [q6]; decide) (by rw [q6]; decide) (by rw [q6]; rfl) (by decide) ?_
        exact lz_c6 M hX hbl hbA hI hin hk H locs ls hH hS hIh hl
      by_cases q7 : sw = (7 : Int32)
      · refine lv_tableIn (tgt := 413) (off := 380) M.x M.b d_law_33 (by rw [q7]; decide) (by rw [q7]; decide) (by rw [q7]; rfl) (by decide) ?_
        exact lz_c7 M hX hbl hbA hI hin hk H locs ls hH hS hIh hl
      by_cases q8 : sw = (8 : Int32)
      · refine lv_tableIn (tgt := 426) (off := 393) M.x M.b d_law_33 (by rw [q8]; decide) (by rw [q8]; decide) (by rw [q8]; rfl) (by decide) ?_
        exact lz_c8 M hX hbl hbA hI hin hk H locs ls hH hS hIh hl
      by_cases q9 : sw = (9 : Int32)
      · refine lv_tableIn (tgt := 490) (off := 457) M.x M.b d_law_33 (by rw [q9]; decide) (by rw [q9]; decide) (by rw [q9]; rfl) (by decide) ?_
        exact lz_c9 M hX hbl hbA hI hin hk H locs ls hH hS hIh hl
      by_cases q10 : sw = (10 : Int32)
      · refine lv_tableIn (tgt := 553) (off := 520) M.x M.b d_law_33 (by rw [q10]; decide) (by rw [q10]; decide) (by rw [q10]; rfl) (by decide) ?_
        exact lz_c10 M hX hbl hbA hI hin hk H locs ls hH hS hIh hl
      by_cases q11 : sw = (11 : Int32)
      · refine lv_tableIn (tgt := 596) (off := 563) M.x M.b d_law_33 (by rw [q11]; decide) (by rw [q11]; decide) (by rw [q11]; rfl) (by decide) ?_
        exact lz_c11 M hX hbl hbA hI hin hk H locs ls hH hS hIh hl
      by_cases q12 : sw = (12 : Int32)
      · refine lv_tableIn (tgt := 649) (off := 616) M.x M.b d_law_33 (by rw [q12]; decide) (by rw [q12]; decide) (by rw [q12]; rfl) (by decide) ?_
        exact lz_c12 M hX hbl hbA hI hin hk H locs ls hH hS hIh hl
      by_cases q13 : sw = (13 : Int32)
      · refine lv_tableIn (tgt := 672) (off := 639) M.x M.b d_law_33 (by rw [q13]; decide) (by rw [q13]; decide) (by rw [q13]; rfl) (by decide) ?_
        exact lz_c13 M hX hbl hbA hI hin hk H locs ls hH hS hIh hl
      by_cases q14 : sw = (14 : Int32)
      · refine lv_tableIn (tgt := 736) (off := 703) M.x M.b d_law_33 (by rw [q14]; decide) (by rw [q14]; decide) (by rw [q14]; rfl) (by decide) ?_
        exact lz_c14 M hX hbl hbA hI hin hk H locs ls hH hS hIh hl
      by_cases q15 : sw = (15 : Int32)
      · refine lv_tableIn (tgt := 779) (off := 746) M.x M.b d_law_33 (by rw [q15]; decide) (by rw [q15]; decide) (by rw [q15]; rfl) (by decide) ?_
        exact lz_c15 M hX hbl hbA hI hin hk H locs ls hH hS hIh hl
      by_cases q16 : sw = (16 : Int32)
      · refine lv_tableIn (tgt := 812) (off := 779) M.x M.b d_law_33 (by rw [q16]; decide) (by rw [q16]; decide) (by rw [q16]; rfl) (by decide) ?_
        exact lz_c16 M hX hbl hbA hI hin hk H locs ls hH hS hIh hl
      by_cases q17 : sw = (17 : Int32)
      · refine lv_tableIn (tgt := 865) (off := 832) M.x M.b d_law_33 (by rw [q17]; decide) (by rw [q17]; decide) (by rw [q17]; rfl) (by decide) ?_
        exact lz_c17 M hX hbl hbA hI hin hk H locs ls hH hS hIh hl
      by_cases q18 : sw = (18 : Int32)
      · refine lv_tableIn (tgt := 928) (off := 895) M.x M.b d_law_33 (by rw [q18]; decide) (by rw [q18]; decide) (by rw [q18]; rfl) (by decide) ?_
        exact lz_c18 M hX hbl hbA hI hin hk H locs ls hH hS hIh hl
      by_cases q19 : sw = (19 : Int32)
      · refine lv_tableIn (tgt := 992) (off := 959) M.x M.b d_law_33 (by rw [q19]; decide) (by rw [q19]; decide) (by rw [q19]; rfl) (by decide) ?_
        exact lz_c19 M hX hbl hbA hI hin hk H locs ls hH hS hIh hl
      by_cases q20 : sw = (20 : Int32)
      · refine lv_tableIn (tgt := 1035) (off := 1002) M.x M.b d_law_33 (by rw [q20]; decide) (by rw [q20]; decide) (by rw [q20]; rfl) (by decide) ?_
        exact lz_c20 M hX hbl hbA hI hin hk H locs ls hH hS hIh hl
      refine lv_tableOut (tgt := 1134) M.x M.b d_law_33 (by have t0 := lv_neT (a := 0) q0 (by decide); have t1 := lv_neT (a := 1) q1 (by decide); have t2 := lv_neT (a := 2) q2 (by decide); have t3 := lv_neT (a := 3) q3 (by decide); have t4 := lv_neT (a := 4) q4 (by decide); have t5 := lv_neT (a := 5) q5 (by decide); have t6 := lv_neT (a := 6) q6 (by decide); have t7 := lv_neT (a := 7) q7 (by decide); have t8 := lv_neT (a := 8) q8 (by decide); have t9 := lv_neT (a := 9) q9 (by decide); have t10 := lv_neT (a := 10) q10 (by decide); have t11 := lv_neT (a := 11) q11 (by decide); have t12 := lv_neT (a := 12) q12 (by decide); have t13 := lv_neT (a := 13) q13 (by decide); have t14 := lv_neT (a := 14) q14 (by decide); have t15 := lv_neT (a := 15) q15 (by decide); have t16 := lv_neT (a := 16) q16 (by decide); have t17 := lv_neT (a := 17) q17 (by decide); have t18 := lv_neT (a := 18) q18 (by decide); have t19 := lv_neT (a := 19) q19 (by decide); have t20 := lv_neT (a := 20) q20 (by decide); omega) (by decide) ?_
      exact hk _ H locs ls hH hS hIh hl
