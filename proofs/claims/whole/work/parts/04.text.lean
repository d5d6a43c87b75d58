/-! ===== String constants: rows ===== -/
section ZS
variable {p : Program} {l : Launch} {e : Env} {R : Room} {s : State} {m : MethodId} {args : Array Value} {below : List Frame} {meth : Method} {c : Code} {H : Heap} {locs : List Loc} {cells slots : Nat} {Q : State → Prop}
variable {cc : ByteArray} {pc nL : Nat} {ls : Array Slot} {rest st0 st1 : List Value} {own nm : String} {rt : Option FieldType} {N0 : Nat} {D : va_G} {cs : Nat → ClassId} {h : Hp}
theorem z_ldcS {i : Nat} (M : ZC p s m args meth c "YearBaskets$Reader" nm cc nL rt N0 D cs) (hi : i < 13) (hdg : decode cc pc = .ok (.ldc (zsI.getD i 0), 2)) (kk : W p l e R s m args below meth c H locs cells slots Q (F0 m (pc + 2) ls (.ref (D.2 100 i) :: rest))) : W p l e R s m args below meth c H locs cells slots Q (F0 m pc ls rest) :=
  va_ldcS M.x M.b M.o (M.st.2.1 i hi) hdg kk
theorem z_gets1 (M : ZC p s m args meth c own nm cc nL rt N0 D cs) (hS : va_S (zA N0) s.heap H locs) {index : Nat} (hw : Cond.fieldLink own index "java/lang/String" "COMPACT_STRINGS" "Z" ∈ zG) (hdg : decode cc pc = .ok (.getstatic index, 3)) (kk : W p l e R s m args below meth c H locs cells slots Q (F0 m (pc + 3) ls (.int 1 :: rest))) : W p l e R s m args below meth c H locs cells slots Q (F0 m pc ls rest) :=
  va_gets M.x M.b M.st.2.2.1 hS M.o (M.ts _ hw) (fun _ h9 => h9) hdg kk
theorem z_gets2 (M : ZC p s m args meth c own nm cc nL rt N0 D cs) (hS : va_S (zA N0) s.heap H locs) {index : Nat} (hw : Cond.fieldLink own index "jdk/internal/util/Preconditions" "SIOOBE_FORMATTER" "Ljava/util/function/BiFunction;" ∈ zG) (hdg : decode cc pc = .ok (.getstatic index, 3)) (kk : W p l e R s m args below meth c H locs cells slots Q (F0 m (pc + 3) ls (.ref (D.2 102 0) :: rest))) : W p l e R s m args below meth c H locs cells slots Q (F0 m pc ls rest) :=
  va_gets M.x M.b M.st.2.2.2 hS M.o (M.ts _ hw) (fun _ h9 => h9) hdg kk
theorem z_str_value (M : ZC p s m args meth c own nm cc nL rt N0 D cs) (hS : va_S (zA N0) s.heap H locs) {t index : Nat} (ht : t < 13) (hw : Cond.fieldLink own index "java/lang/String" "value" "[B" ∈ zG) (hdg : decode cc pc = .ok (.getfield index, 3)) (kk : W p l e R s m args below meth c H locs cells slots Q (F0 m (pc + 3) ls (.ref (D.2 101 t) :: rest))) : W p l e R s m args below meth c H locs cells slots Q (F0 m pc ls (.ref (D.2 100 t) :: rest)) :=
  vk_getf M.x M.b (M.st.1.1 t ht).2.2.1 hS M.o (M.ts _ hw) (fun _ h9 => h9) hdg kk
theorem z_str_coder (M : ZC p s m args meth c own nm cc nL rt N0 D cs) (hS : va_S (zA N0) s.heap H locs) {t index : Nat} (ht : t < 13) (hw : Cond.fieldLink own index "java/lang/String" "coder" "B" ∈ zG) (hdg : decode cc pc = .ok (.getfield index, 3)) (kk : W p l e R s m args below meth c H locs cells slots Q (F0 m (pc + 3) ls (.int 0 :: rest))) : W p l e R s m args below meth c H locs cells slots Q (F0 m pc ls (.ref (D.2 100 t) :: rest)) :=
  vk_getf M.x M.b (M.st.1.1 t ht).2.1 hS M.o (M.ts _ hw) (fun _ h9 => h9) hdg kk
theorem z_strl (M : ZC p s m args meth c own nm cc nL rt N0 D cs) (hS : va_S (zA N0) s.heap H locs) {t : Nat} (ht : t < 13) (hdg : decode cc pc = .ok (.arraylength, 1)) (kk : W p l e R s m args below meth c H locs cells slots Q (F0 m (pc + 1) ls (.int (Int32.ofNat (zsL.getD t 0)) :: rest))) : W p l e R s m args below meth c H locs cells slots Q (F0 m pc ls (.ref (D.2 101 t) :: rest)) :=
  va_tlen M.x M.b (M.st.1.1 t ht).2.2.2 hS rfl hdg kk
theorem z_strb (M : ZC p s m args meth c own nm cc nL rt N0 D cs) (hS : va_S (zA N0) s.heap H locs) {t : Nat} {i : Int32} (ht : t < 13 ∧ ¬ (i < 0 ∨ zsL.getD t 0 ≤ i.toNatClampNeg)) (hdg : decode cc pc = .ok (.baload, 1)) (kk : W p l e R s m args below meth c H locs cells slots Q (F0 m (pc + 1) ls (.int ((zsB.getD t []).getD i.toNatClampNeg 0) :: rest))) : W p l e R s m args below meth c H locs cells slots Q (F0 m pc ls (.int i :: .ref (D.2 101 t) :: rest)) :=
  va_tb M.x M.b (M.st.1.1 t ht.1).2.2.2 hS ht.2 rfl hdg kk
theorem z_nC {v : Int32} (h : vp_nar .char v = v) : narrow .char (.int v) = .int v := by
  have h1 : narrow .char (.int v) = .int (vp_nar .char v) := rfl
  rw [h1, h]
theorem z_nB {v : Int32} (h : vp_nar .byte v = v) : narrow .byte (.int v) = .int v := by
  have h1 : narrow .byte (.int v) = .int (vp_nar .byte v) := rfl
  rw [h1, h]
theorem z_nret {ty : FieldType} (M : ZC p s m args meth c own nm cc nL (some ty) N0 D cs) {v : Int32} (hn : narrow ty (.int v) = .int v) (hH : HH N0 D cs h H) (hS : va_S (zA N0) s.heap H locs) (hdg : decode cc pc = .ok (.ireturn, 1)) : W p l e R s m args below meth c H locs cells slots (MQ below (zQ N0 D cs (some (.int v)) h) args s cells slots (zA N0)) (F0 m pc ls [.int v]) := W.zret M.x M.b M.r hn (z_fin hH M hS) hS.2.2 hdg M.nl
variable {y : MethodName} {bt : ByteArray} {mL n k index : Nat} {rty : Option FieldType} {r : Option Value} {h' : Hp} {As : List Value}
/-- a String constant's method is called -/
theorem zk_VS (M : ZC p s m args meth c own nm cc nL rt N0 D cs) (hH : HH N0 D cs h H) (hS : va_S (zA N0) s.heap H locs) {t : Nat} (ht : t < 13) (F : Fn l N0 D cs y bt mL rty n 0 0 (.ref (D.2 100 t) :: As) h r h') (w : Cond.code y bt mL rty ∈ zG ∧ (Cond.instanceMethod y ∈ zG ∧ Cond.selects y.cls y y ∈ zG) ∧ Cond.initialized y.cls ∈ zG ∧ zY y k) (w1 : Cond.methodLink own index y ∈ zG) (rest : List Value) (hk : As.length = k) (hR : zR R n mL) (hl : ls.size = nL) (hst : st0 = As.reverse ++ .ref (D.2 100 t) :: rest) (hr1 : r.toList ++ rest = st1) (hrest : (rest.map fun v => v.category).sum ≤ 8) (hdg : decode cc pc = .ok (.invokevirtual index, 3))
    (kk : ∀ (H1 : Heap) (locs1 : List Loc), HH N0 D cs h' H1 → va_S (zA N0) s.heap H1 locs1 → W p l e R s m args below meth c H1 locs1 0 0 Q (F0 m (pc + 3) ls st1)) (hy : y.cls = "java/lang/String" := by rfl) : W p l e R s m args below meth c H locs 0 0 Q (F0 m pc ls st0) :=
  z_after (va_runV (C := y.cls) (As := As) (rest := rest) (b := D.2 100 t) (z_fix M) F ⟨callB_of k M.ts (z_goodIn w.1) rfl rfl rfl (M.ts _ w.2.2.1) (M.ts _ w1) w.2.2.2 hR, M.ts _ w.2.1.1, M.ts _ w.2.1.2⟩ ⟨zP_blind, by rw [hy]; exact vk_recv M.st.1 ht hS, (z_preS M hH hS).2⟩ rfl hk hl hst (lv_room hrest) hdg ⟨Nat.zero_le _, Nat.zero_le _⟩) M.n hS hr1 kk
end ZS
