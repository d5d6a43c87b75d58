theorem q_982 : (Jvm.Cond.classLink "YearBasketsLaw" (7 : Nat) "YearBaskets") ∈ zG := zt_1 (List.mem_of_getElem? (i := 17) rfl) rfl
theorem q_983 : (Jvm.Cond.instantiable "YearBaskets" (11 : Nat)) ∈ zG := zt_1 (List.mem_of_getElem? (i := 18) rfl) rfl
theorem q_984 : (Jvm.Cond.methodLink "YearBasketsLaw" (9 : Nat) ({ cls := "YearBaskets", name := "<init>", desc := "()V" } : Jvm.MethodName)) ∈ zG := zt_1 (List.mem_of_getElem? (i := 19) rfl) rfl
theorem q_985 : (Jvm.Cond.classLink "YearBasketsLaw" (10 : Nat) "YearBasketsModel") ∈ zG := zt_4 (List.mem_of_getElem? (i := 43) rfl) rfl
theorem q_986 : (Jvm.Cond.instantiable "YearBasketsModel" (40 : Nat)) ∈ zG := zt_4 (List.mem_of_getElem? (i := 44) rfl) rfl
theorem q_987 : (Jvm.Cond.methodLink "YearBasketsLaw" (12 : Nat) ({ cls := "YearBasketsModel", name := "<init>", desc := "()V" } : Jvm.MethodName)) ∈ zG := zt_4 (List.mem_of_getElem? (i := 45) rfl) rfl
/-! ===== the start: what the Statement gives of the machine, as the walks want it ===== -/
theorem lz_ex : ∀ i, i < 13 → Cond.exactly (Term.string "YearBaskets$Reader" (zsI.getD i 0)) "java/lang/String" ∈ flatC (Jvm.Cond.and given_1 narrow_1) := by decide +kernel
theorem lz_co : ∀ i, i < 13 → Cond.eq (.field (Term.string "YearBaskets$Reader" (zsI.getD i 0)) "java/lang/String" "coder" "B") (.int 0) ∈ flatC (Jvm.Cond.and given_1 narrow_1) := by decide +kernel
theorem lz_ar : ∀ i, i < 13 → Cond.arrayOf (.field (Term.string "YearBaskets$Reader" (zsI.getD i 0)) "java/lang/String" "value" "[B") .byte ∈ flatC (Jvm.Cond.and given_1 narrow_1) := by decide +kernel
theorem lz_le : ∀ i, i < 13 → Cond.eq (.length (.field (Term.string "YearBaskets$Reader" (zsI.getD i 0)) "java/lang/String" "value" "[B")) (.int (Int32.ofNat (zsL.getD i 0))) ∈ flatC (Jvm.Cond.and given_1 narrow_1) := by decide +kernel
theorem lz_el : ∀ i, i < 13 → ∀ j, j < zsL.getD i 0 → Cond.eq (.elem (.field (Term.string "YearBaskets$Reader" (zsI.getD i 0)) "java/lang/String" "value" "[B") (.int (Int32.ofNat j))) (.int ((zsB.getD i []).getD j 0)) ∈ flatC (Jvm.Cond.and given_1 narrow_1) := by decide +kernel
theorem lz_ne1 : ∀ j, j < 13 → ∀ i, i < j → (flatC (Jvm.Cond.and given_1 narrow_1))[[0, 41, 49, 57, 69, 81, 94, 108, 124, 140, 157, 175, 194].getD j 0 + i]? = some (Cond.not (Cond.eq (Term.string "YearBaskets$Reader" (zsI.getD i 0)) (Term.string "YearBaskets$Reader" (zsI.getD j 0)))) := by decide +kernel
theorem lz_ne : ∀ i, i < 13 → ∀ j, j < 13 → i ≠ j → (Cond.not (Cond.eq (Term.string "YearBaskets$Reader" (zsI.getD i 0)) (Term.string "YearBaskets$Reader" (zsI.getD j 0))) ∈ flatC (Jvm.Cond.and given_1 narrow_1) ∨ Cond.not (Cond.eq (Term.string "YearBaskets$Reader" (zsI.getD j 0)) (Term.string "YearBaskets$Reader" (zsI.getD i 0))) ∈ flatC (Jvm.Cond.and given_1 narrow_1)) := by
  intro i hi j hj h
  rcases Nat.lt_or_gt_of_ne h with q | q
  · exact Or.inl (List.mem_of_getElem? (lz_ne1 j hj i q))
  · exact Or.inr (List.mem_of_getElem? (lz_ne1 i hi j q))
theorem lz_sr : ∀ i, i < 13 → Cond.stringRef "YearBaskets$Reader" (zsI.getD i 0) (zsX.getD i "") ∈ tables_1 := by decide +kernel
theorem lz_cs : Cond.eq (.static "java/lang/String" "COMPACT_STRINGS" "Z") (.int 1) ∈ flatC (Jvm.Cond.and given_1 narrow_1) := by decide +kernel
theorem lz_fm : Cond.isRef (.static "jdk/internal/util/Preconditions" "SIOOBE_FORMATTER" "Ljava/util/function/BiFunction;") ∈ flatC (Jvm.Cond.and given_1 narrow_1) := by decide +kernel
theorem lz_w1 : Cond.laysStatic "java/lang/String" "COMPACT_STRINGS" "Z" ∈ tables_1 := by decide +kernel
theorem lz_w2 : Cond.laysStatic "jdk/internal/util/Preconditions" "SIOOBE_FORMATTER" "Ljava/util/function/BiFunction;" ∈ tables_1 := by decide +kernel
theorem lz_w3 : Cond.initialized "java/lang/String" ∈ tables_1 := by decide +kernel
theorem lz_w4 : Cond.initialized "jdk/internal/util/Preconditions" ∈ tables_1 := by decide +kernel
theorem lz_in0 : ∀ k : Fin 9, Cond.instantiable (zcl[k]).1 (zcl[k]).2.2 ∈ tables_1 := by decide +kernel
theorem lz_a0 : Cond.arrayClass .int ∈ tables_1 := by decide +kernel
theorem lz_a1 : Cond.arrayClass .long ∈ tables_1 := by decide +kernel
theorem lz_a2 : Cond.arrayClass .boolean ∈ tables_1 := by decide +kernel
theorem lz_a3 : Cond.arrayOver (.object "YearBaskets$Fraction") ∈ tables_1 := by decide +kernel
theorem lz_a4 : Cond.arrayOver (.object "YearBaskets$Plan") ∈ tables_1 := by decide +kernel
theorem lz_world {s : State} {b : Nat} (hts : ∀ w ∈ lw_tbl, w.before #[Value.ref b] s = true) (hgv : (Jvm.Cond.and given_1 narrow_1).before #[Value.ref b] s = true) : ∃ (D : va_G) (cs : Nat → ClassId), va_K D zcl (z_tys cs) s ∧ zNW s ∧ zST s.heap.size D s ∧ zAO s := by
  have ht : ∀ w ∈ tables_1, w.before #[Value.ref b] s = true := fun w hw => hts w (List.mem_append_right _ hw)
  have hs := flat_of_before _ hgv
  have hin : ∀ {C : String} {T : u_T} {N : Nat}, (∀ w ∈ u_ws C T N, w ∈ zG) → ∀ w ∈ u_ws C T N, w ∈ lw_tbl := fun h w hw => zG_lw (h w hw)
  obtain ⟨c0, i0, k0⟩ := u_known (C := zRB) (T := zTB) (N := 2) (n := 2) hts (hin zinB) (ht _ (lz_in0 0))
  obtain ⟨c1, i1, k1⟩ := u_known (C := zRF) (T := zTF) (N := 4) (n := 4) hts (hin zinF) (ht _ (lz_in0 1))
  obtain ⟨c2, i2, k2⟩ := u_known (C := zRL) (T := zTL) (N := 13) (n := 13) hts (hin zinL) (ht _ (lz_in0 2))
  obtain ⟨c3, i3, k3⟩ := u_known (C := zRK) (T := zTK) (N := 4) (n := 4) hts (hin zinK) (ht _ (lz_in0 3))
  obtain ⟨c4, i4, k4⟩ := u_known (C := zRP) (T := zTP) (N := 3) (n := 3) hts (hin zinP) (ht _ (lz_in0 4))
  obtain ⟨c5, i5, k5⟩ := u_known (C := zRR) (T := zTR) (N := 6) (n := 6) hts (hin zinR) (ht _ (lz_in0 5))
  obtain ⟨c6, i6, k6⟩ := u_known (C := zRT) (T := zTT) (N := 4) (n := 4) hts (hin zinT) (ht _ (lz_in0 6))
  obtain ⟨c7, i7, k7⟩ := u_known (C := zRY) (T := zTY) (N := 11) (n := 11) hts (hin zinY) (ht _ (lz_in0 7))
  obtain ⟨c8, i8, k8⟩ := u_known (C := zRM) (T := zTM) (N := 40) (n := 40) hts (hin zinM) (ht _ (lz_in0 8))
  obtain ⟨a0, ka0, co0, f0, g0, e0⟩ := Cond.arrayClass_spec (args := #[Value.ref b]) (first := s) (o := none) (s := s) (idx := []) (ht _ lz_a0)
  obtain ⟨a1, ka1, co1, f1, g1, e1⟩ := Cond.arrayClass_spec (args := #[Value.ref b]) (first := s) (o := none) (s := s) (idx := []) (ht _ lz_a1)
  obtain ⟨a2, ka2, co2, f2, g2, e2⟩ := Cond.arrayClass_spec (args := #[Value.ref b]) (first := s) (o := none) (s := s) (idx := []) (ht _ lz_a2)
  obtain ⟨co3, a3, ka3, y3, -, g3, e3, f3⟩ := Cond.arrayOver_spec (args := #[Value.ref b]) (first := s) (o := none) (s := s) (idx := []) (ht _ lz_a3)
  obtain ⟨co4, a4, ka4, y4, -, g4, e4, f4⟩ := Cond.arrayOver_spec (args := #[Value.ref b]) (first := s) (o := none) (s := s) (idx := []) (ht _ lz_a4)
  have hA : ∀ a : Nat, a < s.heap.size → ¬ zA s.heap.size a := fun a h q => Nat.not_le.mpr h q
  obtain ⟨adK, adV, hvs, hev⟩ := vk_Sof (args := #[Value.ref b]) (s := s) (N := 13) (tm := fun i => Term.string "YearBaskets$Reader" (zsI.getD i 0)) (len := zsL) (byt := zsB) (A := zA s.heap.size) (by decide +kernel) (fun i hi => hs _ (lz_ex i hi)) (fun i hi => hs _ (lz_co i hi)) (fun i hi => hs _ (lz_ar i hi)) (fun i hi => hs _ (lz_le i hi)) (fun i hi j hj => hs _ (lz_el i hi j hj)) (fun i j hi hj h => (lz_ne i hi j hj h).elim (fun q => Or.inl (hs _ q)) (fun q => Or.inr (hs _ q))) hA
  have hcmp := va_Zof (A := zA s.heap.size) (ht _ lz_w1) (ht _ lz_w3) (va_eqi (hs _ lz_cs)) hA
  obtain ⟨fo, hfo⟩ : ∃ fo : Option Nat, va_Z "jdk/internal/util/Preconditions" "SIOOBE_FORMATTER" "Ljava/util/function/BiFunction;" (va_rf fo) (zA s.heap.size) s s.heap := by
    rcases va_Zqof (A := zA s.heap.size) (ht _ lz_w2) (ht _ lz_w4) (hs _ lz_fm) hA with h | ⟨t, h⟩
    · exact ⟨none, h⟩
    · exact ⟨some t, h⟩
  refine ⟨(fun k => if k = 0 then c0 else if k = 1 then c1 else if k = 2 then c2 else if k = 3 then c3 else if k = 4 then c4 else if k = 5 then c5 else if k = 6 then c6 else if k = 7 then c7 else c8,
    fun k => if k = 0 then i0 else if k = 1 then i1 else if k = 2 then i2 else if k = 3 then i3 else if k = 4 then i4 else if k = 5 then i5 else if k = 6 then i6 else if k = 7 then i7 else if k = 8 then i8 else if k = 100 then adK else if k = 101 then adV else fun _ => (match fo with | none => 0 | some t => t + 1)),
    fun k => if k = 0 then a0 else if k = 1 then a1 else if k = 2 then a2 else if k = 3 then a3 else a4, ⟨?_, ?_⟩, ?_, ⟨?_, ?_, ?_, ?_⟩, ?_⟩
  · intro k q hq
    match k, hq with
    | 0, hq => cases hq; exact k0
    | 1, hq => cases hq; exact k1
    | 2, hq => cases hq; exact k2
    | 3, hq => cases hq; exact k3
    | 4, hq => cases hq; exact k4
    | 5, hq => cases hq; exact k5
    | 6, hq => cases hq; exact k6
    | 7, hq => cases hq; exact k7
    | 8, hq => cases hq; exact k8
    | k + 9, hq => simp [zcl] at hq
  · intro k q hq
    match k, hq with
    | 0, hq => cases hq; exact ⟨fun n z => ⟨fun k h => (by cases h), ka0, g0, co0, e0⟩, f0⟩
    | 1, hq => cases hq; exact ⟨fun n z => ⟨fun k h => (by cases h), ka1, g1, co1, e1⟩, f1⟩
    | 2, hq => cases hq; exact ⟨fun n z => ⟨fun k h => (by cases h), ka2, g2, co2, e2⟩, f2⟩
    | 3, hq => cases hq; exact ⟨fun n z => ⟨fun k h => (by cases h), ka3, g3, co3, e3⟩, ka3, co3, g3, e3, y3, f3⟩
    | 4, hq => cases hq; exact ⟨fun n z => ⟨fun k h => (by cases h), ka4, g4, co4, e4⟩, ka4, co4, g4, e4, y4, f4⟩
    | k + 5, hq => simp [z_tys] at hq
  · intro w hw
    exact va_tabs (zNw_tab hw) rfl (ht w (zNw_t w hw))
  · exact hvs
  · intro i hi
    exact vk_R.of (ht _ (lz_sr i hi)) (hev i hi)
  · exact hcmp
  · have hz : ∀ D : va_G, D.2 102 0 = (match fo with | none => 0 | some t => t + 1) → zfo D = fo := by
      intro D hD
      unfold zfo
      rw [hD]
      cases fo with
      | none => rfl
      | some t => simp
    rw [hz _ rfl]
    exact hfo
  · exact ⟨va_AO.of (ht _ lz_a4), va_AO.of (ht _ lz_a3)⟩
def zY0 : zE := .inr (7, [.null, .null, .null, .null, .null, .null, .null, .null, .null, .int 0, .int 0])
def zM0 : zE := .inr (8, [.null, .null, .int 0, .null, .null, .null, .int 0, .int 0, .int 0, .int 0, .null, .null, .int 0, .int 0, .long 0, .long 0, .int 0, .int 0, .null, .null, .null, .null, .null, .null, .null, .null, .int 0, .int 0, .null, .null, .null, .null, .null, .int 0, .int 0, .int 0, .null, .null, .null, .null])
set_option maxRecDepth 100000 in
set_option maxHeartbeats 8000000 in
/-- the law from its entry, over what the pure functions owe -/
theorem lz_start {p : Program} {e : Env} {s : State} {m : MethodId} {below : List Frame} {meth : Method} {c : Code} (l : Launch) {b L : Nat} {xs : Nat → Int32} (hL : L ≤ 4608) (C0 : lw_At p s m meth c b L xs) (I : Nat → Hp → Prop) (hI : ∀ S, Sims (I S) S) (hini : ∀ S : Nat, ∃ h1 h2, f_Y_init S (hup (fun _ => none) S zY0) (S + 1) = some h1 ∧ f_M_init (S + 59) (hup h1 (S + 59) zM0) (S + 60) = some h2 ∧ I S h2) : W p l e room_1 s m #[Value.ref b] below meth c s.heap [] 0 0 (lw_Z below #[Value.ref b] s) (entryFrame m ([Value.ref b] : List Value).toArray 4) := by
  obtain ⟨hx, hb, hr, hml, hown, hts, hX, hbl, hlocks, hgv⟩ := id C0
  obtain ⟨D, cs, hK, hNW, hST, hAO⟩ := lz_world hts hgv
  have M : ZC p s m #[Value.ref b] meth c R_law meth.name code 4 ret s.heap.size D cs := ⟨hx, hb, hml, hown, fun w hw => hts w (zG_lw hw), hK, hr, hlocks, Nat.le_refl _, rfl, hNW, hST⟩
  have hbA : ¬ zA s.heap.size b := Nat.not_le.mpr hbl
  have hH : HH s.heap.size D cs (fun _ => none) s.heap := ⟨Nat.le_refl _, fun _ _ h => by cases h⟩
  have hS : va_S (zA s.heap.size) s.heap s.heap [] := va_S.rf
  obtain ⟨S, hSe⟩ : ∃ S, S = s.heap.size := ⟨_, rfl⟩
  rw [← hSe] at M hbA hH hS
  obtain ⟨h1, h2, e1, e2, hI2⟩ := hini S
  have hret : ∀ (H : Heap) (ls : Array Slot), W p l e room_1 s m #[Value.ref b] below meth c H [] 600000 7302250 (lw_Z below #[Value.ref b] s) (F0 m 1141 ls [.int 1]) := fun H ls => lw_ret hx hb hr hlocks d_law_1141
  have hz : s.heap.size = S := hSe.symm
  have hl := lv_entry ([.ref b]) (n := 4) (Nat.le_of_ble_eq_true rfl)
  rw [lg_entry_eq]
  generalize (lg_sl ([.ref b]) ++ List.replicate (4 - (lg_sl ([.ref b])).length) Slot.unset).toArray = ls at hl ⊢
  have hl : lv_has ls 4 [(0, .ref b)] := hl
  refine zi_new (ci := 7) (fs := [.null, .null, .null, .null, .null, .null, .null, .null, .null, .int 0, .int 0]) M hH hS hz rfl zinY zYY zYY_ok q_982 q_983 q_151 (fun j hj => by rcases (show j = 0 ∨ j = 1 ∨ j = 2 ∨ j = 3 ∨ j = 4 ∨ j = 5 ∨ j = 6 ∨ j = 7 ∨ j = 8 ∨ j = 9 ∨ j = 10 by omega) with rfl | rfl | rfl | rfl | rfl | rfl | rfl | rfl | rfl | rfl | rfl <;> rfl) (Nat.le_of_ble_eq_true rfl) (Nat.le_of_ble_eq_true rfl) d_law_0 (fun H hz hH hS => ?_)
  refine lv_dup M.x M.b d_law_3 rfl ?_
  refine zi_call M hAO hH hS hz (c_Y_init e1) w_Y_init q_984 [.ref S] rfl rfl ⟨Nat.le_of_ble_eq_true rfl, Nat.le_of_ble_eq_true rfl⟩ hl.1 rfl (Nat.le_of_ble_eq_true rfl) ⟨Nat.le_of_ble_eq_true rfl, Nat.le_of_ble_eq_true rfl⟩ d_law_4 (fun H locs hz hH hS => ?_)
  refine lv_astore_n (lv' := [(1, .ref S), (0, .ref b)]) M.x M.b d_law_7 rfl hl (by decide) rfl (fun ls hl => ?_)
  refine zi_new (n := S + 59) (ci := 8) (fs := [.null, .null, .int 0, .null, .null, .null, .int 0, .int 0, .int 0, .int 0, .null, .null, .int 0, .int 0, .long 0, .long 0, .int 0, .int 0, .null, .null, .null, .null, .null, .null, .null, .null, .int 0, .int 0, .null, .null, .null, .null, .null, .int 0, .int 0, .int 0, .null, .null, .null, .null]) M hH hS hz rfl zinM zYM zYM_ok q_985 q_986 q_547 (fun j hj => by rcases (show j = 0 ∨ j = 1 ∨ j = 2 ∨ j = 3 ∨ j = 4 ∨ j = 5 ∨ j = 6 ∨ j = 7 ∨ j = 8 ∨ j = 9 ∨ j = 10 ∨ j = 11 ∨ j = 12 ∨ j = 13 ∨ j = 14 ∨ j = 15 ∨ j = 16 ∨ j = 17 ∨ j = 18 ∨ j = 19 ∨ j = 20 ∨ j = 21 ∨ j = 22 ∨ j = 23 ∨ j = 24 ∨ j = 25 ∨ j = 26 ∨ j = 27 ∨ j = 28 ∨ j = 29 ∨ j = 30 ∨ j = 31 ∨ j = 32 ∨ j = 33 ∨ j = 34 ∨ j = 35 ∨ j = 36 ∨ j = 37 ∨ j = 38 ∨ j = 39 by omega) with rfl | rfl | rfl | rfl | rfl | rfl | rfl | rfl | rfl | rfl | rfl | rfl | rfl | rfl | rfl | rfl | rfl | rfl | rfl | rfl | rfl | rfl | rfl | rfl | rfl | rfl | rfl | rfl | rfl | rfl | rfl | rfl | rfl | rfl | rfl | rfl | rfl | rfl | rfl | rfl <;> rfl) (Nat.le_of_ble_eq_true rfl) (Nat.le_of_ble_eq_true rfl) d_law_8 (fun H hz hH hS => ?_)
  refine lv_dup M.x M.b d_law_11 rfl ?_
  refine zi_call (n := S + 60) M hAO hH hS hz (c_M_init e2) w_M_init q_987 [.ref (S + 59)] rfl rfl ⟨Nat.le_of_ble_eq_true rfl, Nat.le_of_ble_eq_true rfl⟩ hl.1 rfl (Nat.le_of_ble_eq_true rfl) ⟨Nat.le_of_ble_eq_true rfl, Nat.le_of_ble_eq_true rfl⟩ d_law_12 (fun H locs hz hH hS => ?_)
  refine lv_astore_n (lv' := [(2, .ref (S + 59)), (1, .ref S), (0, .ref b)]) M.x M.b d_law_15 rfl hl (by decide) rfl (fun ls hl => ?_)
  refine lv_iconst (v := (0 : Int32)) M.x M.b d_law_16 rfl ?_
  refine lv_istore_n (lv' := [(3, .int 0), (2, .ref (S + 59)), (1, .ref S), (0, .ref b)]) M.x M.b d_law_17 rfl hl (by decide) rfl (fun ls hl => ?_)
  exact lz_loop M hX hbl hbA (hI S) hL hSe hret (L + 1) 0 h2 H locs ls 0 (by omega) (by omega) nI_0.symm hH hS hI2 (lv_sub hl [3, 2, 1, 0] rfl)
