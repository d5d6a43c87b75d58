/-! ===== the heap as a map from addresses to cells; pure readings and writings of it ===== -/
abbrev zE : Type := (Nat × vp_A) ⊕ (Nat × List Value)
abbrev Hp : Type := Nat → Option zE
def z_ec (cs : Nat → ClassId) : zE → va_E
  | .inl q => .inl (cs q.1, q.2)
  | .inr o => .inr o
/-- the classes of arrays: 0 int, 1 long, 2 boolean, 3 Fraction, 4 Plan -/
def z_tys (cs : Nat → ClassId) : List (ClassId × FieldType) := [(cs 0, .int), (cs 1, .long), (cs 2, .boolean), (cs 3, .object "YearBaskets$Fraction"), (cs 4, .object "YearBaskets$Plan")]
def hup (h : Hp) (a : Nat) (e : zE) : Hp := fun q => if q = a then some e else h q
def gV (h : Hp) (a ci k : Nat) : Option Value := match h a with
  | some (.inr o) => if o.1 = ci then o.2[k]? else none
  | _ => none
def gI (h : Hp) (a ci k : Nat) : Option Int32 := match gV h a ci k with
  | some (.int v) => some v
  | _ => none
def gL (h : Hp) (a ci k : Nat) : Option Int64 := match gV h a ci k with
  | some (.long v) => some v
  | _ => none
def gA (h : Hp) (a ci k : Nat) : Option (Option Nat) := match gV h a ci k with
  | some .null => some none
  | some (.ref b) => some (some b)
  | _ => none
def pV (h : Hp) (a ci k : Nat) (v : Value) : Option Hp := match h a with
  | some (.inr o) => if o.1 = ci ∧ k < o.2.length then some (hup h a (.inr (ci, o.2.set k v))) else none
  | _ => none
/-- a boolean -/
def zB (v : Int32) : Option Int32 := if v = 0 ∨ v = 1 then some v else none
def isO (h : Hp) (b ci : Nat) : Bool := match h b with
  | some (.inr o) => o.1 == ci
  | _ => false
def aI (h : Hp) (t a : Nat) (i : Int32) : Option Int32 := match h a with
  | some (.inl (t', n, .inl f)) => if t' = t ∧ ¬ (i < 0 ∨ n ≤ i.toNatClampNeg) then some (f i.toNatClampNeg) else none
  | _ => none
def aL (h : Hp) (a : Nat) (i : Int32) : Option Int64 := match h a with
  | some (.inl (t', n, .inr (.inl f))) => if t' = 1 ∧ ¬ (i < 0 ∨ n ≤ i.toNatClampNeg) then some (f i.toNatClampNeg) else none
  | _ => none
def aA (h : Hp) (t a : Nat) (i : Int32) : Option (Option Nat) := match h a with
  | some (.inl (t', n, .inr (.inr (.inr (.inr f))))) => if t' = t ∧ ¬ (i < 0 ∨ n ≤ i.toNatClampNeg) then some (f i.toNatClampNeg) else none
  | _ => none
/-- an array's length; its class is of z_tys -/
def aN (h : Hp) (a : Nat) : Option Int32 := match h a with
  | some (.inl (t, n, _)) => if t < 5 then some (Int32.ofNat n) else none
  | _ => none
def sI (h : Hp) (a : Nat) (i x : Int32) : Option Hp := match h a with
  | some (.inl (t', n, .inl f)) => if t' = 0 ∧ ¬ (i < 0 ∨ n ≤ i.toNatClampNeg) then some (hup h a (.inl (0, n, .inl (upd f i.toNatClampNeg x)))) else none
  | _ => none
def sZ (h : Hp) (a : Nat) (i x : Int32) : Option Hp := match h a with
  | some (.inl (t', n, .inl f)) => if t' = 2 ∧ ¬ (i < 0 ∨ n ≤ i.toNatClampNeg) then some (hup h a (.inl (2, n, .inl (upd f i.toNatClampNeg (vp_nar .boolean x))))) else none
  | _ => none
def sL (h : Hp) (a : Nat) (i : Int32) (x : Int64) : Option Hp := match h a with
  | some (.inl (t', n, .inr (.inl f))) => if t' = 1 ∧ ¬ (i < 0 ∨ n ≤ i.toNatClampNeg) then some (hup h a (.inl (1, n, .inr (.inl (vp_updL f i.toNatClampNeg x))))) else none
  | _ => none
/-- System.arraycopy of ints -/
def sC (h : Hp) (a0 : Nat) (sp : Int32) (a1 : Nat) (dp n : Int32) : Option Hp := match h a0, h a1 with
  | some (.inl (t0, n0, .inl f)), some (.inl (t1, n1, .inl g)) => if t0 = 0 ∧ t1 = 0 ∧ ¬ sp < 0 ∧ ¬ dp < 0 ∧ ¬ n < 0 ∧ sp.toNatClampNeg + n.toNatClampNeg ≤ n0 ∧ dp.toNatClampNeg + n.toNatClampNeg ≤ n1 then some (hup h a1 (.inl (0, n1, .inl (va_cpy f g sp.toNatClampNeg dp.toNatClampNeg n.toNatClampNeg)))) else none
  | _, _ => none
/-- how often a loop may go round -/
def FU : Nat := 100000
theorem z_bind {α β : Type} {x : Option α} {f : α → Option β} {r : β} (h : x.bind f = some r) : ∃ v, x = some v ∧ f v = some r := by
  cases x with
  | none => cases h
  | some v => exact ⟨v, rfl, h⟩
theorem z_gd {c : Prop} [Decidable c] {α : Type} {x : Option α} {r : α} (h : (if c then x else none) = some r) : c ∧ x = some r := by
  by_cases hc : c
  · rw [if_pos hc] at h; exact ⟨hc, h⟩
  · rw [if_neg hc] at h; cases h
theorem z_gn {c : Prop} [Decidable c] {α : Type} {x : Option α} {r : α} (h : (if c then none else x) = some r) : ¬ c ∧ x = some r := by
  by_cases hc : c
  · rw [if_pos hc] at h; cases h
  · rw [if_neg hc] at h; exact ⟨hc, h⟩
theorem z_t {c : Prop} [Decidable c] {α : Type} {x y : Option α} {r : α} (hc : c) (h : (if c then x else y) = some r) : x = some r := by
  rw [if_pos hc] at h; exact h
theorem z_f {c : Prop} [Decidable c] {α : Type} {x y : Option α} {r : α} (hc : ¬ c) (h : (if c then x else y) = some r) : y = some r := by
  rw [if_neg hc] at h; exact h
theorem gV_spec {h : Hp} {a ci k : Nat} {v : Value} (e : gV h a ci k = some v) : ∃ fs, h a = some (.inr (ci, fs)) ∧ fs[k]? = some v := by
  unfold gV at e
  split at e
  · rename_i o ho
    obtain ⟨h1, h2⟩ := z_gd e
    obtain ⟨c, fs⟩ := o
    cases h1
    exact ⟨fs, ho, h2⟩
  · cases e
theorem gI_spec {h : Hp} {a ci k : Nat} {v : Int32} (e : gI h a ci k = some v) : gV h a ci k = some (.int v) := by
  unfold gI at e
  split at e
  · rename_i w hw; cases e; exact hw
  · cases e
theorem gL_spec {h : Hp} {a ci k : Nat} {v : Int64} (e : gL h a ci k = some v) : gV h a ci k = some (.long v) := by
  unfold gL at e
  split at e
  · rename_i w hw; cases e; exact hw
  · cases e
theorem gA_spec {h : Hp} {a ci k : Nat} {v : Option Nat} (e : gA h a ci k = some v) : gV h a ci k = some (va_rf v) := by
  unfold gA at e
  split at e
  · rename_i hw; cases e; exact hw
  · rename_i w hw; cases e; exact hw
  · cases e
theorem pV_spec {h h' : Hp} {a ci k : Nat} {v : Value} (e : pV h a ci k v = some h') : ∃ fs, h a = some (.inr (ci, fs)) ∧ k < fs.length ∧ h' = hup h a (.inr (ci, fs.set k v)) := by
  unfold pV at e
  split at e
  · rename_i o ho
    obtain ⟨⟨h1, h2⟩, h3⟩ := z_gd e
    obtain ⟨c, fs⟩ := o
    cases h1
    exact ⟨fs, ho, h2, (Option.some.inj h3).symm⟩
  · cases e
theorem isO_spec {h : Hp} {b ci : Nat} (e : isO h b ci = true) : ∃ fs, h b = some (.inr (ci, fs)) := by
  unfold isO at e
  split at e
  · rename_i o ho
    obtain ⟨c, fs⟩ := o
    have : c = ci := by simpa using e
    subst this
    exact ⟨fs, ho⟩
  · cases e
theorem aI_spec {h : Hp} {t a : Nat} {i v : Int32} (e : aI h t a i = some v) : ∃ n f, h a = some (.inl (t, n, .inl f)) ∧ vp_in i n ∧ v = f i.toNatClampNeg := by
  unfold aI at e
  split at e
  · rename_i t' n f ho
    obtain ⟨⟨h1, h2⟩, h3⟩ := z_gd e
    subst h1
    exact ⟨n, f, ho, h2, (Option.some.inj h3).symm⟩
  · cases e
theorem aL_spec {h : Hp} {a : Nat} {i : Int32} {v : Int64} (e : aL h a i = some v) : ∃ n f, h a = some (.inl (1, n, .inr (.inl f))) ∧ vp_in i n ∧ v = f i.toNatClampNeg := by
  unfold aL at e
  split at e
  · rename_i t' n f ho
    obtain ⟨⟨h1, h2⟩, h3⟩ := z_gd e
    subst h1
    exact ⟨n, f, ho, h2, (Option.some.inj h3).symm⟩
  · cases e
theorem aA_spec {h : Hp} {t a : Nat} {i : Int32} {v : Option Nat} (e : aA h t a i = some v) : ∃ n f, h a = some (.inl (t, n, .inr (.inr (.inr (.inr f))))) ∧ vp_in i n ∧ v = f i.toNatClampNeg := by
  unfold aA at e
  split at e
  · rename_i t' n f ho
    obtain ⟨⟨h1, h2⟩, h3⟩ := z_gd e
    subst h1
    exact ⟨n, f, ho, h2, (Option.some.inj h3).symm⟩
  · cases e
theorem aN_spec {h : Hp} {a : Nat} {v : Int32} (e : aN h a = some v) : ∃ t x, h a = some (.inl (t, x)) ∧ t < 5 ∧ v = Int32.ofNat x.1 := by
  unfold aN at e
  split at e
  · rename_i t n f ho
    obtain ⟨h1, h3⟩ := z_gd e
    exact ⟨t, (n, f), ho, h1, (Option.some.inj h3).symm⟩
  · cases e
theorem sI_spec {h h' : Hp} {a : Nat} {i x : Int32} (e : sI h a i x = some h') : ∃ n f, h a = some (.inl (0, n, .inl f)) ∧ vp_in i n ∧ h' = hup h a (.inl (0, n, .inl (upd f i.toNatClampNeg x))) := by
  unfold sI at e
  split at e
  · rename_i t' n f ho
    obtain ⟨⟨h1, h2⟩, h3⟩ := z_gd e
    subst h1
    exact ⟨n, f, ho, h2, (Option.some.inj h3).symm⟩
  · cases e
theorem sZ_spec {h h' : Hp} {a : Nat} {i x : Int32} (e : sZ h a i x = some h') : ∃ n f, h a = some (.inl (2, n, .inl f)) ∧ vp_in i n ∧ h' = hup h a (.inl (2, n, .inl (upd f i.toNatClampNeg (vp_nar .boolean x)))) := by
  unfold sZ at e
  split at e
  · rename_i t' n f ho
    obtain ⟨⟨h1, h2⟩, h3⟩ := z_gd e
    subst h1
    exact ⟨n, f, ho, h2, (Option.some.inj h3).symm⟩
  · cases e
theorem sL_spec {h h' : Hp} {a : Nat} {i : Int32} {x : Int64} (e : sL h a i x = some h') : ∃ n f, h a = some (.inl (1, n, .inr (.inl f))) ∧ vp_in i n ∧ h' = hup h a (.inl (1, n, .inr (.inl (vp_updL f i.toNatClampNeg x)))) := by
  unfold sL at e
  split at e
  · rename_i t' n f ho
    obtain ⟨⟨h1, h2⟩, h3⟩ := z_gd e
    subst h1
    exact ⟨n, f, ho, h2, (Option.some.inj h3).symm⟩
  · cases e
theorem sC_spec {h h' : Hp} {a0 a1 : Nat} {sp dp n : Int32} (e : sC h a0 sp a1 dp n = some h') : ∃ n0 f n1 g, h a0 = some (.inl (0, n0, .inl f)) ∧ h a1 = some (.inl (0, n1, .inl g)) ∧ (¬ sp < 0 ∧ ¬ dp < 0 ∧ ¬ n < 0 ∧ sp.toNatClampNeg + n.toNatClampNeg ≤ n0 ∧ dp.toNatClampNeg + n.toNatClampNeg ≤ n1) ∧ h' = hup h a1 (.inl (0, n1, .inl (va_cpy f g sp.toNatClampNeg dp.toNatClampNeg n.toNatClampNeg))) := by
  unfold sC at e
  split at e
  · rename_i t0 n0 f t1 n1 g h0 h1
    obtain ⟨⟨q0, q1, q2⟩, h3⟩ := z_gd e
    subst q0; subst q1
    exact ⟨n0, f, n1, g, h0, h1, q2, (Option.some.inj h3).symm⟩
  · cases e
theorem zB_spec {v w : Int32} (e : zB v = some w) : w = v ∧ (v = 0 ∨ v = 1) := by
  unfold zB at e
  obtain ⟨h1, h2⟩ := z_gd e
  exact ⟨(Option.some.inj h2).symm, h1⟩
theorem z_nb {v : Int32} (h : v = 0 ∨ v = 1) : narrow .boolean (.int v) = .int v := by rcases h with rfl | rfl <;> decide +kernel
theorem z_fb {v : Int32} (h : v = 0 ∨ v = 1) : fits .boolean (.int v) = true := by rcases h with rfl | rfl <;> decide +kernel
/-! ===== the map and the machine's heap ===== -/
def HH (N0 : Nat) (D : va_G) (cs : Nat → ClassId) (h : Hp) (H : Heap) : Prop := N0 ≤ H.size ∧ ∀ (a : Nat) (e : zE), h a = some e → N0 ≤ a ∧ va_at D zcl (a, z_ec cs e) H
def zA (N0 : Nat) : Nat → Prop := fun q => N0 ≤ q
theorem HH.one {N0 : Nat} {D : va_G} {cs : Nat → ClassId} {h : Hp} {H : Heap} (hH : HH N0 D cs h H) {a : Nat} {e : zE} (ha : h a = some e) : va_P D zcl [(a, z_ec cs e)] H := by
  intro k q hq
  have hz : k < 1 := (List.getElem?_eq_some_iff.mp hq).1
  rw [show k = 0 by omega] at hq
  cases hq
  exact (hH.2 a e ha).2
theorem HH.set {N0 : Nat} {D : va_G} {cs : Nat → ClassId} {h : Hp} {H H1 : Heap} (hH : HH N0 D cs h H) {a : Nat} {e0 e : zE} (ha : h a = some e0) (he : va_at D zcl (a, z_ec cs e) H1) (z : H1.size = H.size) (oq : ∀ q : Nat, q ≠ a → H1[q]? = H[q]?) : HH N0 D cs (hup h a e) H1 := by
  refine ⟨by rw [z]; exact hH.1, fun b x hb => ?_⟩
  unfold hup at hb
  by_cases hba : b = a
  · rw [if_pos hba] at hb
    cases hb
    subst hba
    exact ⟨(hH.2 _ _ ha).1, he⟩
  · rw [if_neg hba] at hb
    exact ⟨(hH.2 _ _ hb).1, (hH.2 _ _ hb).2.kept (oq b hba)⟩
theorem HH.push {N0 : Nat} {D : va_G} {cs : Nat → ClassId} {h : Hp} {H H1 : Heap} (hH : HH N0 D cs h H) {e : zE} (he : va_at D zcl (H.size, z_ec cs e) H1) (z : H1.size = H.size + 1) (oq : ∀ q : Nat, q < H.size → H1[q]? = H[q]?) : HH N0 D cs (hup h H.size e) H1 := by
  refine ⟨by rw [z]; exact Nat.le_succ_of_le hH.1, fun b x hb => ?_⟩
  unfold hup at hb
  by_cases hba : b = H.size
  · rw [if_pos hba] at hb
    cases hb
    subst hba
    exact ⟨hH.1, he⟩
  · rw [if_neg hba] at hb
    exact ⟨(hH.2 _ _ hb).1, (hH.2 _ _ hb).2.kept (oq b (hH.2 _ _ hb).2.lt)⟩
/-- the links between nest mates -/
def zNW (U : State) : Prop := ∀ w ∈ zNw, va_Nw w U
/-- a static that may be null: told by D.2 102 -/
def zfo (D : va_G) : Option Nat := if D.2 102 0 = 0 then none else some (D.2 102 0 - 1)
/-- the String constants at the places D.2 100, their bytes at D.2 101; two statics of the JDK's -/
def zST (N0 : Nat) (D : va_G) (U : State) : Prop := vk_S 13 zsL zsB (D.2 100) (D.2 101) (zA N0) U U.heap ∧ (∀ i, i < 13 → vk_R "YearBaskets$Reader" (zsI.getD i 0) (zsX.getD i "") (D.2 100 i) U) ∧ va_Z "java/lang/String" "COMPACT_STRINGS" "Z" (.int 1) (zA N0) U U.heap ∧ va_Z "jdk/internal/util/Preconditions" "SIOOBE_FORMATTER" "Ljava/util/function/BiFunction;" (va_rf (zfo D)) (zA N0) U U.heap
def HS (N0 : Nat) (D : va_G) (cs : Nat → ClassId) (h : Hp) (U : State) : Prop := HH N0 D cs h U.heap ∧ va_K D zcl (z_tys cs) U ∧ zNW U ∧ zST N0 D U
theorem zNW.warm {s U : State} (hW : s.WarmedH U.vm) (h : zNW s) : zNW U := fun w hw => zNw_warm hw hW (h w hw)
theorem zNW.same {s U : State} (hv : U.vm = s.vm) (h : zNW s) : zNW U := fun w hw => va_tabs (zNw_tab hw) hv.symm (h w hw)
theorem zST.warm {N0 : Nat} {D : va_G} {s U : State} (hW : s.WarmedH U.vm) (hq : ∀ a : Nat, a < s.heap.size → ¬ zA N0 a → U.heap[a]? = s.heap[a]?) (h : zST N0 D s) : zST N0 D U :=
  ⟨(vk_S.moved hW.alike h.1).kept hq, fun i hi => (h.2.1 i hi).warm hW, (h.2.2.1.moved hW.alike).kept hq, (h.2.2.2.moved hW.alike).kept hq⟩
theorem zST.same {N0 : Nat} {D : va_G} {s U : State} (hv : U.vm = s.vm) (hh : U.heap = s.heap) (h : zST N0 D s) : zST N0 D U := by
  have hvm : s.vm.Alike U.vm := by rw [hv]; exact Vm.Alike.refl s.vm
  refine ⟨by rw [hh]; exact vk_S.moved hvm h.1, fun i hi => (h.2.1 i hi).same hv, by rw [hh]; exact h.2.2.1.moved hvm, by rw [hh]; exact h.2.2.2.moved hvm⟩
theorem HS.same {N0 : Nat} {D : va_G} {cs : Nat → ClassId} {h : Hp} {U V : State} (hh : V.heap = U.heap) (hv : V.vm = U.vm) (q : HS N0 D cs h U) : HS N0 D cs h V := ⟨by rw [hh]; exact q.1, va_K.moved (by rw [hv]; exact Vm.Alike.refl U.vm) q.2.1, q.2.2.1.same hv, q.2.2.2.same hv hh⟩
