/-! ===== a method's surroundings, its contract, and a row for each instruction that reads or writes the heap ===== -/
def ZC (p : Program) (s : State) (m : MethodId) (args : Array Value) (meth : Method) (c : Code) (own nm : String) (cc : ByteArray) (nL : Nat) (rt : Option FieldType) (N0 : Nat) (D : va_G) (cs : Nat → ClassId) : Prop :=
  p.tables.exec = Jvm.exec ∧ c.code = cc ∧ c.maxLocals = nL ∧ s.vm.findClass own = some m.cls ∧ (∀ w ∈ zG, w.before args s = true) ∧ va_K D zcl (z_tys cs) s ∧ meth.sig.returnType = rt ∧ meth.locks = false ∧ N0 ≤ s.heap.size ∧ meth.name = nm ∧ zNW s ∧ zST N0 D s
def zrm (n mc ms : Nat) : Room := { frames := n, cells := mc, slots := ms, locals := 60 * n }
def zP (N0 : Nat) (D : va_G) (cs : Nat → ClassId) (av : List Value) (h : Hp) : Array Value → State → Prop := va_Pc av (HS N0 D cs h)
def zQ (N0 : Nat) (D : va_G) (cs : Nat → ClassId) (r : Option Value) (h' : Hp) : Array Value → State → Outcome → State → Prop := fun _ st oc t => oc = .returned r ∧ HS N0 D cs h' t ∧ va_F (zA N0) st t
/-- the contract: with these arguments over this heap the method answers r and leaves that heap -/
def Fn (l : Launch) (N0 : Nat) (D : va_G) (cs : Nat → ClassId) (y : MethodName) (bt : ByteArray) (mL : Nat) (rt : Option FieldType) (n mc ms : Nat) (av : List Value) (h : Hp) (r : Option Value) (h' : Hp) : Prop :=
  Met l y (Cond.code y bt mL rt :: zG) (zrm n mc ms) (zP N0 D cs av h) (zQ N0 D cs r h') mc ms (zA N0)
theorem z_start {l : Launch} {N0 : Nat} {D : va_G} {cs : Nat → ClassId} {y : MethodName} {bt : ByteArray} {nL : Nat} {rt : Option FieldType} {n mc ms : Nat} {av : List Value} {h : Hp} {r : Option Value} {h' : Hp} (hy : plainName y.cls = true) (hn : (lg_sl av).length ≤ nL)
    (body : ∀ (p : Program) (e : Env) (s : State) (m : MethodId) (args : Array Value) (below : List Frame) (meth : Method) (c : Code), ZC p s m args meth c y.cls y.name bt nL rt N0 D cs → HH N0 D cs h s.heap → va_S (zA N0) s.heap s.heap [] → ∀ ls : Array Slot, lv_has ls nL (lv_args 0 av) →
      W p l e (zrm n mc ms) s m args below meth c s.heap [] 0 0 (MQ below (zQ N0 D cs r h') args s mc ms (zA N0)) (F0 m 0 ls [])) : Fn l N0 D cs y bt nL rt n mc ms av h r h' := by
  refine Met.ofW (cc := bt) (maxL := nL) (ret := rt) hy rfl ?_
  intro p e s m args below meth c s₁ B hml hv
  obtain ⟨rfl, hH, hK, hNW, hST⟩ := hv
  have hts : ∀ w ∈ zG, w.before av.toArray s = true := fun w hw => atoms_spec (ws := Cond.code y bt nL rt :: zG) B.pre w (List.mem_cons_of_mem _ hw)
  rw [lg_entry_eq]
  exact body p e s m av.toArray below meth c ⟨B.exec, B.bytes, hml, findClass_of_methodNamed B.named, hts, hK, B.returns, B.notSynchronized, hH.1, (name_of_methodNamed B.named B.method).1, hNW, hST⟩ hH va_S.rf _ (lv_entry av hn)
theorem zS_put {N0 : Nat} {H0 H H1 : Heap} {locs : List Loc} {a k : Nat} (h : va_S (zA N0) H0 H locs) (z : H1.size = H.size) (oq : ∀ q : Nat, q ≠ a → H1[q]? = H[q]?) (ha : N0 ≤ a) : va_S (zA N0) H0 H1 (locs ++ [⟨a, k⟩]) := h.put z oq ha
theorem z_goodIn {y : MethodName} {bt : ByteArray} {mL : Nat} {rt : Option FieldType} (h : Cond.code y bt mL rt ∈ zG) : GoodIn zG (Cond.code y bt mL rt :: zG) := by
  intro w hw
  rcases List.mem_cons.mp hw with rfl | hw
  · exact ⟨h, good_of_word (zG_good h)⟩
  · exact ⟨hw, good_of_word (zG_good hw)⟩
section ZR
variable {p : Program} {l : Launch} {e : Env} {R : Room} {s : State} {m : MethodId} {args : Array Value} {below : List Frame} {meth : Method} {c : Code} {H : Heap} {locs : List Loc} {cells slots : Nat} {Q : State → Prop}
variable {cc : ByteArray} {pc nL : Nat} {ls : Array Slot} {rest st0 st1 : List Value} {own nm : String} {rt : Option FieldType} {N0 : Nat} {D : va_G} {cs : Nat → ClassId} {h : Hp}
theorem ZC.x (C : ZC p s m args meth c own nm cc nL rt N0 D cs) : p.tables.exec = Jvm.exec := C.1
theorem ZC.b (C : ZC p s m args meth c own nm cc nL rt N0 D cs) : c.code = cc := C.2.1
theorem ZC.ml (C : ZC p s m args meth c own nm cc nL rt N0 D cs) : c.maxLocals = nL := C.2.2.1
theorem ZC.o (C : ZC p s m args meth c own nm cc nL rt N0 D cs) : s.vm.findClass own = some m.cls := C.2.2.2.1
theorem ZC.ts (C : ZC p s m args meth c own nm cc nL rt N0 D cs) : ∀ w ∈ zG, w.before args s = true := C.2.2.2.2.1
theorem ZC.k (C : ZC p s m args meth c own nm cc nL rt N0 D cs) : va_K D zcl (z_tys cs) s := C.2.2.2.2.2.1
theorem ZC.r (C : ZC p s m args meth c own nm cc nL rt N0 D cs) : meth.sig.returnType = rt := C.2.2.2.2.2.2.1
theorem ZC.nl (C : ZC p s m args meth c own nm cc nL rt N0 D cs) : meth.locks = false := C.2.2.2.2.2.2.2.1
theorem ZC.n (C : ZC p s m args meth c own nm cc nL rt N0 D cs) : N0 ≤ s.heap.size := C.2.2.2.2.2.2.2.2.1
theorem ZC.nam (C : ZC p s m args meth c own nm cc nL rt N0 D cs) : meth.name = nm := C.2.2.2.2.2.2.2.2.2.1
theorem ZC.nw (C : ZC p s m args meth c own nm cc nL rt N0 D cs) : zNW s := C.2.2.2.2.2.2.2.2.2.2.1
theorem ZC.st (C : ZC p s m args meth c own nm cc nL rt N0 D cs) : zST N0 D s := C.2.2.2.2.2.2.2.2.2.2.2
/-- a field is read -/
theorem z_get (M : ZC p s m args meth c own nm cc nL rt N0 D cs) (hH : HH N0 D cs h H) {Cn : String} {T : u_T} {N ci k index a : Nat} {v : Value} (hc : zcl[ci]? = some (Cn, T, N)) (hk : k < N) (hin : ∀ w ∈ u_ws Cn T N, w ∈ zG) (hl : Cond.fieldLink own index (T k).1 (T k).2.1 (T k).2.2.1 ∈ zG) (hv : gV h a ci k = some v) (hdg : decode cc pc = .ok (.getfield index, 3))
    (kk : W p l e R s m args below meth c H locs cells slots Q (F0 m (pc + 3) ls (v :: rest))) : W p l e R s m args below meth c H locs cells slots Q (F0 m pc ls (.ref a :: rest)) := by
  obtain ⟨fs, h1, h2⟩ := gV_spec hv
  exact va_get (cl := zcl) M.x M.b M.ts hin M.o M.k (hH.one h1) 0 rfl hc k hk (M.ts _ hl) (fun _ h9 => h9) h2 hdg kk
theorem z_getN (M : ZC p s m args meth c own nm cc nL rt N0 D cs) (hH : HH N0 D cs h H) {Cn host : String} {T : u_T} {N ci k index a : Nat} {v : Value} (hc : zcl[ci]? = some (Cn, T, N)) (hk : k < N) (hin : ∀ w ∈ u_ws Cn T N, w ∈ zG) (hl : Cond.fieldLinkNest own index (T k).1 (T k).2.1 (T k).2.2.1 host ∈ zNw) (hv : gV h a ci k = some v) (hdg : decode cc pc = .ok (.getfield index, 3))
    (kk : W p l e R s m args below meth c H locs cells slots Q (F0 m (pc + 3) ls (v :: rest))) : W p l e R s m args below meth c H locs cells slots Q (F0 m pc ls (.ref a :: rest)) := by
  obtain ⟨fs, h1, h2⟩ := gV_spec hv
  exact va_getN (cl := zcl) M.x M.b M.ts hin M.o M.k (hH.one h1) 0 rfl hc k hk (va_Nw.use rfl (M.nw _ hl)) (fun _ h9 => h9) h2 hdg kk
/-- what a put leaves -/
theorem z_ob {Cn : String} {T : u_T} {N ci k a : Nat} {fs : List Value} {v : Value} {H' : Heap} {cell : Cell} (hc : zcl[ci]? = some (Cn, T, N)) (hap : ∀ x y, x < N → y < N → x ≠ y → (D.2 ci) x ≠ (D.2 ci) y) (hk : k < N) (hl : k < fs.length) (q2 : cell.cls = D.1 ci) (q3 : cell.vm = .none) (q4 : ∀ j, j < N → cell.slots[(D.2 ci) j]? = some (vp_V fs j)) (e1 : H'[a]? = some (cell.setSlot ((D.2 ci) k) v)) : va_at D zcl (a, z_ec cs (.inr (ci, fs.set k v))) H' :=
  ⟨_, hc, t_OB.to (V := updV (vp_V fs) k v) ⟨_, e1, q2, q3, t_set q4 hap hk v⟩ (fun j _ => vp_updV_set hl v j)⟩
/-- a field that isn't final is written -/
theorem z_put (M : ZC p s m args meth c own nm cc nL rt N0 D cs) (hH : HH N0 D cs h H) (hS : va_S (zA N0) s.heap H locs) {Cn : String} {T : u_T} {N ci k index a : Nat} {v : Value} {ty : FieldType} {h' : Hp} (hc : zcl[ci]? = some (Cn, T, N)) (hk : k < N) (hin : ∀ w ∈ u_ws Cn T N, w ∈ zG) (ty0 : Nat → FieldType) (hty : ∀ k, k < N → parseFieldDescriptor (T k).2.2.1 = some (ty0 k)) (hnm : ∀ a, a < N → ∀ b, b < N → a ≠ b → (T a).2.1 ≠ (T b).2.1) (hfin : (T k).2.2.2 = false) (hl : Cond.fieldLink own index (T k).1 (T k).2.1 (T k).2.2.1 ∈ zG) (hd : ty0 k = ty) (hn : narrow ty v = v) (hfit : fits ty v = true) (hp : pV h a ci k v = some h') (hdg : decode cc pc = .ok (.putfield index, 3))
    (kk : ∀ (H1 : Heap) (locs1 : List Loc), HH N0 D cs h' H1 → va_S (zA N0) s.heap H1 locs1 → W p l e R s m args below meth c H1 locs1 cells slots Q (F0 m (pc + 3) ls rest)) : W p l e R s m args below meth c H locs cells slots Q (F0 m pc ls (v :: .ref a :: rest)) := by
  subst hd
  obtain ⟨fs, he, hlen, rfl⟩ := pV_spec hp
  have hap := va_apart (own := own) M.ts hin ty0 hty hnm M.k hc
  obtain ⟨r, h1, cell, q1, q2, q3, q4⟩ := (hH.2 a _ he).2
  have hr : r = (Cn, T, N) := Option.some.inj (h1.symm.trans hc)
  subst hr
  obtain ⟨hSl, hfc, kC, hkC, hkind⟩ := M.k.1 ci _ hc
  obtain ⟨cf, kf, fi, f, hi, hsl⟩ := hSl k hk
  have hlay := M.ts _ (hin _ (u_in_lay hk))
  unfold u_lay at hlay
  rw [if_neg (by rw [hfin]; decide)] at hlay
  have hst := (u_facts hfc hkC (u_lays M.ts hin hk) hi).1
  have h6 := u_store hfc hkC hkind hlay hi (hty k hk) hn hfit
  refine W.putK M.x M.b (f := f) ⟨M.o, M.ts _ hl, ⟨_, _, _, hi⟩, hst⟩ (by rw [q2]; exact h6) q1 q3 (by rw [hsl]; exact k2_hasslot (q4 k hk)) rfl rfl hdg fun H' e1 e2 e3 => ?_
  rw [hsl] at e1 ⊢
  exact kk H' _ (hH.set he (z_ob hc hap hk hlen q2 q3 q4 e1) e2 e3) (zS_put hS e2 e3 (hH.2 a _ he).1)
theorem z_putN (M : ZC p s m args meth c own nm cc nL rt N0 D cs) (hH : HH N0 D cs h H) (hS : va_S (zA N0) s.heap H locs) {Cn host : String} {T : u_T} {N ci k index a : Nat} {v : Value} {ty : FieldType} {h' : Hp} (hc : zcl[ci]? = some (Cn, T, N)) (hk : k < N) (hin : ∀ w ∈ u_ws Cn T N, w ∈ zG) (ty0 : Nat → FieldType) (hty : ∀ k, k < N → parseFieldDescriptor (T k).2.2.1 = some (ty0 k)) (hnm : ∀ a, a < N → ∀ b, b < N → a ≠ b → (T a).2.1 ≠ (T b).2.1) (hfin : (T k).2.2.2 = false) (hl : Cond.fieldLinkNest own index (T k).1 (T k).2.1 (T k).2.2.1 host ∈ zNw) (hd : ty0 k = ty) (hn : narrow ty v = v) (hfit : fits ty v = true) (hp : pV h a ci k v = some h') (hdg : decode cc pc = .ok (.putfield index, 3))
    (kk : ∀ (H1 : Heap) (locs1 : List Loc), HH N0 D cs h' H1 → va_S (zA N0) s.heap H1 locs1 → W p l e R s m args below meth c H1 locs1 cells slots Q (F0 m (pc + 3) ls rest)) : W p l e R s m args below meth c H locs cells slots Q (F0 m pc ls (v :: .ref a :: rest)) := by
  subst hd
  obtain ⟨fs, he, hlen, rfl⟩ := pV_spec hp
  have hap := va_apart (own := own) M.ts hin ty0 hty hnm M.k hc
  obtain ⟨r, h1, cell, q1, q2, q3, q4⟩ := (hH.2 a _ he).2
  have hr : r = (Cn, T, N) := Option.some.inj (h1.symm.trans hc)
  subst hr
  obtain ⟨hSl, hfc, kC, hkC, hkind⟩ := M.k.1 ci _ hc
  obtain ⟨cf, kf, fi, f, hi, hsl⟩ := hSl k hk
  have hlay := M.ts _ (hin _ (u_in_lay hk))
  unfold u_lay at hlay
  rw [if_neg (by rw [hfin]; decide)] at hlay
  have hst := (u_facts hfc hkC (u_lays M.ts hin hk) hi).1
  have h6 := u_store hfc hkC hkind hlay hi (hty k hk) hn hfit
  refine va_WputK M.x M.b (f := f) M.o (va_Nw.use rfl (M.nw _ hl)) hi hst (by rw [q2]; exact h6) q1 q3 (by rw [hsl]; exact k2_hasslot (q4 k hk)) rfl rfl hdg fun H' e1 e2 e3 => ?_
  rw [hsl] at e1 ⊢
  exact kk H' _ (hH.set he (z_ob hc hap hk hlen q2 q3 q4 e1) e2 e3) (zS_put hS e2 e3 (hH.2 a _ he).1)
/-- a final field is written, in a constructor -/
theorem z_putF (M : ZC p s m args meth c own nm cc nL rt N0 D cs) (hH : HH N0 D cs h H) (hS : va_S (zA N0) s.heap H locs) {Cn : String} {T : u_T} {N ci k index a : Nat} {v : Value} {ty : FieldType} {h' : Hp} (hc : zcl[ci]? = some (Cn, T, N)) (hk : k < N) (hin : ∀ w ∈ u_ws Cn T N, w ∈ zG) (ty0 : Nat → FieldType) (hty : ∀ k, k < N → parseFieldDescriptor (T k).2.2.1 = some (ty0 k)) (hnm : ∀ a, a < N → ∀ b, b < N → a ≠ b → (T a).2.1 ≠ (T b).2.1) (hfin : (T k).2.2.2 = true) (hin2 : nm = "<init>") (hdecl : (T k).1 = own) (hl : Cond.fieldLink own index (T k).1 (T k).2.1 (T k).2.2.1 ∈ zG) (hd : ty0 k = ty) (hn : narrow ty v = v) (hfit : fits ty v = true) (hp : pV h a ci k v = some h') (hdg : decode cc pc = .ok (.putfield index, 3))
    (kk : ∀ (H1 : Heap) (locs1 : List Loc), HH N0 D cs h' H1 → va_S (zA N0) s.heap H1 locs1 → W p l e R s m args below meth c H1 locs1 cells slots Q (F0 m (pc + 3) ls rest)) : W p l e R s m args below meth c H locs cells slots Q (F0 m pc ls (v :: .ref a :: rest)) := by
  subst hd
  obtain ⟨fs, he, hlen, rfl⟩ := pV_spec hp
  have hap := va_apart (own := own) M.ts hin ty0 hty hnm M.k hc
  obtain ⟨r, h1, cell, q1, q2, q3, q4⟩ := (hH.2 a _ he).2
  have hr : r = (Cn, T, N) := Option.some.inj (h1.symm.trans hc)
  subst hr
  obtain ⟨hSl, hfc, kC, hkC, hkind⟩ := M.k.1 ci _ hc
  obtain ⟨cf, kf, fi, f, hi, hsl⟩ := hSl k hk
  have hlay := M.ts _ (hin _ (u_in_lay hk))
  unfold u_lay at hlay
  rw [if_pos hfin] at hlay
  have hst := (u_facts hfc hkC (u_lays M.ts hin hk) hi).1
  have hcf : m.cls = cf := by
    obtain ⟨_, _, c', _, _, _, -, -, hf', -, -, -, hown2, -⟩ := Cond.laysFinal_spec hlay
    have e1 : c' = cf := by have := hi.symm.trans hf'; simp at this; exact this.1.symm
    rw [hdecl] at hown2
    rw [← e1]; exact Option.some.inj (M.o.symm.trans hown2)
  have h6 := u_fits hfc hkC hkind (Or.inr hlay) hi (hty k hk) hn hfit
  refine W.putFinK M.x M.b M.o (M.ts _ hl) hi hst hcf (M.nam.trans hin2) (by rw [q2]; exact h6) q1 q3 (by rw [hsl]; exact k2_hasslot (q4 k hk)) rfl rfl hdg fun H' e1 e2 e3 => ?_
  rw [hsl] at e1 ⊢
  exact kk H' _ (hH.set he (z_ob hc hap hk hlen q2 q3 q4 e1) e2 e3) (zS_put hS e2 e3 (hH.2 a _ he).1)
/-- arrays are read -/
theorem z_iald (M : ZC p s m args meth c own nm cc nL rt N0 D cs) (hH : HH N0 D cs h H) {a : Nat} {i v : Int32} (hv : aI h 0 a i = some v) (hdg : decode cc pc = .ok (.iaload, 1))
    (kk : W p l e R s m args below meth c H locs cells slots Q (F0 m (pc + 1) ls (.int v :: rest))) : W p l e R s m args below meth c H locs cells slots Q (F0 m pc ls (.int i :: .ref a :: rest)) := by
  obtain ⟨n, f, h1, h2, rfl⟩ := aI_spec hv
  exact va_iald M.x M.b M.k (hH.one h1) 0 0 rfl rfl h2 hdg kk
theorem z_zald (M : ZC p s m args meth c own nm cc nL rt N0 D cs) (hH : HH N0 D cs h H) {a : Nat} {i v : Int32} (hv : aI h 2 a i = some v) (hdg : decode cc pc = .ok (.baload, 1))
    (kk : W p l e R s m args below meth c H locs cells slots Q (F0 m (pc + 1) ls (.int v :: rest))) : W p l e R s m args below meth c H locs cells slots Q (F0 m pc ls (.int i :: .ref a :: rest)) := by
  obtain ⟨n, f, h1, h2, rfl⟩ := aI_spec hv
  exact va_zald M.x M.b M.k (hH.one h1) 0 2 rfl rfl h2 hdg kk
theorem z_lald (M : ZC p s m args meth c own nm cc nL rt N0 D cs) (hH : HH N0 D cs h H) {a : Nat} {i : Int32} {v : Int64} (hv : aL h a i = some v) (hdg : decode cc pc = .ok (.laload, 1))
    (kk : W p l e R s m args below meth c H locs cells slots Q (F0 m (pc + 1) ls (.long v :: rest))) : W p l e R s m args below meth c H locs cells slots Q (F0 m pc ls (.int i :: .ref a :: rest)) := by
  obtain ⟨n, f, h1, h2, rfl⟩ := aL_spec hv
  exact va_lald M.x M.b M.k (hH.one h1) 0 1 rfl rfl h2 hdg kk
theorem z_aald (M : ZC p s m args meth c own nm cc nL rt N0 D cs) (hH : HH N0 D cs h H) {t a : Nat} {Cn : String} {i : Int32} {v : Option Nat} (ht : (z_tys cs)[t]? = some (cs t, .object Cn)) (hv : aA h t a i = some v) (hdg : decode cc pc = .ok (.aaload, 1))
    (kk : W p l e R s m args below meth c H locs cells slots Q (F0 m (pc + 1) ls (va_rf v :: rest))) : W p l e R s m args below meth c H locs cells slots Q (F0 m pc ls (.int i :: .ref a :: rest)) := by
  obtain ⟨n, f, h1, h2, rfl⟩ := aA_spec hv
  exact va_aldq M.x M.b M.k (hH.one h1) 0 t rfl ht h2 hdg kk
theorem z_tyAt {t : Nat} (ht : t < 5) : ∃ ty, (z_tys cs)[t]? = some (cs t, ty) := by
  match t, ht with
  | 0, _ => exact ⟨_, rfl⟩
  | 1, _ => exact ⟨_, rfl⟩
  | 2, _ => exact ⟨_, rfl⟩
  | 3, _ => exact ⟨_, rfl⟩
  | 4, _ => exact ⟨_, rfl⟩
theorem z_alen (M : ZC p s m args meth c own nm cc nL rt N0 D cs) (hH : HH N0 D cs h H) {a : Nat} {v : Int32} (hv : aN h a = some v) (hdg : decode cc pc = .ok (.arraylength, 1))
    (kk : W p l e R s m args below meth c H locs cells slots Q (F0 m (pc + 1) ls (.int v :: rest))) : W p l e R s m args below meth c H locs cells slots Q (F0 m pc ls (.ref a :: rest)) := by
  obtain ⟨t, x, h1, h2, rfl⟩ := aN_spec hv
  obtain ⟨ty, ht⟩ := z_tyAt (cs := cs) h2
  exact va_alen M.x M.b M.k (hH.one h1) 0 t rfl ht rfl hdg kk
/-- arrays are written -/
theorem z_iast (M : ZC p s m args meth c own nm cc nL rt N0 D cs) (hH : HH N0 D cs h H) (hS : va_S (zA N0) s.heap H locs) {a : Nat} {i x : Int32} {h' : Hp} (hv : sI h a i x = some h') (hdg : decode cc pc = .ok (.iastore, 1))
    (kk : ∀ (H1 : Heap) (locs1 : List Loc), HH N0 D cs h' H1 → va_S (zA N0) s.heap H1 locs1 → W p l e R s m args below meth c H1 locs1 cells slots Q (F0 m (pc + 1) ls rest)) : W p l e R s m args below meth c H locs cells slots Q (F0 m pc ls (.int x :: .int i :: .ref a :: rest)) := by
  obtain ⟨n, f, h1, h2, rfl⟩ := sI_spec hv
  refine W.iast M.x M.b (hH.2 a _ h1).2 ((M.k.2 0 _ rfl).1 n (fun j => .int (f j))) (fun q => by cases q) (by show ¬ (i < 0 ∨ (arrV _ _ _).slots.size ≤ _); rw [arrV_size]; exact h2) rfl rfl hdg fun H1 e1 z oq => ?_
  refine kk H1 _ (hH.set h1 ?_ z oq) (zS_put hS z oq (hH.2 a _ h1).1)
  show H1[a]? = some (vp_cell _ _)
  rw [e1]
  show some ((vp_cell (cs 0) (n, .inl f)).setSlot _ _) = _
  rw [vp_cell_i, vp_cell_i, arrV_store]
  congr 2
  funext q
  by_cases hq : q = i.toNatClampNeg
  · subst hq
    simp [updV, upd]
  · simp [updV, upd, hq]
theorem z_zast (M : ZC p s m args meth c own nm cc nL rt N0 D cs) (hH : HH N0 D cs h H) (hS : va_S (zA N0) s.heap H locs) {a : Nat} {i x : Int32} {h' : Hp} (hv : sZ h a i x = some h') (hdg : decode cc pc = .ok (.bastore, 1))
    (kk : ∀ (H1 : Heap) (locs1 : List Loc), HH N0 D cs h' H1 → va_S (zA N0) s.heap H1 locs1 → W p l e R s m args below meth c H1 locs1 cells slots Q (F0 m (pc + 1) ls rest)) : W p l e R s m args below meth c H locs cells slots Q (F0 m pc ls (.int x :: .int i :: .ref a :: rest)) := by
  obtain ⟨n, f, h1, h2, rfl⟩ := sZ_spec hv
  refine W.zast M.x M.b (hH.2 a _ h1).2 ((M.k.2 2 _ rfl).1 n (fun j => .int (f j))) (fun q => by cases q) (by show ¬ (i < 0 ∨ (arrV _ _ _).slots.size ≤ _); rw [arrV_size]; exact h2) rfl rfl hdg fun H1 e1 z oq => ?_
  refine kk H1 _ (hH.set h1 ?_ z oq) (zS_put hS z oq (hH.2 a _ h1).1)
  show H1[a]? = some (vp_cell _ _)
  rw [e1]
  show some ((vp_cell (cs 2) (n, .inl f)).setSlot _ _) = _
  rw [vp_cell_i, vp_cell_i, arrV_store]
  congr 2
  funext q
  by_cases hq : q = i.toNatClampNeg
  · subst hq
    simp [updV, upd, vp_nar]
    try rfl
  · simp [updV, upd, hq]
theorem z_last (M : ZC p s m args meth c own nm cc nL rt N0 D cs) (hH : HH N0 D cs h H) (hS : va_S (zA N0) s.heap H locs) {a : Nat} {i : Int32} {x : Int64} {h' : Hp} (hv : sL h a i x = some h') (hdg : decode cc pc = .ok (.lastore, 1))
    (kk : ∀ (H1 : Heap) (locs1 : List Loc), HH N0 D cs h' H1 → va_S (zA N0) s.heap H1 locs1 → W p l e R s m args below meth c H1 locs1 cells slots Q (F0 m (pc + 1) ls rest)) : W p l e R s m args below meth c H locs cells slots Q (F0 m pc ls (.long x :: .int i :: .ref a :: rest)) := by
  obtain ⟨n, f, h1, h2, rfl⟩ := sL_spec hv
  refine W.last M.x M.b (hH.2 a _ h1).2 ((M.k.2 1 _ rfl).1 n (fun j => .long (f j))) (fun q => by cases q) (by show ¬ (i < 0 ∨ (arrV _ _ _).slots.size ≤ _); rw [arrV_size]; exact h2) rfl rfl hdg fun H1 e1 z oq => ?_
  refine kk H1 _ (hH.set h1 ?_ z oq) (zS_put hS z oq (hH.2 a _ h1).1)
  show H1[a]? = some (vp_cell _ _)
  rw [e1]
  show some ((vp_cell (cs 1) (n, .inr (.inl f))).setSlot _ _) = _
  rw [vp_cell_l, vp_cell_l, arrV_store]
  congr 2
  funext q
  by_cases hq : q = i.toNatClampNeg
  · subst hq
    simp [updV, vp_updL]
  · simp [updV, vp_updL, hq]
/-- references in locals -/
theorem z_aload_n (M : ZC p s m args meth c own nm cc nL rt N0 D cs) {k : Fin 4} {i : Nat} {r : Option Nat} (hdg : decode cc pc = .ok (.aload_n k, 1)) (hi : (k : Nat) = i) (hl : ls[i]? = some (.val (va_rf r)))
    (kk : W p l e R s m args below meth c H locs cells slots Q (F0 m (pc + 1) ls (va_rf r :: rest))) : W p l e R s m args below meth c H locs cells slots Q (F0 m pc ls rest) := by
  cases r with
  | none => exact lv_aload_nN M.x M.b hdg hi hl kk
  | some a => exact lv_aload_n M.x M.b hdg hi hl kk
theorem z_aload (M : ZC p s m args meth c own nm cc nL rt N0 D cs) {i : Nat} {r : Option Nat} (hdg : decode cc pc = .ok (.aload i, 2)) (hl : ls[i]? = some (.val (va_rf r)))
    (kk : W p l e R s m args below meth c H locs cells slots Q (F0 m (pc + 2) ls (va_rf r :: rest))) : W p l e R s m args below meth c H locs cells slots Q (F0 m pc ls rest) := by
  cases r with
  | none => exact lv_aloadN M.x M.b hdg hl kk
  | some a => exact lv_aload M.x M.b hdg hl kk
/-- a long's comparison and the branch behind it -/
theorem z_lcmp_eq (M : ZC p s m args meth c own nm cc nL rt N0 D cs) {x y : Int64} {off : Int} {tgt : Nat} (hd0 : decode cc pc = .ok (.lcmp, 1)) (hdg : decode cc (pc + 1) = .ok (.ifCond .eq off, 3)) (ht : ((pc + 1 : Nat) : Int) + off = (tgt : Int)) (kt : x = y → W p l e R s m args below meth c H locs cells slots Q (F0 m tgt ls rest)) (kf : ¬ x = y → W p l e R s m args below meth c H locs cells slots Q (F0 m (pc + 4) ls rest)) : W p l e R s m args below meth c H locs cells slots Q (F0 m pc ls (.long y :: .long x :: rest)) :=
  W.lcmp M.x M.b hd0 (lv_if_eq M.x M.b hdg ht (fun q => kt ((lg_cmp_eq x y).mp q)) (fun q => kf (fun z => q ((lg_cmp_eq x y).mpr z))))
theorem z_lcmp_ne (M : ZC p s m args meth c own nm cc nL rt N0 D cs) {x y : Int64} {off : Int} {tgt : Nat} (hd0 : decode cc pc = .ok (.lcmp, 1)) (hdg : decode cc (pc + 1) = .ok (.ifCond .ne off, 3)) (ht : ((pc + 1 : Nat) : Int) + off = (tgt : Int)) (kt : ¬ x = y → W p l e R s m args below meth c H locs cells slots Q (F0 m tgt ls rest)) (kf : x = y → W p l e R s m args below meth c H locs cells slots Q (F0 m (pc + 4) ls rest)) : W p l e R s m args below meth c H locs cells slots Q (F0 m pc ls (.long y :: .long x :: rest)) :=
  W.lcmp M.x M.b hd0 (lv_if_ne M.x M.b hdg ht (fun q => kt (fun z => q ((lg_cmp_eq x y).mpr z))) (fun q => kf ((lg_cmp_eq x y).mp q)))
theorem z_lcmp_lt (M : ZC p s m args meth c own nm cc nL rt N0 D cs) {x y : Int64} {off : Int} {tgt : Nat} (hd0 : decode cc pc = .ok (.lcmp, 1)) (hdg : decode cc (pc + 1) = .ok (.ifCond .lt off, 3)) (ht : ((pc + 1 : Nat) : Int) + off = (tgt : Int)) (kt : x < y → W p l e R s m args below meth c H locs cells slots Q (F0 m tgt ls rest)) (kf : ¬ x < y → W p l e R s m args below meth c H locs cells slots Q (F0 m (pc + 4) ls rest)) : W p l e R s m args below meth c H locs cells slots Q (F0 m pc ls (.long y :: .long x :: rest)) :=
  W.lcmp M.x M.b hd0 (lv_if_lt M.x M.b hdg ht (fun q => kt ((lg_cmp_lt x y).mp q)) (fun q => kf (fun z => q ((lg_cmp_lt x y).mpr z))))
theorem z_lcmp_ge (M : ZC p s m args meth c own nm cc nL rt N0 D cs) {x y : Int64} {off : Int} {tgt : Nat} (hd0 : decode cc pc = .ok (.lcmp, 1)) (hdg : decode cc (pc + 1) = .ok (.ifCond .ge off, 3)) (ht : ((pc + 1 : Nat) : Int) + off = (tgt : Int)) (kt : y ≤ x → W p l e R s m args below meth c H locs cells slots Q (F0 m tgt ls rest)) (kf : ¬ y ≤ x → W p l e R s m args below meth c H locs cells slots Q (F0 m (pc + 4) ls rest)) : W p l e R s m args below meth c H locs cells slots Q (F0 m pc ls (.long y :: .long x :: rest)) :=
  W.lcmp M.x M.b hd0 (lv_if_ge M.x M.b hdg ht (fun q => kt ((lg_cmp_ge x y).mp q)) (fun q => kf (fun z => q ((lg_cmp_ge x y).mpr z))))
theorem z_lcmp_gt (M : ZC p s m args meth c own nm cc nL rt N0 D cs) {x y : Int64} {off : Int} {tgt : Nat} (hd0 : decode cc pc = .ok (.lcmp, 1)) (hdg : decode cc (pc + 1) = .ok (.ifCond .gt off, 3)) (ht : ((pc + 1 : Nat) : Int) + off = (tgt : Int)) (kt : y < x → W p l e R s m args below meth c H locs cells slots Q (F0 m tgt ls rest)) (kf : ¬ y < x → W p l e R s m args below meth c H locs cells slots Q (F0 m (pc + 4) ls rest)) : W p l e R s m args below meth c H locs cells slots Q (F0 m pc ls (.long y :: .long x :: rest)) :=
  W.lcmp M.x M.b hd0 (lv_if_gt M.x M.b hdg ht (fun q => kt ((lg_cmp_gt x y).mp q)) (fun q => kf (fun z => q ((lg_cmp_gt x y).mpr z))))
theorem z_lcmp_le (M : ZC p s m args meth c own nm cc nL rt N0 D cs) {x y : Int64} {off : Int} {tgt : Nat} (hd0 : decode cc pc = .ok (.lcmp, 1)) (hdg : decode cc (pc + 1) = .ok (.ifCond .le off, 3)) (ht : ((pc + 1 : Nat) : Int) + off = (tgt : Int)) (kt : x ≤ y → W p l e R s m args below meth c H locs cells slots Q (F0 m tgt ls rest)) (kf : ¬ x ≤ y → W p l e R s m args below meth c H locs cells slots Q (F0 m (pc + 4) ls rest)) : W p l e R s m args below meth c H locs cells slots Q (F0 m pc ls (.long y :: .long x :: rest)) :=
  W.lcmp M.x M.b hd0 (lv_if_le M.x M.b hdg ht (fun q => kt ((lg_cmp_le x y).mp q)) (fun q => kf (fun z => q ((lg_cmp_le x y).mpr z))))
/-- constants of the pool -/
theorem z_ldc2 (M : ZC p s m args meth c own nm cc nL rt N0 D cs) {index : Nat} {v : Int64} (hw : Cond.constantLong own index v ∈ zG) (hdg : decode cc pc = .ok (.ldc2_w index, 3)) (kk : W p l e R s m args below meth c H locs cells slots Q (F0 m (pc + 3) ls (.long v :: rest))) : W p l e R s m args below meth c H locs cells slots Q (F0 m pc ls rest) := lv_ldc2 M.x M.b M.o (M.ts _ hw) hdg kk
theorem z_ldc (M : ZC p s m args meth c own nm cc nL rt N0 D cs) {index : Nat} {v : Int32} (hw : Cond.constant own index v ∈ zG) (hdg : decode cc pc = .ok (.ldc index, 2)) (kk : W p l e R s m args below meth c H locs cells slots Q (F0 m (pc + 2) ls (.int v :: rest))) : W p l e R s m args below meth c H locs cells slots Q (F0 m pc ls rest) := lv_ldc M.x M.b M.o (M.ts _ hw) hdg kk
theorem z_ldcw (M : ZC p s m args meth c own nm cc nL rt N0 D cs) {index : Nat} {v : Int32} (hw : Cond.constant own index v ∈ zG) (hdg : decode cc pc = .ok (.ldc_w index, 3)) (kk : W p l e R s m args below meth c H locs cells slots Q (F0 m (pc + 3) ls (.int v :: rest))) : W p l e R s m args below meth c H locs cells slots Q (F0 m pc ls rest) := lv_ldcw M.x M.b M.o (M.ts _ hw) hdg kk
/-- behind a call -/
theorem z_after {r : Option Value} {h' : Hp} {a : Array Value} {mc ms : Nat} (hr : va_Run p l e R s m args below meth c H locs cells slots mc ms (F0 m pc ls st0) rest (zQ N0 D cs r h' a) (zA N0)) (hN : N0 ≤ s.heap.size) (hS : va_S (zA N0) s.heap H locs) (hr1 : r.toList ++ rest = st1)
    (kk : ∀ (H1 : Heap) (locs1 : List Loc), HH N0 D cs h' H1 → va_S (zA N0) s.heap H1 locs1 → W p l e R s m args below meth c H1 locs1 (cells + mc) (slots + ms) Q (F0 m (pc + 3) ls st1)) : W p l e R s m args below meth c H locs cells slots Q (F0 m pc ls st0) := by
  intro T hT X
  obtain ⟨v, st₀, t, T', L, h0, X', hL, e1, e2, ⟨hv, hHS, hz, hk⟩, st⟩ := hr T hT X
  cases hv
  rw [h0] at hz hk
  subst hr1
  obtain ⟨t2, a1, b1⟩ := kk T'.heap (locs ++ L) (by rw [e1]; exact hHS.1)
    ⟨Nat.le_trans hS.1 (by rw [e1]; exact hz), fun q h1 h2 => by rw [e1, hk q (Nat.lt_of_lt_of_le h1 hS.1) h2]; exact hS.2.1 q h1 h2, fun q hq => by
      rcases List.mem_append.mp hq with h | h
      · exact hS.2.2 q h
      · exact hL q h⟩ T' rfl X'
  exact ⟨t2, st t2 a1, b1⟩
theorem zP_blind {av : List Value} : FrameBlind (zP N0 D cs av h) := fun a U g mk q => ⟨q.1, HS.same (U := U) (V := U.calling g mk a) rfl rfl q.2⟩
theorem z_preS (M : ZC p s m args meth c own nm cc nL rt N0 D cs) (hH : HH N0 D cs h H) (hS : va_S (zA N0) s.heap H locs) {av : List Value} : PreS s H (zP N0 D cs av h) av := ⟨zP_blind, fun U hU hW => ⟨rfl, by rw [hU]; exact hH, va_K.moved hW.alike M.k, M.nw.warm hW, M.st.warm hW (by rw [hU]; exact hS.2.1)⟩⟩
theorem z_preV (M : ZC p s m args meth c own nm cc nL rt N0 D cs) (hH : HH N0 D cs h H) (hS : va_S (zA N0) s.heap H locs) {b ci : Nat} {Cn : String} {T : u_T} {N : Nat} (hc : zcl[ci]? = some (Cn, T, N)) (ho : isO h b ci = true) {As : List Value} : PreV s H Cn b (zP N0 D cs (.ref b :: As) h) As := by
  obtain ⟨fs, h1⟩ := isO_spec ho
  exact ⟨zP_blind, va_recv M.k (hH.one h1) hc (q0 := 0) rfl, fun U hU hW => ⟨rfl, by rw [hU]; exact hH, va_K.moved hW.alike M.k, M.nw.warm hW, M.st.warm hW (by rw [hU]; exact hS.2.1)⟩⟩
theorem z_fix (M : ZC p s m args meth c own nm cc nL rt N0 D cs) : CallFix p m c cc nL s args zG own := ⟨M.x, M.b, M.ml, M.o, M.ts⟩
variable {y : MethodName} {bt : ByteArray} {mL n k index mc ms : Nat} {rty : Option FieldType} {r : Option Value} {h' : Hp} {As : List Value}
abbrev zR (R : Room) (n mL : Nat) : Prop := n + 1 ≤ R.frames ∧ 8 + (mL + 11) + 60 * n ≤ R.locals
abbrev zY (y : MethodName) (k : Nat) : Prop := y.cls ≠ "java/lang/invoke/MethodHandle" ∧ y.cls ≠ "java/lang/invoke/VarHandle" ∧ (parseMethodDescriptor y.desc).map (fun d => d.parameters.length) = some k
/-- a static method is called -/
theorem z_callS (M : ZC p s m args meth c own nm cc nL rt N0 D cs) (hH : HH N0 D cs h H) (hS : va_S (zA N0) s.heap H locs) (F : Fn l N0 D cs y bt mL rty n mc ms As h r h') (w : Cond.code y bt mL rty ∈ zG ∧ Cond.static y ∈ zG ∧ Cond.initialized y.cls ∈ zG ∧ zY y k) (w1 : Cond.methodLink own index y ∈ zG) (hk : As.length = k) (hR : zR R n mL) (hz : ls.size = nL) (hst : st0 = As.reverse ++ rest) (hr1 : r.toList ++ rest = st1) (hrest : (rest.map fun v => v.category).sum ≤ 8) (hf : cells + mc ≤ R.cells ∧ slots + ms ≤ R.slots) (hdg : decode cc pc = .ok (.invokestatic index, 3))
    (kk : ∀ (H1 : Heap) (locs1 : List Loc), HH N0 D cs h' H1 → va_S (zA N0) s.heap H1 locs1 → W p l e R s m args below meth c H1 locs1 (cells + mc) (slots + ms) Q (F0 m (pc + 3) ls st1)) : W p l e R s m args below meth c H locs cells slots Q (F0 m pc ls st0) :=
  z_after (va_runS (As := As) (rest := rest) (z_fix M) F ⟨callB_of k M.ts (z_goodIn w.1) rfl rfl rfl (M.ts _ w.2.2.1) (M.ts _ w1) w.2.2.2 hR, M.ts _ w.2.1⟩ (z_preS M hH hS) rfl hk hz hst (lv_room hrest) hdg hf) M.n hS hr1 kk
theorem z_callSN (M : ZC p s m args meth c own nm cc nL rt N0 D cs) (hH : HH N0 D cs h H) (hS : va_S (zA N0) s.heap H locs) {host : String} (F : Fn l N0 D cs y bt mL rty n mc ms As h r h') (w : Cond.code y bt mL rty ∈ zG ∧ Cond.static y ∈ zG ∧ Cond.initialized y.cls ∈ zG ∧ zY y k) (w1 : Cond.methodLinkNest own index y host ∈ zNw) (hk : As.length = k) (hR : zR R n mL) (hz : ls.size = nL) (hst : st0 = As.reverse ++ rest) (hr1 : r.toList ++ rest = st1) (hrest : (rest.map fun v => v.category).sum ≤ 8) (hf : cells + mc ≤ R.cells ∧ slots + ms ≤ R.slots) (hdg : decode cc pc = .ok (.invokestatic index, 3))
    (kk : ∀ (H1 : Heap) (locs1 : List Loc), HH N0 D cs h' H1 → va_S (zA N0) s.heap H1 locs1 → W p l e R s m args below meth c H1 locs1 (cells + mc) (slots + ms) Q (F0 m (pc + 3) ls st1)) : W p l e R s m args below meth c H locs cells slots Q (F0 m pc ls st0) :=
  z_after (va_runSN (As := As) (rest := rest) (z_fix M) F ⟨va_cnB k M.ts (z_goodIn w.1) rfl rfl rfl (M.nw _ w1) (M.ts _ w.2.2.1) w.2.2.2 hR, M.ts _ w.2.1, trivial⟩ (z_preS M hH hS) rfl hk hz hst (lv_room hrest) hdg hf) M.n hS hr1 kk
/-- an object's method is called -/
theorem z_callV (M : ZC p s m args meth c own nm cc nL rt N0 D cs) (hH : HH N0 D cs h H) (hS : va_S (zA N0) s.heap H locs) {b ci : Nat} {T : u_T} {N : Nat} (F : Fn l N0 D cs y bt mL rty n mc ms (.ref b :: As) h r h') (hc : zcl[ci]? = some (y.cls, T, N)) (ho : isO h b ci = true) (w : Cond.code y bt mL rty ∈ zG ∧ (Cond.instanceMethod y ∈ zG ∧ Cond.selects y.cls y y ∈ zG) ∧ Cond.initialized y.cls ∈ zG ∧ zY y k) (w1 : Cond.methodLink own index y ∈ zG) (hk : As.length = k) (hR : zR R n mL) (hz : ls.size = nL) (hst : st0 = As.reverse ++ .ref b :: rest) (hr1 : r.toList ++ rest = st1) (hrest : (rest.map fun v => v.category).sum ≤ 8) (hf : cells + mc ≤ R.cells ∧ slots + ms ≤ R.slots) (hdg : decode cc pc = .ok (.invokevirtual index, 3))
    (kk : ∀ (H1 : Heap) (locs1 : List Loc), HH N0 D cs h' H1 → va_S (zA N0) s.heap H1 locs1 → W p l e R s m args below meth c H1 locs1 (cells + mc) (slots + ms) Q (F0 m (pc + 3) ls st1)) : W p l e R s m args below meth c H locs cells slots Q (F0 m pc ls st0) :=
  z_after (va_runV (As := As) (rest := rest) (b := b) (z_fix M) F ⟨callB_of k M.ts (z_goodIn w.1) rfl rfl rfl (M.ts _ w.2.2.1) (M.ts _ w1) w.2.2.2 hR, M.ts _ w.2.1.1, M.ts _ w.2.1.2⟩ (z_preV M hH hS hc ho) rfl hk hz hst (lv_room hrest) hdg hf) M.n hS hr1 kk
theorem z_callVN (M : ZC p s m args meth c own nm cc nL rt N0 D cs) (hH : HH N0 D cs h H) (hS : va_S (zA N0) s.heap H locs) {host : String} {b ci : Nat} {T : u_T} {N : Nat} (F : Fn l N0 D cs y bt mL rty n mc ms (.ref b :: As) h r h') (hc : zcl[ci]? = some (y.cls, T, N)) (ho : isO h b ci = true) (w : Cond.code y bt mL rty ∈ zG ∧ (Cond.instanceMethod y ∈ zG ∧ Cond.selects y.cls y y ∈ zG) ∧ Cond.initialized y.cls ∈ zG ∧ zY y k) (w1 : Cond.methodLinkNest own index y host ∈ zNw) (hk : As.length = k) (hR : zR R n mL) (hz : ls.size = nL) (hst : st0 = As.reverse ++ .ref b :: rest) (hr1 : r.toList ++ rest = st1) (hrest : (rest.map fun v => v.category).sum ≤ 8) (hf : cells + mc ≤ R.cells ∧ slots + ms ≤ R.slots) (hdg : decode cc pc = .ok (.invokevirtual index, 3))
    (kk : ∀ (H1 : Heap) (locs1 : List Loc), HH N0 D cs h' H1 → va_S (zA N0) s.heap H1 locs1 → W p l e R s m args below meth c H1 locs1 (cells + mc) (slots + ms) Q (F0 m (pc + 3) ls st1)) : W p l e R s m args below meth c H locs cells slots Q (F0 m pc ls st0) :=
  z_after (va_runVN (As := As) (rest := rest) (b := b) (z_fix M) F ⟨va_cnB k M.ts (z_goodIn w.1) rfl rfl rfl (M.nw _ w1) (M.ts _ w.2.2.1) w.2.2.2 hR, M.ts _ w.2.1.1, M.ts _ w.2.1.2⟩ (z_preV M hH hS hc ho) rfl hk hz hst (lv_room hrest) hdg hf) M.n hS hr1 kk
/-- ends -/
theorem z_fin (hH : HH N0 D cs h H) (M : ZC p s m args meth c own nm cc nL rt N0 D cs) (hS : va_S (zA N0) s.heap H locs) {r : Option Value} : ∀ t : State, t.heap = H → s.WarmedH t.vm → zQ N0 D cs r h args s (.returned r) t := fun t ht hW => ⟨rfl, ⟨by rw [ht]; exact hH, va_K.moved hW.alike M.k, M.nw.warm hW, M.st.warm hW (by rw [ht]; exact hS.2.1)⟩, hS.F ht⟩
theorem z_iret (M : ZC p s m args meth c own nm cc nL (some .int) N0 D cs) (hH : HH N0 D cs h H) (hS : va_S (zA N0) s.heap H locs) {v : Int32} (hdg : decode cc pc = .ok (.ireturn, 1)) : W p l e R s m args below meth c H locs cells slots (MQ below (zQ N0 D cs (some (.int v)) h) args s cells slots (zA N0)) (F0 m pc ls [.int v]) := W.iret M.x M.b M.r (z_fin hH M hS) hS.2.2 hdg M.nl
theorem z_zret (M : ZC p s m args meth c own nm cc nL (some .boolean) N0 D cs) (hH : HH N0 D cs h H) (hS : va_S (zA N0) s.heap H locs) {v : Int32} (hv : v = 0 ∨ v = 1) (hdg : decode cc pc = .ok (.ireturn, 1)) : W p l e R s m args below meth c H locs cells slots (MQ below (zQ N0 D cs (some (.int v)) h) args s cells slots (zA N0)) (F0 m pc ls [.int v]) := W.zret M.x M.b M.r (z_nb hv) (z_fin hH M hS) hS.2.2 hdg M.nl
theorem z_lret (M : ZC p s m args meth c own nm cc nL (some .long) N0 D cs) (hH : HH N0 D cs h H) (hS : va_S (zA N0) s.heap H locs) {v : Int64} (hdg : decode cc pc = .ok (.lreturn, 1)) : W p l e R s m args below meth c H locs cells slots (MQ below (zQ N0 D cs (some (.long v)) h) args s cells slots (zA N0)) (F0 m pc ls [.long v]) := W.lret M.x M.b M.r (z_fin hH M hS) hS.2.2 hdg M.nl
theorem z_vret (M : ZC p s m args meth c own nm cc nL none N0 D cs) (hH : HH N0 D cs h H) (hS : va_S (zA N0) s.heap H locs) (hdg : decode cc pc = .ok (.return_, 1)) : W p l e R s m args below meth c H locs cells slots (MQ below (zQ N0 D cs none h) args s cells slots (zA N0)) (F0 m pc ls []) := W.vret M.x M.b M.r (z_fin hH M hS) hS.2.2 hdg M.nl
theorem z_aret {Cn : String} (M : ZC p s m args meth c own nm cc nL (some (.object Cn)) N0 D cs) (hH : HH N0 D cs h H) (hS : va_S (zA N0) s.heap H locs) {v : Option Nat} (hdg : decode cc pc = .ok (.areturn, 1)) : W p l e R s m args below meth c H locs cells slots (MQ below (zQ N0 D cs (some (va_rf v)) h) args s cells slots (zA N0)) (F0 m pc ls [va_rf v]) := W.aret M.x M.b M.r (Or.inl ⟨_, rfl⟩) (by cases v with
  | none => exact Or.inl rfl
  | some a => exact Or.inr ⟨a, rfl⟩) (z_fin hH M hS) hS.2.2 hdg M.nl
end ZR
def zb2 {α β γ : Type} (x : Option (α × β)) (f : α → β → Option γ) : Option γ := match x with
  | none => none
  | some q => f q.1 q.2
theorem z_bind2 {α β γ : Type} {x : Option (α × β)} {f : α → β → Option γ} {r : γ} (h : zb2 x f = some r) : ∃ a b, x = some (a, b) ∧ f a b = some r := by
  cases x with
  | none => cases h
  | some q => exact ⟨q.1, q.2, rfl, h⟩
def zm {β : Type} (r : Option Nat) (x : Option β) (f : Nat → Option β) : Option β := match r with
  | none => x
  | some a => f a
theorem zm_n {β : Type} {x : Option β} {f : Nat → Option β} {r : β} (h : zm none x f = some r) : x = some r := h
theorem zm_s {β : Type} {x : Option β} {f : Nat → Option β} {r : β} {a : Nat} (h : zm (some a) x f = some r) : f a = some r := h
/-- from this place on, whatever the heap is that the map pictures -/
def ZG (p : Program) (l : Launch) (e : Env) (R : Room) (s : State) (m : MethodId) (args : Array Value) (below : List Frame) (meth : Method) (c : Code) (N0 : Nat) (D : va_G) (cs : Nat → ClassId) (r : Option Value) (h' h : Hp) (nL : Nat) (lv : List (Nat × Value)) (pc : Nat) (st : List Value) : Prop :=
  ∀ (H : Heap) (locs : List Loc) (ls : Array Slot), HH N0 D cs h H → va_S (zA N0) s.heap H locs → lv_has ls nL lv → W p l e R s m args below meth c H locs 0 0 (MQ below (zQ N0 D cs r h') args s 0 0 (zA N0)) (F0 m pc ls st)
section ZR0
variable {p : Program} {l : Launch} {e : Env} {R : Room} {s : State} {m : MethodId} {args : Array Value} {below : List Frame} {meth : Method} {c : Code} {H : Heap} {locs : List Loc} {cells slots : Nat} {Q : State → Prop}
variable {cc : ByteArray} {pc nL : Nat} {ls : Array Slot} {rest st0 st1 : List Value} {own nm : String} {rt : Option FieldType} {N0 : Nat} {D : va_G} {cs : Nat → ClassId} {h : Hp}
variable {y : MethodName} {bt : ByteArray} {mL n k index : Nat} {rty : Option FieldType} {r : Option Value} {h' : Hp} {As : List Value}
theorem z_fit0 (X : cells ≤ R.cells ∧ slots ≤ R.slots) : cells + 0 ≤ R.cells ∧ slots + 0 ≤ R.slots := X
theorem zk_S (M : ZC p s m args meth c own nm cc nL rt N0 D cs) (hH : HH N0 D cs h H) (hS : va_S (zA N0) s.heap H locs) (F : Fn l N0 D cs y bt mL rty n 0 0 As h r h') (w : Cond.code y bt mL rty ∈ zG ∧ Cond.static y ∈ zG ∧ Cond.initialized y.cls ∈ zG ∧ zY y k) (w1 : Cond.methodLink own index y ∈ zG) (rest : List Value) (hk : As.length = k) (hR : zR R n mL) (hl : ls.size = nL) (hst : st0 = As.reverse ++ rest) (hr1 : r.toList ++ rest = st1) (hrest : (rest.map fun v => v.category).sum ≤ 8) (hdg : decode cc pc = .ok (.invokestatic index, 3))
    (kk : ∀ (H1 : Heap) (locs1 : List Loc), HH N0 D cs h' H1 → va_S (zA N0) s.heap H1 locs1 → W p l e R s m args below meth c H1 locs1 0 0 Q (F0 m (pc + 3) ls st1)) : W p l e R s m args below meth c H locs 0 0 Q (F0 m pc ls st0) :=
  z_callS M hH hS F w w1 hk hR hl hst hr1 hrest ⟨Nat.zero_le _, Nat.zero_le _⟩ hdg kk
theorem zk_SN (M : ZC p s m args meth c own nm cc nL rt N0 D cs) (hH : HH N0 D cs h H) (hS : va_S (zA N0) s.heap H locs) {host : String} (F : Fn l N0 D cs y bt mL rty n 0 0 As h r h') (w : Cond.code y bt mL rty ∈ zG ∧ Cond.static y ∈ zG ∧ Cond.initialized y.cls ∈ zG ∧ zY y k) (w1 : Cond.methodLinkNest own index y host ∈ zNw) (rest : List Value) (hk : As.length = k) (hR : zR R n mL) (hl : ls.size = nL) (hst : st0 = As.reverse ++ rest) (hr1 : r.toList ++ rest = st1) (hrest : (rest.map fun v => v.category).sum ≤ 8) (hdg : decode cc pc = .ok (.invokestatic index, 3))
    (kk : ∀ (H1 : Heap) (locs1 : List Loc), HH N0 D cs h' H1 → va_S (zA N0) s.heap H1 locs1 → W p l e R s m args below meth c H1 locs1 0 0 Q (F0 m (pc + 3) ls st1)) : W p l e R s m args below meth c H locs 0 0 Q (F0 m pc ls st0) :=
  z_callSN M hH hS F w w1 hk hR hl hst hr1 hrest ⟨Nat.zero_le _, Nat.zero_le _⟩ hdg kk
theorem zk_V (M : ZC p s m args meth c own nm cc nL rt N0 D cs) (hH : HH N0 D cs h H) (hS : va_S (zA N0) s.heap H locs) {b ci : Nat} {T : u_T} {N : Nat} (F : Fn l N0 D cs y bt mL rty n 0 0 (.ref b :: As) h r h') (hc : zcl[ci]? = some (y.cls, T, N)) (ho : isO h b ci = true) (w : Cond.code y bt mL rty ∈ zG ∧ (Cond.instanceMethod y ∈ zG ∧ Cond.selects y.cls y y ∈ zG) ∧ Cond.initialized y.cls ∈ zG ∧ zY y k) (w1 : Cond.methodLink own index y ∈ zG) (rest : List Value) (hk : As.length = k) (hR : zR R n mL) (hl : ls.size = nL) (hst : st0 = As.reverse ++ .ref b :: rest) (hr1 : r.toList ++ rest = st1) (hrest : (rest.map fun v => v.category).sum ≤ 8) (hdg : decode cc pc = .ok (.invokevirtual index, 3))
    (kk : ∀ (H1 : Heap) (locs1 : List Loc), HH N0 D cs h' H1 → va_S (zA N0) s.heap H1 locs1 → W p l e R s m args below meth c H1 locs1 0 0 Q (F0 m (pc + 3) ls st1)) : W p l e R s m args below meth c H locs 0 0 Q (F0 m pc ls st0) :=
  z_callV M hH hS F hc ho w w1 hk hR hl hst hr1 hrest ⟨Nat.zero_le _, Nat.zero_le _⟩ hdg kk
theorem zk_VN (M : ZC p s m args meth c own nm cc nL rt N0 D cs) (hH : HH N0 D cs h H) (hS : va_S (zA N0) s.heap H locs) {host : String} {b ci : Nat} {T : u_T} {N : Nat} (F : Fn l N0 D cs y bt mL rty n 0 0 (.ref b :: As) h r h') (hc : zcl[ci]? = some (y.cls, T, N)) (ho : isO h b ci = true) (w : Cond.code y bt mL rty ∈ zG ∧ (Cond.instanceMethod y ∈ zG ∧ Cond.selects y.cls y y ∈ zG) ∧ Cond.initialized y.cls ∈ zG ∧ zY y k) (w1 : Cond.methodLinkNest own index y host ∈ zNw) (rest : List Value) (hk : As.length = k) (hR : zR R n mL) (hl : ls.size = nL) (hst : st0 = As.reverse ++ .ref b :: rest) (hr1 : r.toList ++ rest = st1) (hrest : (rest.map fun v => v.category).sum ≤ 8) (hdg : decode cc pc = .ok (.invokevirtual index, 3))
    (kk : ∀ (H1 : Heap) (locs1 : List Loc), HH N0 D cs h' H1 → va_S (zA N0) s.heap H1 locs1 → W p l e R s m args below meth c H1 locs1 0 0 Q (F0 m (pc + 3) ls st1)) : W p l e R s m args below meth c H locs 0 0 Q (F0 m pc ls st0) :=
  z_callVN M hH hS F hc ho w w1 hk hR hl hst hr1 hrest ⟨Nat.zero_le _, Nat.zero_le _⟩ hdg kk
end ZR0
theorem z_nb0 {α β : Type} {f : α → Option β} {r : β} : ¬ (Option.bind (none : Option α) f = some r) := fun h => by cases h
theorem z_sb {α β : Type} {a : α} {f : α → Option β} {r : β} (h : Option.bind (some a) f = some r) : f a = some r := h
theorem zR_of {R : Room} {n mL : Nat} (h1 : n + 1 ≤ R.frames) (h2 : 8 + (mL + 11) + 60 * n ≤ R.locals) : zR R n mL := ⟨h1, h2⟩
theorem z_r1 {α : Type} {x y : α} (h : some x = some y) : x = y := Option.some.inj h
theorem z_r2 {α β : Type} {x y : α} {a b : β} (h : some (x, a) = some (y, b)) : x = y ∧ a = b := by
  have h := Option.some.inj h
  exact ⟨congrArg Prod.fst h, congrArg Prod.snd h⟩
theorem zR_n {N mc ms n mL : Nat} (h1 : n + 1 ≤ N) (h2 : mL ≤ 41) : zR (zrm N mc ms) n mL := ⟨h1, by
  show 8 + (mL + 11) + 60 * n ≤ 60 * N
  omega⟩
section ZMabs
variable {p : Program} {l : Launch} {e : Env} {R : Room} {s : State} {m : MethodId} {args : Array Value} {below : List Frame} {meth : Method} {c : Code} {H : Heap} {locs : List Loc} {Q : State → Prop}
variable {cc : ByteArray} {pc nL : Nat} {ls : Array Slot} {rest : List Value} {own nm : String} {rt : Option FieldType} {N0 : Nat} {D : va_G} {cs : Nat → ClassId}
theorem z_mabs (M : ZC p s m args meth c own nm cc nL rt N0 D cs) {index : Nat} (w1 : Cond.methodLink own index Lib.Math.abs.name ∈ zG) (w2 : Cond.static Lib.Math.abs.name ∈ zG) (w3 : Cond.initialized "java/lang/Math" ∈ zG) (w4 : Cond.code Lib.Math.abs.name Lib.Math.abs.code 1 (some .int) ∈ zG) (hl : ls.size = nL) (hR : 1 ≤ R.frames) (hL : (rest.map fun v => v.category).sum + 13 ≤ R.locals) {x : Int32} (hdg : decode cc pc = .ok (.invokestatic index, 3))
    (kk : W p l e R s m args below meth c H locs 0 0 Q (F0 m (pc + 3) ls (.int (if 0 ≤ x then x else 0 - x) :: rest))) : W p l e R s m args below meth c H locs 0 0 Q (F0 m pc ls (.int x :: rest)) :=
  va_mabs M.x M.b (M.ml.trans hl.symm) M.o (M.ts _ w1) (M.ts _ w2) (M.ts _ w3) (M.ts _ w4) hR hL (Nat.zero_le _) (Nat.zero_le _) hdg kk
end ZMabs
section ZCopy
variable {p : Program} {l : Launch} {e : Env} {R : Room} {s : State} {m : MethodId} {args : Array Value} {below : List Frame} {meth : Method} {c : Code} {H : Heap} {locs : List Loc} {cells slots : Nat} {Q : State → Prop}
variable {cc : ByteArray} {pc nL : Nat} {ls : Array Slot} {rest : List Value} {own nm : String} {rt : Option FieldType} {N0 : Nat} {D : va_G} {cs : Nat → ClassId} {h : Hp}
/-- System.arraycopy of ints -/
theorem z_copy (M : ZC p s m args meth c own nm cc nL rt N0 D cs) (hH : HH N0 D cs h H) (hS : va_S (zA N0) s.heap H locs) (hls : ls.size = nL) {index : Nat} (w1 : Cond.methodLink own index arraycopyName ∈ zG) (w2 : Cond.native arraycopyName ∈ zG) (w3 : Cond.static arraycopyName ∈ zG) (w4 : Cond.initialized "java/lang/System" ∈ zG) {a0 a : Nat} {sp dp n : Int32} {h' : Hp} (hv : sC h a0 sp a dp n = some h')
    (hframes : 1 ≤ R.frames) (hlocals : (rest.map fun v => v.category).sum + (nativeFrameWords "java/lang/System" "arraycopy" 5 + 11) ≤ R.locals) (hdg : decode cc pc = .ok (.invokestatic index, 3))
    (kk : ∀ (H1 : Heap) (locs1 : List Loc), HH N0 D cs h' H1 → va_S (zA N0) s.heap H1 locs1 → W p l e R s m args below meth c H1 locs1 cells slots Q (F0 m (pc + 3) ls rest)) : W p l e R s m args below meth c H locs cells slots Q (F0 m pc ls (.int n :: .int dp :: .ref a :: .int sp :: .ref a0 :: rest)) := by
  obtain ⟨n0, f, n1, g, ha0, ha1, ⟨h1, h2, h3, h4, h5⟩, rfl⟩ := sC_spec hv
  have nn : ∀ z : Int32, ¬ z < 0 → z.toInt = (z.toNatClampNeg : Int) := by
    intro z hz
    have hz0 : (0 : Int) ≤ z.toInt := by
      have := Int32.not_lt.mp hz
      simpa using Int32.le_iff_toInt_le.mp this
    show z.toInt = ((z.toInt.toNat : Nat) : Int)
    omega
  intro T hT X
  have hc0 : H[a0]? = some (vp_cell (cs 0) (n0, .inl f)) := (hH.2 a0 _ ha0).2
  have hc1 : H[a]? = some (vp_cell (cs 0) (n1, .inl g)) := (hH.2 a _ ha1).2
  obtain ⟨-, k0, hk0, cm0, hkk0⟩ := (M.k.2 0 _ rfl).1 n0 (fun j => .int (f j))
  obtain ⟨-, k1, hk1, cm1, hkk1⟩ := (M.k.2 0 _ rfl).1 n1 (fun j => .int (g j))
  obtain ⟨vm', X', step⟩ := X.arraycopy M.x M.o (M.ts _ w1) (M.ts _ w2) (M.ts _ w3) (M.ts _ w4) (src := a0) (dst := a) (cs := vp_cell (cs 0) (n0, .inl f)) (cd := vp_cell (cs 0) (n1, .inl g)) (srcPos := sp) (destPos := dp) (n := n) (by rw [hT]; exact hc0) (by rw [hT]; exact hc1)
    (fun _ h => by cases h) (fun _ h => by cases h) (fun h => by cases h) (fun h => by cases h) hk0 hk1 hkk0 hkk1 (by simp [refKind]) h1 h2 h3
    (by rw [nn sp h1, nn n h3]; show ¬ _ > ((arrV (cs 0) n0 (fun j => .int (f j))).slots.size : Int); rw [arrV_size]; omega)
    (by rw [nn dp h2, nn n h3]; show ¬ _ > ((arrV (cs 0) n1 (fun j => .int (g j))).slots.size : Int); rw [arrV_size]; omega)
    (fun vm₁ _ i hi => by
      have e : (vp_cell (cs 0) (n0, .inl f)).slots.getD (sp.toNatClampNeg + i) .null = .int (f (sp.toNatClampNeg + i)) := by
        show (arrV (cs 0) n0 (fun j => .int (f j))).slots.getD _ _ = _
        rw [Array.getD_eq_getD_getElem?, arrV_read _ _ (by omega)]
        rfl
      refine ⟨?_, ?_⟩
      · rw [e]
        rfl
      · rw [e]
        exact trivial)
    (g := F0 m pc ls (.int n :: .int dp :: .ref a :: .int sp :: .ref a0 :: rest)) rfl (by rw [M.ml, hls]) (rest := rest) rfl (by rw [M.b]; exact hdg) hframes (by show 2 * 0 + _ + _ ≤ _; omega)
  have e1 : copied (vp_cell (cs 0) (n0, .inl f)) (vp_cell (cs 0) (n1, .inl g)) sp dp n = vp_cell (cs 0) (n1, .inl (va_cpy f g sp.toNatClampNeg dp.toNatClampNeg n.toNatClampNeg)) := va_copied (fun z => .int z) (cs 0) (cs 0) f g h4
  rw [e1] at X' step
  have hl : a < H.size := (Array.getElem?_eq_some_iff.mp hc1).1
  have hheap : ((T.setVm vm').setCell a (vp_cell (cs 0) (n1, .inl (va_cpy f g sp.toNatClampNeg dp.toNatClampNeg n.toNatClampNeg)))).heap = H.setIfInBounds a (vp_cell (cs 0) (n1, .inl (va_cpy f g sp.toNatClampNeg dp.toNatClampNeg n.toNatClampNeg))) := by rw [← hT]; rfl
  have oq : ∀ q : Nat, q ≠ a → (H.setIfInBounds a (vp_cell (cs 0) (n1, .inl (va_cpy f g sp.toNatClampNeg dp.toNatClampNeg n.toNatClampNeg))))[q]? = H[q]? := fun q hq => by simp [Array.getElem?_setIfInBounds, Ne.symm hq]
  have hNa : N0 ≤ a := (hH.2 a _ ha1).1
  obtain ⟨t, a1, b1⟩ := kk _ _ (hH.set ha1 (show (H.setIfInBounds a _)[a]? = some _ by simp [Array.getElem?_setIfInBounds, hl]) (by simp) oq) ⟨by simp; exact hS.1, fun q g1 g2 => by
      rw [oq q (fun e => g2 (by rw [e]; exact hNa))]
      exact hS.2.1 q g1 g2, fun q hq => by
      rcases List.mem_append.mp hq with h | h
      · exact hS.2.2 q h
      · obtain ⟨z, -, hz⟩ := List.mem_map.mp h
        rw [← hz]
        exact hNa⟩ _ hheap X'
  exact ⟨t, step t a1, b1⟩
end ZCopy
