/-! ===== constructors: rows that make cells ===== -/
def zAO (U : State) : Prop := va_AO "YearBaskets$Plan" U ∧ va_AO "YearBaskets$Fraction" U
def zPI (N0 : Nat) (D : va_G) (cs : Nat → ClassId) (av : List Value) (h : Hp) (n0 : Nat) : Array Value → State → Prop := va_Pc av (fun U => HS N0 D cs h U ∧ U.heap.size = n0 ∧ zAO U)
def zQI (N0 : Nat) (D : va_G) (cs : Nat → ClassId) (h' : Hp) (n1 : Nat) : Array Value → State → Outcome → State → Prop := fun _ st oc t => oc = .returned none ∧ (HS N0 D cs h' t ∧ t.heap.size = n1) ∧ va_F (zA N0) st t
def FnI (l : Launch) (N0 : Nat) (D : va_G) (cs : Nat → ClassId) (y : MethodName) (bt : ByteArray) (mL n mc ms : Nat) (av : List Value) (h : Hp) (n0 : Nat) (h' : Hp) (n1 : Nat) : Prop :=
  Met l y (Cond.code y bt mL none :: zG) (zrm n mc ms) (zPI N0 D cs av h n0) (zQI N0 D cs h' n1) mc ms (zA N0)
theorem zAO.moved {u U : State} (hvm : u.vm.Alike U.vm) (h : zAO u) : zAO U := ⟨h.1.moved hvm, h.2.moved hvm⟩
theorem z_startI {l : Launch} {N0 : Nat} {D : va_G} {cs : Nat → ClassId} {y : MethodName} {bt : ByteArray} {nL : Nat} {n mc ms : Nat} {av : List Value} {h : Hp} {n0 : Nat} {h' : Hp} {n1 : Nat} (hy : plainName y.cls = true) (hn : (lg_sl av).length ≤ nL)
    (body : ∀ (p : Program) (e : Env) (s : State) (m : MethodId) (args : Array Value) (below : List Frame) (meth : Method) (c : Code), ZC p s m args meth c y.cls y.name bt nL none N0 D cs → zAO s → ∀ (H : Heap), H.size = n0 → HH N0 D cs h H → va_S (zA N0) s.heap H [] → ∀ ls : Array Slot, lv_has ls nL (lv_args 0 av) →
      W p l e (zrm n mc ms) s m args below meth c H [] 0 0 (MQ below (zQI N0 D cs h' n1) args s mc ms (zA N0)) (F0 m 0 ls [])) : FnI l N0 D cs y bt nL n mc ms av h n0 h' n1 := by
  refine Met.ofW (cc := bt) (maxL := nL) (ret := none) hy rfl ?_
  intro p e s m args below meth c s₁ B hml hv
  obtain ⟨rfl, ⟨hH, hK, hNW, hST⟩, hz, hAO⟩ := hv
  have hts : ∀ w ∈ zG, w.before av.toArray s = true := fun w hw => atoms_spec (ws := Cond.code y bt nL none :: zG) B.pre w (List.mem_cons_of_mem _ hw)
  rw [lg_entry_eq]
  exact body p e s m av.toArray below meth c ⟨B.exec, B.bytes, hml, findClass_of_methodNamed B.named, hts, hK, B.returns, B.notSynchronized, hH.1, (name_of_methodNamed B.named B.method).1, hNW, hST⟩ hAO _ hz hH va_S.rf _ (lv_entry av hn)
section ZI
variable {p : Program} {l : Launch} {e : Env} {R : Room} {s : State} {m : MethodId} {args : Array Value} {below : List Frame} {meth : Method} {c : Code} {H : Heap} {locs : List Loc} {cells slots : Nat} {Q : State → Prop}
variable {cc : ByteArray} {pc nL : Nat} {ls : Array Slot} {rest st0 st1 : List Value} {own nm : String} {rt : Option FieldType} {N0 : Nat} {D : va_G} {cs : Nat → ClassId} {h : Hp} {n : Nat}
theorem zS_same {H0 H H1 : Heap} {A : Nat → Prop} (hS : va_S A H0 H locs) (z : H.size ≤ H1.size) (o : ∀ q : Nat, q < H.size → H1[q]? = H[q]?) : va_S A H0 H1 locs := ⟨Nat.le_trans hS.1 z, fun x h1 h2 => (o x (Nat.lt_of_lt_of_le h1 hS.1)).trans (hS.2.1 x h1 h2), hS.2.2⟩
theorem zi_new (M : ZC p s m args meth c own nm cc nL rt N0 D cs) (hH : HH N0 D cs h H) (hS : va_S (zA N0) s.heap H locs) (hz : H.size = n) {ci index N : Nat} {Cn : String} {T : u_T} {fs : List Value} (hc : zcl[ci]? = some (Cn, T, N)) (hin : ∀ w ∈ u_ws Cn T N, w ∈ zG) (ty0 : Nat → FieldType) (hty : ∀ k, k < N → parseFieldDescriptor (T k).2.2.1 = some (ty0 k)) (hcl : Cond.classLink own index Cn ∈ zG) (hinst : Cond.instantiable Cn N ∈ zG) (hini : Cond.initialized Cn ∈ zG) (hfs : ∀ j, j < N → defaultValue (ty0 j) = vp_V fs j) (hcells : cells + 1 ≤ R.cells) (hslots : slots + N ≤ R.slots) (hdg : decode cc pc = .ok (.new index, 3))
    (kk : ∀ H1 : Heap, H1.size = n + 1 → HH N0 D cs (hup h n (.inr (ci, fs))) H1 → va_S (zA N0) s.heap H1 locs → W p l e R s m args below meth c H1 locs (cells + 1) (slots + N) Q (F0 m (pc + 3) ls (.ref n :: rest))) : W p l e R s m args below meth c H locs cells slots Q (F0 m pc ls rest) := by
  subst hz
  have hKn := M.k.1 ci _ hc
  refine W.newcK M.x M.b M.o (M.ts _ hcl) (M.ts _ hinst) (M.ts _ hini) rfl hdg hcells hslots hKn.2.1 rfl fun H1 kC hkC e1 z1 o1 => ?_
  exact kk H1 z1 (hH.push (e := .inr (ci, fs)) ⟨_, hc, (u_born ty0 M.ts hin hKn hkC e1 hty).to hfs⟩ z1 o1) (zS_same hS (by omega) o1)
theorem zi_newa (M : ZC p s m args meth c own nm cc nL rt N0 D cs) (hH : HH N0 D cs h H) (hS : va_S (zA N0) s.heap H locs) (hz : H.size = n) {atype : ArrayType} {t N : Nat} {a0 : vp_A} {k : Int32} (harr : Cond.arrayClass (newarray.typeOf atype) ∈ zG) (ht : (z_tys cs)[t]? = some (cs t, newarray.typeOf atype)) (hty : ∀ (U : State) (cA : ClassId), va_RA U cA (newarray.typeOf atype) → U.vm.findClass ("[" ++ (newarray.typeOf atype).toString) = some cA) (ha : ∀ cA : ClassId, vp_cell cA a0 = arrV cA N (fun _ => defaultValue (newarray.typeOf atype))) (hn : ¬ k < 0) (hN : k.toNatClampNeg = N) (hbytes : N * componentBytes (newarray.typeOf atype) ≤ 536870912) (hcells : cells + 1 ≤ R.cells) (hslots : slots + N ≤ R.slots) (hdg : decode cc pc = .ok (.newarray atype, 2))
    (kk : ∀ H1 : Heap, H1.size = n + 1 → HH N0 D cs (hup h n (.inl (t, a0))) H1 → va_S (zA N0) s.heap H1 locs → W p l e R s m args below meth c H1 locs (cells + 1) (slots + N) Q (F0 m (pc + 2) ls (.ref n :: rest))) : W p l e R s m args below meth c H locs cells slots Q (F0 m pc ls (.int k :: rest)) := by
  subst hz
  refine va_newaK M.x M.b (M.ts _ harr) rfl hdg rfl hn hN hbytes hcells hslots rfl fun H1 cA e1 z1 o1 hAr hNm => ?_
  have hcA : cA = cs t := Option.some.inj (hNm.symm.trans (hty _ _ (M.k.2 t _ ht).2))
  subst hcA
  refine kk H1 z1 (hH.push (e := .inl (t, a0)) ?_ z1 o1) (zS_same hS (by omega) o1)
  show H1[H.size]? = some (vp_cell _ _)
  rw [ha]
  exact e1
theorem zi_newq (M : ZC p s m args meth c own nm cc nL rt N0 D cs) (hH : HH N0 D cs h H) (hS : va_S (zA N0) s.heap H locs) (hz : H.size = n) {t N index : Nat} {Cn : String} {k : Int32} (hover : va_AO Cn s) (ht : (z_tys cs)[t]? = some (cs t, .object Cn)) (hcl : Cond.classLink own index Cn ∈ zG) (hn : ¬ k < 0) (hN : k.toNatClampNeg = N) (hbytes : N * 4 ≤ 536870912) (hcells : cells + 1 ≤ R.cells) (hslots : slots + N ≤ R.slots) (hdg : decode cc pc = .ok (.anewarray index, 3))
    (kk : ∀ H1 : Heap, H1.size = n + 1 → HH N0 D cs (hup h n (.inl (t, N, .inr (.inr (.inr (.inr (fun _ => none))))))) H1 → va_S (zA N0) s.heap H1 locs → W p l e R s m args below meth c H1 locs (cells + 1) (slots + N) Q (F0 m (pc + 3) ls (.ref n :: rest))) : W p l e R s m args below meth c H locs cells slots Q (F0 m pc ls (.int k :: rest)) := by
  subst hN
  subst hz
  refine W.anew M.x M.b M.o (M.ts _ hcl) (va_AO.use hover) rfl hdg rfl hn hbytes hcells hslots fun cA kA comp f1 f2 f3 f4 => ?_
  obtain ⟨kA', comp', g1, g2, g3, g4⟩ := (M.k.2 t _ ht).2
  have hcA : cA = cs t := Option.some.inj (f1.symm.trans g4)
  subst hcA
  generalize hH1 : H.push ({ cls := cs t, slots := Array.replicate k.toNatClampNeg .null, vm := .none } : Cell) = H1
  have z1 : H1.size = H.size + 1 := by rw [← hH1, Array.size_push]
  have e1 : H1[H.size]? = some (arrV (cs t) k.toNatClampNeg (fun _ => .null)) := by rw [← hH1, Array.getElem?_push_size, ← arrV_new]
  have o1 : ∀ q : Nat, q < H.size → H1[q]? = H[q]? := fun q hq => by rw [← hH1, Array.getElem?_push, if_neg (Nat.ne_of_lt hq)]
  refine kk H1 z1 (hH.push (e := .inl (t, k.toNatClampNeg, .inr (.inr (.inr (.inr (fun _ => none)))))) ?_ z1 o1) (zS_same hS (by omega) o1)
  show H1[H.size]? = some (vp_cell _ _)
  rw [vp_cell_q]
  exact e1
theorem zi_put (M : ZC p s m args meth c own nm cc nL rt N0 D cs) (hH : HH N0 D cs h H) (hS : va_S (zA N0) s.heap H locs) (hz : H.size = n) {Cn : String} {T : u_T} {N ci k index a : Nat} {v : Value} {ty : FieldType} {h' : Hp} (hc : zcl[ci]? = some (Cn, T, N)) (hk : k < N) (hin : ∀ w ∈ u_ws Cn T N, w ∈ zG) (ty0 : Nat → FieldType) (hty : ∀ k, k < N → parseFieldDescriptor (T k).2.2.1 = some (ty0 k)) (hnm : ∀ a, a < N → ∀ b, b < N → a ≠ b → (T a).2.1 ≠ (T b).2.1) (hin2 : nm = "<init>") (hdecl : (T k).1 = own) (hl : Cond.fieldLink own index (T k).1 (T k).2.1 (T k).2.2.1 ∈ zG) (hd : ty0 k = ty) (hn : narrow ty v = v) (hfit : fits ty v = true) (hp : pV h a ci k v = some h') (hdg : decode cc pc = .ok (.putfield index, 3))
    (kk : ∀ (H1 : Heap) (locs1 : List Loc), H1.size = n → HH N0 D cs h' H1 → va_S (zA N0) s.heap H1 locs1 → W p l e R s m args below meth c H1 locs1 cells slots Q (F0 m (pc + 3) ls rest)) : W p l e R s m args below meth c H locs cells slots Q (F0 m pc ls (v :: .ref a :: rest)) := by
  subst hd
  obtain ⟨fs, he, hlen, rfl⟩ := pV_spec hp
  have hap := va_apart (own := own) M.ts hin ty0 hty hnm M.k hc
  obtain ⟨r, h1, cell, q1, q2, q3, q4⟩ := (hH.2 a _ he).2
  have hr : r = (Cn, T, N) := Option.some.inj (h1.symm.trans hc)
  subst hr
  obtain ⟨hSl, hfc, kC, hkC, hkind⟩ := M.k.1 ci _ hc
  obtain ⟨cf, kf, fi, f, hi, hsl⟩ := hSl k hk
  have hlay := M.ts _ (hin _ (u_in_lay hk))
  have hst := (u_facts hfc hkC (u_lays M.ts hin hk) hi).1
  unfold u_lay at hlay
  by_cases hfin : (T k).2.2.2 = true
  · rw [if_pos hfin] at hlay
    have hcf : m.cls = cf := by
      obtain ⟨_, _, c', _, _, _, -, -, hf', -, -, -, hown2, -⟩ := Cond.laysFinal_spec hlay
      have e1 : c' = cf := by have := hi.symm.trans hf'; simp at this; exact this.1.symm
      rw [hdecl] at hown2
      rw [← e1]; exact Option.some.inj (M.o.symm.trans hown2)
    have h6 := u_fits hfc hkC hkind (Or.inr hlay) hi (hty k hk) hn hfit
    refine W.putFinK M.x M.b M.o (M.ts _ hl) hi hst hcf (M.nam.trans hin2) (by rw [q2]; exact h6) q1 q3 (by rw [hsl]; exact k2_hasslot (q4 k hk)) rfl rfl hdg fun H' e1 e2 e3 => ?_
    rw [hsl] at e1 ⊢
    exact kk H' _ (e2.trans hz) (hH.set he (z_ob hc hap hk hlen q2 q3 q4 e1) e2 e3) (zS_put hS e2 e3 (hH.2 a _ he).1)
  · rw [if_neg hfin] at hlay
    have h6 := u_store hfc hkC hkind hlay hi (hty k hk) hn hfit
    refine W.putK M.x M.b (f := f) ⟨M.o, M.ts _ hl, ⟨_, _, _, hi⟩, hst⟩ (by rw [q2]; exact h6) q1 q3 (by rw [hsl]; exact k2_hasslot (q4 k hk)) rfl rfl hdg fun H' e1 e2 e3 => ?_
    rw [hsl] at e1 ⊢
    exact kk H' _ (e2.trans hz) (hH.set he (z_ob hc hap hk hlen q2 q3 q4 e1) e2 e3) (zS_put hS e2 e3 (hH.2 a _ he).1)
/-- a reference comes into an array of references -/
def sA (h : Hp) (t a ci : Nat) (i : Int32) (v : Nat) : Option Hp := match h a, h v with
  | some (.inl (t', n, .inr (.inr (.inr (.inr f))))), some (.inr o) => if t' = t ∧ o.1 = ci ∧ ¬ (i < 0 ∨ n ≤ i.toNatClampNeg) then some (hup h a (.inl (t, n, .inr (.inr (.inr (.inr (va_up f i.toNatClampNeg (some v)))))))) else none
  | _, _ => none
theorem sA_spec {h h' : Hp} {t a ci v : Nat} {i : Int32} (e : sA h t a ci i v = some h') : ∃ n f fs, h a = some (.inl (t, n, .inr (.inr (.inr (.inr f))))) ∧ h v = some (.inr (ci, fs)) ∧ vp_in i n ∧ h' = hup h a (.inl (t, n, .inr (.inr (.inr (.inr (va_up f i.toNatClampNeg (some v))))))) := by
  unfold sA at e
  split at e
  · rename_i t' n f o h0 h1
    obtain ⟨⟨q0, q1, q2⟩, h3⟩ := z_gd e
    obtain ⟨c, fs⟩ := o
    subst q0
    cases q1
    exact ⟨n, f, fs, h0, h1, q2, (Option.some.inj h3).symm⟩
  · cases e
theorem zi_aast (M : ZC p s m args meth c own nm cc nL rt N0 D cs) (hH : HH N0 D cs h H) (hS : va_S (zA N0) s.heap H locs) (hz : H.size = n) {t a ci v N : Nat} {i : Int32} {Cn : String} {T : u_T} {h' : Hp} (hc : zcl[ci]? = some (Cn, T, N)) (ht : (z_tys cs)[t]? = some (cs t, .object Cn)) (hv : sA h t a ci i v = some h') (hdg : decode cc pc = .ok (.aastore, 1))
    (kk : ∀ (H1 : Heap) (locs1 : List Loc), H1.size = n → HH N0 D cs h' H1 → va_S (zA N0) s.heap H1 locs1 → W p l e R s m args below meth c H1 locs1 cells slots Q (F0 m (pc + 1) ls rest)) : W p l e R s m args below meth c H locs cells slots Q (F0 m pc ls (.ref v :: .int i :: .ref a :: rest)) := by
  obtain ⟨nn, f, fs, ha, hvv, hin, rfl⟩ := sA_spec hv
  have hlt : i.toNatClampNeg < nn := Nat.not_le.mp fun q => hin (Or.inr q)
  have h0 : ¬ i < 0 := fun q => hin (Or.inl q)
  obtain ⟨r', hr', cellV, g1, g2, g3, -⟩ := (hH.2 v _ hvv).2
  have hcls := (M.k.1 ci _ hc).2
  obtain ⟨kA, comp, k1, k2, k3, -⟩ := (M.k.2 t _ ht).2
  have hcomp : comp = D.1 ci := Option.some.inj (k3.symm.trans hcls.1)
  subst hcomp
  obtain ⟨kC, hkC, -⟩ := hcls.2
  refine W.aast M.x M.b (hH.2 a _ ha).2 (fun q h => by cases h) (fun h => by cases h) k1 k2 rfl hkC ⟨h0, by show _ < (arrV _ _ _).slots.size; rw [arrV_size]; exact hlt⟩ g1 (fun q h => by rw [g3] at h; cases h) (by rw [g2]; exact hkC) (by rw [g2]; exact va_assign hcls) rfl rfl hdg fun H1 e1 z oq => ?_
  refine kk H1 _ (z.trans hz) (hH.set ha ?_ z oq) (zS_put hS z oq (hH.2 a _ ha).1)
  show H1[a]? = some (vp_cell _ _)
  rw [e1]
  show some ((vp_cell (cs t) (nn, .inr (.inr (.inr (.inr f))))).setSlot _ _) = _
  rw [vp_cell_q, vp_cell_q, arrV_store]
  congr 2
  funext q
  by_cases hq : q = i.toNatClampNeg
  · subst hq
    simp [updV, va_up, va_rf]
  · simp [updV, va_up, hq]
theorem zi_obj (M : ZC p s m args meth c own nm cc nL rt N0 D cs) {idx a : Nat} (w1 : Cond.methodLink own idx Lib.objectInit ∈ zG) (w2 : Cond.instanceMethod Lib.objectInit ∈ zG) (w3 : Cond.code Lib.objectInit ⟨#[0xb1]⟩ 1 none ∈ zG) (hls : ls.size = nL) (hR : 1 ≤ R.frames) (hL : (rest.map fun v => v.category).sum + 12 ≤ R.locals) (hdg : decode cc pc = .ok (.invokespecial idx, 3))
    (kk : W p l e R s m args below meth c H locs cells slots Q (F0 m (pc + 3) ls rest)) : W p l e R s m args below meth c H locs cells slots Q (F0 m pc ls (.ref a :: rest)) :=
  W.objInit (g := F0 m pc ls (.ref a :: rest)) M.x M.b M.o (M.ts _ w1) (M.ts _ w2) (M.ts _ w3) rfl (by rw [M.ml]; exact hls) rfl hdg hR (by show 2 * 0 + _ + 12 ≤ _; omega) kk
variable {y : MethodName} {bt : ByteArray} {mL nn k index mc ms n1 : Nat} {h' : Hp} {As : List Value}
theorem zi_after {a : Array Value} (hr : va_Run p l e R s m args below meth c H locs cells slots mc ms (F0 m pc ls st0) rest (zQI N0 D cs h' n1 a) (zA N0)) (hN : N0 ≤ s.heap.size) (hS : va_S (zA N0) s.heap H locs)
    (kk : ∀ (H1 : Heap) (locs1 : List Loc), H1.size = n1 → HH N0 D cs h' H1 → va_S (zA N0) s.heap H1 locs1 → W p l e R s m args below meth c H1 locs1 (cells + mc) (slots + ms) Q (F0 m (pc + 3) ls rest)) : W p l e R s m args below meth c H locs cells slots Q (F0 m pc ls st0) := by
  intro T hT X
  obtain ⟨v, st₀, t, T', L, h0, X', hL, e1, e2, ⟨hv, ⟨hHS, hn1⟩, hz, hk⟩, st⟩ := hr T hT X
  cases hv
  rw [h0] at hz hk
  obtain ⟨t2, a1, b1⟩ := kk T'.heap (locs ++ L) (by rw [e1]; exact hn1) (by rw [e1]; exact hHS.1)
    ⟨Nat.le_trans hS.1 (by rw [e1]; exact hz), fun q h1 h2 => by rw [e1, hk q (Nat.lt_of_lt_of_le h1 hS.1) h2]; exact hS.2.1 q h1 h2, fun q hq => by
      rcases List.mem_append.mp hq with h | h
      · exact hS.2.2 q h
      · exact hL q h⟩ T' rfl X'
  exact ⟨t2, st t2 a1, b1⟩
theorem zPI_blind {av : List Value} {n0 : Nat} : FrameBlind (zPI N0 D cs av h n0) := fun a U g mk q => ⟨q.1, HS.same (U := U) (V := U.calling g mk a) rfl rfl q.2.1, q.2.2.1, zAO.moved (U := U.calling g mk a) (Vm.Alike.refl U.vm) q.2.2.2⟩
theorem zi_pre (M : ZC p s m args meth c own nm cc nL rt N0 D cs) (hA : zAO s) (hH : HH N0 D cs h H) (hS : va_S (zA N0) s.heap H locs) (hz : H.size = n) {av : List Value} : PreS s H (zPI N0 D cs av h n) av := ⟨zPI_blind, fun U hU hW => ⟨rfl, ⟨by rw [hU]; exact hH, va_K.moved hW.alike M.k, M.nw.warm hW, M.st.warm hW (by rw [hU]; exact hS.2.1)⟩, by rw [hU]; exact hz, hA.moved hW.alike⟩⟩
theorem zi_call (M : ZC p s m args meth c own nm cc nL rt N0 D cs) (hA : zAO s) (hH : HH N0 D cs h H) (hS : va_S (zA N0) s.heap H locs) (hz : H.size = n) {b : Nat} (F : FnI l N0 D cs y bt mL nn mc ms (.ref b :: As) h n h' n1) (w : Cond.code y bt mL none ∈ zG ∧ Cond.instanceMethod y ∈ zG ∧ Cond.initialized y.cls ∈ zG ∧ zY y k) (w1 : Cond.methodLink own index y ∈ zG) (rest : List Value) (hy1 : y.name = "<init>") (hk : As.length = k) (hR : zR R nn mL) (hls : ls.size = nL) (hst : st0 = As.reverse ++ .ref b :: rest) (hrest : (rest.map fun v => v.category).sum ≤ 8) (hf : cells + mc ≤ R.cells ∧ slots + ms ≤ R.slots) (hdg : decode cc pc = .ok (.invokespecial index, 3))
    (kk : ∀ (H1 : Heap) (locs1 : List Loc), H1.size = n1 → HH N0 D cs h' H1 → va_S (zA N0) s.heap H1 locs1 → W p l e R s m args below meth c H1 locs1 (cells + mc) (slots + ms) Q (F0 m (pc + 3) ls rest)) : W p l e R s m args below meth c H locs cells slots Q (F0 m pc ls st0) :=
  zi_after (va_runI (As := As) (rest := rest) (z_fix M) F ⟨callB_of k M.ts (z_goodIn w.1) rfl rfl rfl (M.ts _ w.2.2.1) (M.ts _ w1) w.2.2.2 hR, hy1, M.ts _ w.2.1⟩ (zi_pre M hA hH hS hz) rfl hk hls hst (lv_room hrest) hdg hf) M.n hS kk
theorem zi_callN (M : ZC p s m args meth c own nm cc nL rt N0 D cs) (hA : zAO s) (hH : HH N0 D cs h H) (hS : va_S (zA N0) s.heap H locs) (hz : H.size = n) {b : Nat} {host : String} (F : FnI l N0 D cs y bt mL nn mc ms (.ref b :: As) h n h' n1) (w : Cond.code y bt mL none ∈ zG ∧ Cond.instanceMethod y ∈ zG ∧ Cond.initialized y.cls ∈ zG ∧ zY y k) (w1 : Cond.methodLinkNest own index y host ∈ zNw) (rest : List Value) (hy1 : y.name = "<init>") (hk : As.length = k) (hR : zR R nn mL) (hls : ls.size = nL) (hst : st0 = As.reverse ++ .ref b :: rest) (hrest : (rest.map fun v => v.category).sum ≤ 8) (hf : cells + mc ≤ R.cells ∧ slots + ms ≤ R.slots) (hdg : decode cc pc = .ok (.invokespecial index, 3))
    (kk : ∀ (H1 : Heap) (locs1 : List Loc), H1.size = n1 → HH N0 D cs h' H1 → va_S (zA N0) s.heap H1 locs1 → W p l e R s m args below meth c H1 locs1 (cells + mc) (slots + ms) Q (F0 m (pc + 3) ls rest)) : W p l e R s m args below meth c H locs cells slots Q (F0 m pc ls st0) :=
  zi_after (va_runIN (As := As) (rest := rest) (z_fix M) F ⟨va_cnB k M.ts (z_goodIn w.1) rfl rfl rfl (M.nw _ w1) (M.ts _ w.2.2.1) w.2.2.2 hR, hy1, M.ts _ w.2.1⟩ (zi_pre M hA hH hS hz) rfl hk hls hst (lv_room hrest) hdg hf) M.n hS kk
theorem zi_vret (M : ZC p s m args meth c own nm cc nL none N0 D cs) (hH : HH N0 D cs h H) (hS : va_S (zA N0) s.heap H locs) (hz : H.size = n) (hc : cells ≤ mc) (hs : slots ≤ ms) (hdg : decode cc pc = .ok (.return_, 1)) : W p l e R s m args below meth c H locs cells slots (MQ below (zQI N0 D cs h n) args s mc ms (zA N0)) (F0 m pc ls []) :=
  W.widen hc hs (W.vret M.x M.b M.r (fun t ht hW => ⟨rfl, ⟨⟨by rw [ht]; exact hH, va_K.moved hW.alike M.k, M.nw.warm hW, M.st.warm hW (by rw [ht]; exact hS.2.1)⟩, by rw [ht]; exact hz⟩, hS.F ht⟩) hS.2.2 hdg M.nl)
end ZI
