/-! ===== the reference: frames ===== -/
/-- fields, rows of ints, rows of longs, a row of booleans -/
abbrev St : Type := (Nat → Value) × (Nat → Nat → Int32) × (Nat → Nat → Int64) × (Nat → Int32)
def MA (h : Hp) (m : Nat) (s : St) : Prop := (∀ k, k < 5 → h (m + 8 + k) = some (.inl (0, 8, .inl (s.2.1 k)))) ∧ (∀ k, k < 2 → h (m + 13 + k) = some (.inl (1, 8, .inr (.inl (s.2.2.1 k))))) ∧ h (m + 15) = some (.inl (2, 8, .inl s.2.2.2))
/-- the reference with books p b and the number at base -/
def MX (h : Hp) (m base n : Nat) (p b W M : Nat → Nat) (s : St) : Prop := h m = some (ocell 8 40 s.1) ∧ mRef s.1 m ∧ mTy s.1 ∧ (∃ z : Int32, s.1 17 = .int z) ∧ MB h m p b ∧ MN h m base n W M ∧ MA h m s
/-- what the working out of a number leaves as it was; frames below f too -/
def MEq (F F' : Nat → Value) : Prop := ∀ k, k ≠ 14 → k ≠ 15 → k ≠ 16 → k ≠ 17 → k ≠ 26 → k ≠ 27 → F' k = F k
def MC (h h' : Hp) (m : Nat) : Prop := ∀ c, c ≠ m → ¬ (m + 8 ≤ c ∧ c < m + 16) → h' c = h c
def Low (f : Nat) (s s' : St) : Prop := (∀ k j, k < 5 → j < f → s'.2.1 k j = s.2.1 k j) ∧ (∀ k j, k < 2 → j < f → s'.2.2.1 k j = s.2.2.1 k j) ∧ ∀ j, j < f → s'.2.2.2 j = s.2.2.2 j
def Sq (f : Nat) (h : Hp) (s : St) (h' : Hp) (s' : St) (m : Nat) : Prop := MEq s.1 s'.1 ∧ Low f s s' ∧ MC h h' m
theorem Sq.refl {f m : Nat} {h : Hp} {s : St} : Sq f h s h s m := ⟨fun _ _ _ _ _ _ _ => rfl, ⟨fun _ _ _ _ => rfl, fun _ _ _ _ => rfl, fun _ _ => rfl⟩, fun _ _ _ => rfl⟩
theorem Sq.trans {f m : Nat} {h h1 h2 : Hp} {s s1 s2 : St} (A : Sq f h s h1 s1 m) (B : Sq f h1 s1 h2 s2 m) : Sq f h s h2 s2 m :=
  ⟨fun k a b c d e g => by rw [B.1 k a b c d e g, A.1 k a b c d e g], ⟨fun k j a b => by rw [B.2.1.1 k j a b, A.2.1.1 k j a b], fun k j a b => by rw [B.2.1.2.1 k j a b, A.2.1.2.1 k j a b], fun j a => by rw [B.2.1.2.2 j a, A.2.1.2.2 j a]⟩, fun c a b => by rw [B.2.2 c a b, A.2.2 c a b]⟩
theorem Sq.weak {f g m : Nat} {h h1 : Hp} {s s1 : St} (A : Sq g h s h1 s1 m) (hf : f ≤ g) : Sq f h s h1 s1 m :=
  ⟨A.1, ⟨fun k j a b => A.2.1.1 k j a (by omega), fun k j a b => A.2.1.2.1 k j a (by omega), fun j a => A.2.1.2.2 j (by omega)⟩, A.2.2⟩
theorem mRef.eq {F F' : Nat → Value} {m : Nat} (H : mRef F m) (e : MEq F F') : mRef F' m := by
  refine ⟨?_, ?_, ?_, ?_, fun k hk => ?_⟩
  · rw [e 0 (by decide) (by decide) (by decide) (by decide) (by decide) (by decide)]; exact H.1
  · rw [e 1 (by decide) (by decide) (by decide) (by decide) (by decide) (by decide)]; exact H.2.1
  · rw [e 3 (by decide) (by decide) (by decide) (by decide) (by decide) (by decide)]; exact H.2.2.1
  · rw [e 4 (by decide) (by decide) (by decide) (by decide) (by decide) (by decide)]; exact H.2.2.2.1
  · rw [e (18 + k) (by omega) (by omega) (by omega) (by omega) (by omega) (by omega)]; exact H.2.2.2.2 k hk
theorem MB.cong {h h' : Hp} {m : Nat} {p b : Nat → Nat} (H : MB h m p b) {F : Nat → Value} (e0 : h' m = some (ocell 8 40 F)) (hR : mRef F m) (e : ∀ c, m < c → c < m + 8 → h' c = h c) : MB h' m p b :=
  MB.of e0 hR (H.2.1.cong (e _ (by omega) (by omega))) (H.2.2.1.cong (e _ (by omega) (by omega))) H.2.2.2.1 H.2.2.2.2
theorem MN.cong {h h' : Hp} {m base n : Nat} {W M : Nat → Nat} (H : MN h m base n W M) (e : ∀ c, m < c → c < m + 8 → h' c = h c) : MN h' m base n W M := by
  obtain ⟨h0, KF, MF, h1, h2, h3⟩ := H
  exact ⟨h0, KF, MF, by rw [e _ (by omega) (by omega)]; exact h1, by rw [e _ (by omega) (by omega)]; exact h2, h3⟩
section
variable {h : Hp} {m base n : Nat} {p b W M : Nat → Nat} {s : St} {F' : Nat → Value}
theorem MX.o (H : MX h m base n p b W M s) : isO h m 8 = true := oc_o H.1
theorem MX.obj (H : MX h m base n p b W M s) (e : MEq s.1 F') (t : mTy F') (z : ∃ z : Int32, F' 17 = .int z) : MX (hup h m (ocell 8 40 F')) m base n p b W M (F', s.2) := by
  have hR := H.2.1.eq e
  refine ⟨hup_s, hR, t, z, H.2.2.2.2.1.cong hup_s hR (fun c a _ => hup_n (by omega)), H.2.2.2.2.2.1.cong (fun c a _ => hup_n (by omega)), ?_, ?_, ?_⟩
  · intro k hk; rw [hup_n (by omega)]; exact H.2.2.2.2.2.2.1 k hk
  · intro k hk; rw [hup_n (by omega)]; exact H.2.2.2.2.2.2.2.1 k hk
  · rw [hup_n (by omega)]; exact H.2.2.2.2.2.2.2.2
theorem MX.s_obj {f : Nat} (e : MEq s.1 F') : Sq f h s (hup h m (ocell 8 40 F')) (F', s.2) m := ⟨e, ⟨fun _ _ _ _ => rfl, fun _ _ _ _ => rfl, fun _ _ => rfl⟩, fun _ a _ => hup_n a⟩
/-- a row of ints anew -/
def iset {α : Type} (I : Nat → Nat → α) (k : Nat) (f : Nat → α) : Nat → Nat → α := fun j => if j = k then f else I j
theorem iset_s {α : Type} {I : Nat → Nat → α} {k : Nat} {f : Nat → α} : iset I k f k = f := by simp [iset]
theorem iset_n {α : Type} {I : Nat → Nat → α} {k j : Nat} {f : Nat → α} (h : j ≠ k) : iset I k f j = I j := by simp [iset, h]
theorem MX.int (H : MX h m base n p b W M s) {k j : Nat} (hk : k < 5) (hj : j < 8) (x : Int32) : ∃ e, sI h (m + 8 + k) (nI j) x = some (hup h (m + 8 + k) e) ∧ MX (hup h (m + 8 + k) e) m base n p b W M (s.1, iset s.2.1 k (upd (s.2.1 k) j x), s.2.2) ∧ Sq j h s (hup h (m + 8 + k) e) (s.1, iset s.2.1 k (upd (s.2.1 k) j x), s.2.2) m := by
  obtain ⟨h0, h1, h2, h3, h4, h5, h6, h7, h8⟩ := H
  refine ⟨_, ai_set (h6 k hk) hj (by decide), ⟨by rw [hup_n (by omega)]; exact h0, h1, h2, h3, h4.cong (F := s.1) (by rw [hup_n (by omega)]; exact h0) h1 (fun c _ _ => hup_n (by omega)), h5.cong (fun c _ _ => hup_n (by omega)), ?_, ?_, ?_⟩, fun _ _ _ _ _ _ _ => rfl, ⟨?_, fun _ _ _ _ => rfl, fun _ _ => rfl⟩, fun c _ a => hup_n (fun e => a ⟨by omega, by omega⟩)⟩
  · intro q hq
    by_cases e : q = k
    · subst e; rw [hup_s]; dsimp only; rw [iset_s]
    · rw [hup_n (by omega)]; dsimp only; rw [iset_n e]; exact h6 q hq
  · intro q hq; rw [hup_n (by omega)]; exact h7 q hq
  · rw [hup_n (by omega)]; exact h8
  · intro q i hq hi
    by_cases e : q = k
    · subst e
      show iset _ _ _ _ _ = _
      rw [iset_s, pk_un (by omega)]
    · show iset _ _ _ _ _ = _
      rw [iset_n e]
theorem MX.long (H : MX h m base n p b W M s) {k j : Nat} (hk : k < 2) (hj : j < 8) (x : Int64) : ∃ e, sL h (m + 13 + k) (nI j) x = some (hup h (m + 13 + k) e) ∧ MX (hup h (m + 13 + k) e) m base n p b W M (s.1, s.2.1, iset s.2.2.1 k (vp_updL (s.2.2.1 k) j x), s.2.2.2) ∧ Sq j h s (hup h (m + 13 + k) e) (s.1, s.2.1, iset s.2.2.1 k (vp_updL (s.2.2.1 k) j x), s.2.2.2) m := by
  obtain ⟨h0, h1, h2, h3, h4, h5, h6, h7, h8⟩ := H
  refine ⟨.inl (1, 8, .inr (.inl (vp_updL (s.2.2.1 k) j x))), ?_, ⟨by rw [hup_n (by omega)]; exact h0, h1, h2, h3, h4.cong (F := s.1) (by rw [hup_n (by omega)]; exact h0) h1 (fun c _ _ => hup_n (by omega)), h5.cong (fun c _ _ => hup_n (by omega)), ?_, ?_, ?_⟩, fun _ _ _ _ _ _ _ => rfl, ⟨fun _ _ _ _ => rfl, ?_, fun _ _ => rfl⟩, fun c _ a => hup_n (fun e => a ⟨by omega, by omega⟩)⟩
  · unfold sL
    rw [h7 k hk]
    simp only []
    rw [if_pos ⟨trivial, nI_in hj (by decide)⟩, nI_clamp (by omega)]
  · intro q hq; rw [hup_n (by omega)]; exact h6 q hq
  · intro q hq
    by_cases e : q = k
    · subst e; rw [hup_s]; dsimp only; rw [iset_s]
    · rw [hup_n (by omega)]; dsimp only; rw [iset_n e]; exact h7 q hq
  · rw [hup_n (by omega)]; exact h8
  · intro q i hq hi
    by_cases e : q = k
    · subst e
      show iset _ _ _ _ _ = _
      rw [iset_s, pk_uLn (by omega)]
    · show iset _ _ _ _ _ = _
      rw [iset_n e]
theorem MX.bool (H : MX h m base n p b W M s) {j : Nat} (hj : j < 8) (t : Bool) : ∃ e, sZ h (m + 15) (nI j) (bI t) = some (hup h (m + 15) e) ∧ MX (hup h (m + 15) e) m base n p b W M (s.1, s.2.1, s.2.2.1, upd s.2.2.2 j (bI t)) ∧ Sq j h s (hup h (m + 15) e) (s.1, s.2.1, s.2.2.1, upd s.2.2.2 j (bI t)) m := by
  obtain ⟨h0, h1, h2, h3, h4, h5, h6, h7, h8⟩ := H
  refine ⟨.inl (2, 8, .inl (upd s.2.2.2 j (bI t))), ?_, ⟨by rw [hup_n (by omega)]; exact h0, h1, h2, h3, h4.cong (F := s.1) (by rw [hup_n (by omega)]; exact h0) h1 (fun c _ _ => hup_n (by omega)), h5.cong (fun c _ _ => hup_n (by omega)), ?_, ?_, hup_s⟩, fun _ _ _ _ _ _ _ => rfl, ⟨fun _ _ _ _ => rfl, fun _ _ _ _ => rfl, fun i hi => pk_un (by omega)⟩, fun c _ a => hup_n (fun e => a ⟨by omega, by omega⟩)⟩
  · unfold sZ
    rw [h8]
    simp only []
    rw [if_pos ⟨trivial, nI_in hj (by decide)⟩, nI_clamp (by omega), show vp_nar .boolean (bI t) = bI t by cases t <;> decide +kernel]
  · intro q hq; rw [hup_n (by omega)]; exact h6 q hq
  · intro q hq; rw [hup_n (by omega)]; exact h7 q hq
/-- readings -/
theorem MX.r (H : MX h m base n p b W M s) {k : Nat} (hk : k < 8) : gA h m 8 (18 + k) = some (some (m + 8 + k)) := oc_a H.1 (by omega) (H.2.1.2.2.2.2 k hk)
theorem MX.r3 (H : MX h m base n p b W M s) : gA h m 8 3 = some (some (m + 3)) := oc_a H.1 (by omega) H.2.1.2.2.1
theorem MX.r4 (H : MX h m base n p b W M s) : gA h m 8 4 = some (some (m + 4)) := oc_a H.1 (by omega) H.2.1.2.2.2.1
theorem MX.gi (H : MX h m base n p b W M s) {k j : Nat} (hk : k < 5) (hj : j < 8) : aI h 0 (m + 8 + k) (nI j) = some (s.2.1 k j) := ai_get (H.2.2.2.2.2.2.1 k hk) hj (by decide)
theorem MX.gz (H : MX h m base n p b W M s) {j : Nat} (hj : j < 8) : aI h 2 (m + 15) (nI j) = some (s.2.2.2 j) := ai_get H.2.2.2.2.2.2.2.2 hj (by decide)
theorem MX.gl (H : MX h m base n p b W M s) {k j : Nat} (hk : k < 2) (hj : j < 8) : aL h (m + 13 + k) (nI j) = some (s.2.2.1 k j) := by
  unfold aL
  rw [H.2.2.2.2.2.2.2.1 k hk]
  simp only []
  rw [if_pos ⟨trivial, nI_in hj (by decide)⟩, nI_clamp (by omega)]
theorem MX.kw (H : MX h m base n p b W M s) {i : Nat} (hi : i < n) : aI h 0 (m + 3) (nI (base + i)) = some (nI (W i)) := by
  obtain ⟨h0, KF, MF, h1, h2, h3⟩ := H.2.2.2.2.2.1
  rw [ai_get h1 (by omega) (by decide), (h3 i hi).1]
theorem MX.mw (H : MX h m base n p b W M s) {i : Nat} (hi : i < n) (hw : 6 ≤ W i ∧ W i < 10) : aI h 0 (m + 4) (nI (base + i)) = some (nI (base + M i)) := by
  obtain ⟨h0, KF, MF, h1, h2, h3⟩ := H.2.2.2.2.2.1
  rw [ai_get h2 (by omega) (by decide), (h3 i hi).2.2 hw]
theorem MX.bs (H : MX h m base n p b W M s) : base + n ≤ 320 := H.2.2.2.2.2.1.1
theorem meq26 {F : Nat → Value} {v : Value} : MEq F (fset F 26 v) := fun k _ _ _ _ a _ => fset_n a
theorem meq27 {F : Nat → Value} {v : Value} : MEq F (fset F 27 v) := fun k _ _ _ _ _ a => fset_n a
/-- a field among 26, 27 anew -/
theorem MX.fld (H : MX h m base n p b W M s) {k : Nat} (hk : k = 26 ∨ k = 27) (x : Int32) : pV h m 8 k (.int x) = some (hup h m (ocell 8 40 (fset s.1 k (.int x)))) ∧ MX (hup h m (ocell 8 40 (fset s.1 k (.int x)))) m base n p b W M (fset s.1 k (.int x), s.2) ∧ ∀ f, Sq f h s (hup h m (ocell 8 40 (fset s.1 k (.int x)))) (fset s.1 k (.int x), s.2) m := by
  have e : MEq s.1 (fset s.1 k (.int x)) := by
    rcases hk with rfl | rfl
    · exact meq26
    · exact meq27
  refine ⟨oc_p H.1 (by omega), H.obj e (mTy_set H.2.2.1 (by omega)) ?_, fun f => MX.s_obj e⟩
  obtain ⟨z, hz⟩ := H.2.2.2.1
  exact ⟨z, by rw [fset_n (by omega)]; exact hz⟩
/-- push -/
theorem M_push (H : MX h m base n p b W M s) {f i a z set : Nat} (hf : f < 8) (h26 : s.1 26 = .int (nI f)) (hi : i < n) (hW : W i < 13) : ∃ h' s', f_M_push m (nI (base + i)) (nI a) (nI z) (nI set) h = some h' ∧ MX h' m base n p b W M s' ∧ Sq f h s h' s' m ∧ s'.1 = fset s.1 26 (.int (nI (f + 1))) ∧ s'.2.1 0 f = nI (base + i) ∧ s'.2.1 1 f = nI a ∧ s'.2.1 2 f = nI z ∧ s'.2.1 3 f = nI set ∧ s'.2.1 4 f = if W i = 11 then nI a else nI 0 := by
  obtain ⟨e0, E0, H0, S0⟩ := H.int (k := 0) (j := f) (by decide) hf (nI (base + i))
  obtain ⟨e1, E1, H1, S1⟩ := H0.int (k := 1) (j := f) (by decide) hf (nI a)
  obtain ⟨e2, E2, H2, S2⟩ := H1.int (k := 2) (j := f) (by decide) hf (nI z)
  obtain ⟨e3, E3, H3, S3⟩ := H2.int (k := 3) (j := f) (by decide) hf (nI set)
  obtain ⟨e4, E4, H4, S4⟩ := H3.int (k := 4) (j := f) (by decide) hf (if W i = 11 then nI a else nI 0)
  obtain ⟨E5, H5, S5⟩ := H4.fld (k := 26) (Or.inl rfl) (nI (f + 1))
  have g : ∀ {h : Hp} {s : St} (H : MX h m base n p b W M s), s.1 26 = .int (nI f) → gI h m 8 26 = some (nI f) := fun H e => oc_i H.1 (by decide) e
  refine ⟨_, _, ?_, H5, ((((S0.trans S1).trans S2).trans S3).trans S4).trans (S5 f), rfl, ?_, ?_, ?_, ?_, ?_⟩
  · unfold f_M_push
    rw [if_pos H.o, show gA h m 8 18 = some (some (m + 8 + 0)) from H.r (k := 0) (by decide), g H h26]
    simp only [Option.bind_some]
    rw [E0]
    simp only [Option.bind_some]
    rw [show gA (hup h (m + 8 + 0) e0) m 8 19 = some (some (m + 8 + 1)) from H0.r (k := 1) (by decide), g H0 h26]
    simp only [Option.bind_some]
    rw [E1]
    simp only [Option.bind_some]
    rw [show gA _ m 8 20 = some (some (m + 8 + 2)) from H1.r (k := 2) (by decide), g H1 h26]
    simp only [Option.bind_some]
    rw [E2]
    simp only [Option.bind_some]
    rw [show gA _ m 8 21 = some (some (m + 8 + 3)) from H2.r (k := 3) (by decide), g H2 h26]
    simp only [Option.bind_some]
    rw [E3]
    simp only [Option.bind_some]
    rw [show gA _ m 8 22 = some (some (m + 8 + 4)) from H3.r (k := 4) (by decide), g H3 h26, H3.r3]
    simp only [Option.bind_some]
    rw [H3.kw hi]
    simp only [Option.bind_some]
    unfold f_M_push_65
    by_cases c : W i = 11
    · rw [if_pos (show nI (W i) = (11 : Int32) by rw [c]; rfl)]
      rw [if_pos c] at E4
      rw [E4]
      simp only [Option.bind_some]
      rw [g H4 h26]
      simp only [Option.bind_some]
      rw [nI_1, E5]
      rfl
    · have hb := H.bs
      have : ¬ nI (W i) = (11 : Int32) := by
        intro q
        exact c ((nI_eq (by omega) (by decide)).mp (show nI (W i) = nI 11 from q))
      rw [if_neg this]
      rw [if_neg c] at E4
      rw [show (0 : Int32) = nI 0 from rfl, E4]
      simp only [Option.bind_some]
      rw [g H4 h26]
      simp only [Option.bind_some]
      rw [nI_1, E5]
      rfl
  all_goals simp [iset, pk_us]
end
