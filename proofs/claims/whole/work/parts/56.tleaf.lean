/-! ===== the teller: words without parts ===== -/
theorem nI_m1 {u : Nat} (h : u < 2 ^ 31) : ¬ nI u = -1 := by
  intro e
  have := congrArg Int32.toInt e
  rw [nI_toInt h] at this
  have h2 : (-1 : Int32).toInt = -1 := by decide
  omega
/-- a plan of n words -/
def PL (h : Hp) (P n : Nat) (W M : Nat → Nat) : Prop := h P = some (.inr (4, [.ref (P + 1), .ref (P + 2), .int (nI n)])) ∧ n ≤ 20 ∧ ∃ WF MF : Nat → Int32, h (P + 1) = some (.inl (0, 20, .inl WF)) ∧ h (P + 2) = some (.inl (0, 20, .inl MF)) ∧ ∀ k, k < n → WF k = nI (W k) ∧ (W k = 3 ∨ (6 ≤ W k ∧ W k < 10) → MF k = nI (M k))
theorem i20 : (20 : Int32) = nI 20 := rfl
section
variable {h : Hp} {P n i : Nat} {W M : Nat → Nat}
theorem P_wordAt (H : PL h P n W M) (hi : i < n) : f_P_wordAt P h (nI i) = some (nI (W i)) := by
  obtain ⟨h0, hn, WF, MF, h1, h2, h3⟩ := H
  unfold f_P_wordAt
  rw [if_pos (by simp [isO, h0]), if_neg (nI_pos (by omega)), show gI h P 4 2 = some (nI n) by simp [gI, gV, h0]]
  simp only [Option.bind_some]
  rw [if_neg (nI_ge hi (by omega)), if_pos (by rw [i20]; exact nI_lt (by omega) (by omega)), show gA h P 4 0 = some (some (P + 1)) by simp [gA, gV, h0]]
  simp only [Option.bind_some]
  rw [ai_get h1 (by omega) (by decide), (h3 i hi).1]
  rfl
theorem P_markAt (H : PL h P n W M) (hi : i < n) (hw : W i = 3 ∨ (6 ≤ W i ∧ W i < 10)) : f_P_markAt P h (nI i) = some (nI (M i)) := by
  obtain ⟨h0, hn, WF, MF, h1, h2, h3⟩ := H
  unfold f_P_markAt
  rw [if_pos (by simp [isO, h0]), if_neg (nI_pos (by omega)), show gI h P 4 2 = some (nI n) by simp [gI, gV, h0]]
  simp only [Option.bind_some]
  rw [if_neg (nI_ge hi (by omega)), if_pos (by rw [i20]; exact nI_lt (by omega) (by omega)), show gA h P 4 1 = some (some (P + 2)) by simp [gA, gV, h0]]
  simp only [Option.bind_some]
  rw [ai_get h2 (by omega) (by decide), (h3 i hi).2 hw]
  rfl
end
/-- what a teller stands on: books B, plan P, the person w -/
def TW (h : Hp) (T B P w n : Nat) (p q W M : Nat → Nat) : Prop := h T = some (.inr (6, [.ref (T + 1), .ref B, .ref P, .int (nI w)])) ∧ (∃ F : Nat → Option Nat, h (T + 1) = some (.inl (3, 9, .inr (.inr (.inr (.inr F))))) ∧ ∀ k, k < 9 → F k = some (T + 2 + k)) ∧ BK h B p q ∧ PL h P n W M ∧ w < 4
theorem not_fx_o {h : Hp} {c ci : Nat} {fs : List Value} (e : h c = some (.inr (ci, fs))) (hc : ci ≠ 1) : ¬ FX h c := by
  rintro ⟨u, l, t, f, g⟩
  rw [e] at g
  cases g
  exact hc rfl
theorem not_fx_a {h : Hp} {c : Nat} {x : Nat × vp_A} (e : h c = some (.inl x)) : ¬ FX h c := by
  rintro ⟨u, l, t, f, g⟩
  rw [e] at g
  cases g
/-- cells that are no fractions are as they were -/
def NX (h h' : Hp) : Prop := ∀ c, ¬ FX h c → h' c = h c
theorem IA.nx {h h' : Hp} {a n : Nat} {f : Nat → Nat} (H : IA h a n f) (e : NX h h') : IA h' a n f := by
  obtain ⟨F, H1, H2⟩ := H
  exact ⟨F, by rw [e _ (not_fx_a H1)]; exact H1, H2⟩
theorem BK.nx {h h' : Hp} {a : Nat} {p q : Nat → Nat} (H : BK h a p q) (e : NX h h') : BK h' a p q :=
  ⟨by rw [e _ (not_fx_o H.1 (by decide))]; exact H.1, H.2.1.nx e, H.2.2.1.nx e, H.2.2.2⟩
theorem PL.nx {h h' : Hp} {P n : Nat} {W M : Nat → Nat} (H : PL h P n W M) (e : NX h h') : PL h' P n W M := by
  obtain ⟨h0, hn, WF, MF, h1, h2, h3⟩ := H
  exact ⟨by rw [e _ (not_fx_o h0 (by decide))]; exact h0, hn, WF, MF, by rw [e _ (not_fx_a h1)]; exact h1, by rw [e _ (not_fx_a h2)]; exact h2, h3⟩
theorem TW.nx {h h' : Hp} {T B P w n : Nat} {p q W M : Nat → Nat} (H : TW h T B P w n p q W M) (e : NX h h') : TW h' T B P w n p q W M := by
  obtain ⟨h0, ⟨F, h1, h1'⟩, h2, h3, h4⟩ := H
  exact ⟨by rw [e _ (not_fx_o h0 (by decide))]; exact h0, ⟨F, by rw [e _ (not_fx_a h1)]; exact h1, h1'⟩, h2.nx e, h3.nx e, h4⟩
theorem FX.up {h : Hp} {a c : Nat} {r : QR} (H : FX h c) : FX (hup h a (frE r)) c := by
  by_cases e : c = a
  · subst e
    exact FR.x (r := r) hup_s
  · obtain ⟨u, l, t, f, g⟩ := H
    exact ⟨u, l, t, f, by rw [hup_n e]; exact g⟩
theorem NX.up {h : Hp} {a : Nat} {e : zE} (H : FX h a) : NX h (hup h a e) := fun c hc => hup_n (fun q => hc (q ▸ H))
section
variable {h : Hp} {T B P w n : Nat} {p q W M : Nat → Nat}
theorem TW.o (H : TW h T B P w n p q W M) : isO h T 6 = true := by simp [isO, H.1]
theorem TW.g0 (H : TW h T B P w n p q W M) : gA h T 6 0 = some (some (T + 1)) := by simp [gA, gV, H.1]
theorem TW.g1 (H : TW h T B P w n p q W M) : gA h T 6 1 = some (some B) := by simp [gA, gV, H.1]
theorem TW.g2 (H : TW h T B P w n p q W M) : gA h T 6 2 = some (some P) := by simp [gA, gV, H.1]
theorem TW.g3 (H : TW h T B P w n p q W M) : gI h T 6 3 = some (nI w) := by simp [gI, gV, H.1]
theorem TW.bk (H : TW h T B P w n p q W M) : BK h B p q := H.2.2.1
theorem TW.pl (H : TW h T B P w n p q W M) : PL h P n W M := H.2.2.2.1
theorem TW.w4 (H : TW h T B P w n p q W M) : w < 4 := H.2.2.2.2
theorem an_any {a t m : Nat} {x : (Nat → Int32) ⊕ (Nat → Int64) ⊕ _ ⊕ _ ⊕ (Nat → Option Nat)} (H : h a = some (.inl (t, m, x))) (ht : t < 5) : aN h a = some (nI m) := by
  unfold aN
  rw [H]
  simp only []
  rw [if_pos ht]; rfl
theorem T_spareAt (H : TW h T B P w n p q W M) {d : Nat} (hd : d < 9) : f_T_spareAt T h (nI d) = some (some (T + 2 + d)) := by
  obtain ⟨F, h1, h2⟩ := H.2.1
  unfold f_T_spareAt
  rw [if_pos H.o, if_neg (nI_pos (by omega)), H.g0]
  simp only [Option.bind_some]
  rw [an_any h1 (by decide)]
  simp only [Option.bind_some]
  rw [if_pos (nI_lt hd (by decide))]
  unfold aA
  rw [h1]
  simp only []
  rw [if_pos ⟨trivial, nI_in hd (by decide)⟩, nI_clamp (by omega), h2 d hd]
  rfl
/-- what a person bought -/
def amq (q : Nat → Nat) (w z g : Nat) : Nat := q ((w * 8 + z) * 5 + g)
theorem cI_w {x : Option Nat} : (cI x).toInt64 = match x with | some u => (nI u).toInt64 | none => -1 := by
  cases x with
  | none => decide
  | some u => rfl
theorem T_277 {out : Nat} {x y : Option Nat} (H : FX h out) (hx : ∀ u, x = some u → u ≤ 1000000) (hy : ∀ u, y = some u → u ≤ 1000000) : f_T_tellCosts_277 T out (cI x) (cI y) h = some (hup h out (frE (frc2 x y))) := by
  unfold f_T_tellCosts_277
  have key : f_F_put out (cI x).toInt64 (cI y).toInt64 h = some (hup h out (frE (frc2 x y))) := by
    cases x with
    | none =>
      rw [F_putN H (Or.inl (by decide))]
      rfl
    | some u =>
      have hu := hx u rfl
      cases y with
      | none =>
        rw [F_putN H (Or.inr (by decide))]
        rfl
      | some l =>
        have hl := hy l rfl
        show f_F_put out (nI u).toInt64 (nI l).toInt64 h = _
        rw [nI_l (by omega), nI_l (by omega)]
        unfold frc2
        by_cases h0 : l = 0
        · subst h0
          rw [F_putN H (Or.inr (by decide))]
          rfl
        · simp only []
          rw [if_neg h0]
          exact F_put H (by omega) (by omega) (by omega)
  rw [key]
  rfl
theorem T_tog {x y : Option Nat} (hx : ∀ u, x = some u → u ≤ 1000000) (hy : ∀ u, y = some u → u ≤ 1000000) : f_T_together (cI x) (cI y) = some (cI (oadd x y)) := by
  unfold f_T_together
  cases x with
  | none => rfl
  | some u =>
    have hu := hx u rfl
    rw [if_neg (show ¬ cI (some u) = -1 from nI_m1 (by omega))]
    cases y with
    | none => rfl
    | some v =>
      have hv := hy v rfl
      rw [if_neg (show ¬ cI (some v) = -1 from nI_m1 (by omega))]
      show some (nI u + nI v) = _
      rw [nI_add]
      rfl
theorem oadd_le {x y : Option Nat} (hx : ∀ u, x = some u → u ≤ 53460) (hy : ∀ u, y = some u → u ≤ 53460) : ∀ u, oadd x y = some u → u ≤ 1000000 := by
  intro u e
  cases x with
  | none => cases e
  | some a =>
    cases y with
    | none => cases e
    | some b =>
      have := hx a rfl
      have := hy b rfl
      cases e
      omega
theorem le_m {x : Option Nat} (hx : ∀ u, x = some u → u ≤ 53460) : ∀ u, x = some u → u ≤ 1000000 := fun u e => by have := hx u e; omega
theorem msk_le {set m : Nat} {f : Nat → Nat} (hf : ∀ g, g < 5 → f g ≤ m) : ∀ g, g < 5 → msk set f g ≤ m := by
  intro g hg
  unfold msk
  split
  · exact hf g hg
  · omega
theorem BK.cost_le (H : BK h B p q) {y z set : Nat} (hw : w < 4) (hy : y < 8) (hz : z < 8) : ∀ u, cst (fun g => p (y * 5 + g)) (msk set (amq q w z)) = some u → u ≤ 53460 :=
  fun _ e => cst_le (fun g hg => H.2.2.2.1 _ (by omega)) (msk_le fun g hg => H.2.2.2.2 _ (by omega)) e
theorem BK.cost1_le (H : BK h B p q) {y set : Nat} (hy : y < 8) : ∀ u, cst (fun g => p (y * 5 + g)) (msk set fun _ => 1) = some u → u ≤ 53460 :=
  fun _ e => cst_le (fun g hg => H.2.2.2.1 _ (by omega)) (msk_le fun g hg => by omega) e
theorem T_costs (H : TW h T B P w n p q W M) {i a b set out : Nat} (hi : i < n) (hW : W i < 6) (h4 : W i ≠ 4) (hM : W i = 3 → M i < 8) (ha : a < 8) (hb : b < 8) (hs : set < 32) (ho : FX h out) : f_T_tellCosts T (nI i) (nI a) (nI b) (nI set) out h = some (hup h out (frE (lfq p (amq q w) (W i) (M i) a b set))) := by
  have hw := H.w4
  have hbk := H.bk
  unfold f_T_tellCosts lfq
  rw [if_pos H.o, H.g2]
  simp only [Option.bind_some]
  rw [P_wordAt H.pl hi]
  simp only [Option.bind_some]
  have cs : ∀ y z, y < 8 → z < 8 → f_B_costOver B h (nI set) (nI w) (nI y) (nI z) = some (cI (cst (fun g => p (y * 5 + g)) (msk set (amq q w z)))) := fun y z hy hz => B_costOver hbk hw hy hz hs
  have cl : ∀ y z, y < 8 → z < 8 → ∀ u, cst (fun g => p (y * 5 + g)) (msk set (amq q w z)) = some u → u ≤ 53460 := fun y z hy hz => hbk.cost_le hw hy hz
  rcases (by omega : W i = 0 ∨ W i = 1 ∨ W i = 2 ∨ W i = 3 ∨ W i = 5) with e | e | e | e | e
  · rw [e, if_pos (by decide), if_pos rfl, H.g1, H.g3]
    simp only [Option.bind_some]
    rw [cs b a hb ha]
    simp only [Option.bind_some]
    rw [cs a a ha ha]
    simp only [Option.bind_some]
    exact T_277 ho (le_m (cl b a hb ha)) (le_m (cl a a ha ha))
  · rw [e, if_neg (by decide), if_pos (by decide), if_neg (by decide), if_pos rfl, H.g1, H.g3]
    simp only [Option.bind_some]
    rw [cs b b hb hb]
    simp only [Option.bind_some]
    rw [cs a b ha hb]
    simp only [Option.bind_some]
    exact T_277 ho (le_m (cl b b hb hb)) (le_m (cl a b ha hb))
  · rw [e, if_neg (by decide), if_neg (by decide), if_pos (by decide), if_neg (by decide), if_neg (by decide), if_pos rfl, H.g1, H.g3]
    simp only [Option.bind_some]
    rw [cs b a hb ha]
    simp only [Option.bind_some]
    rw [cs b b hb hb]
    simp only [Option.bind_some]
    rw [T_tog (le_m (cl b a hb ha)) (le_m (cl b b hb hb))]
    simp only [Option.bind_some]
    rw [cs a a ha ha]
    simp only [Option.bind_some]
    rw [cs a b ha hb]
    simp only [Option.bind_some]
    rw [T_tog (le_m (cl a a ha ha)) (le_m (cl a b ha hb))]
    simp only [Option.bind_some]
    exact T_277 ho (oadd_le (cl b a hb ha) (cl b b hb hb)) (oadd_le (cl a a ha ha) (cl a b ha hb))
  · have hv := hM e
    have hm := P_markAt H.pl hi (Or.inl e)
    rw [e, if_neg (by decide), if_neg (by decide), if_neg (by decide), if_pos (by decide), if_neg (by decide), if_neg (by decide), if_neg (by decide), if_pos rfl, H.g1, H.g3]
    simp only [Option.bind_some]
    rw [hm]
    simp only [Option.bind_some]
    rw [cs b _ hb hv]
    simp only [Option.bind_some]
    rw [cs a _ ha hv]
    simp only [Option.bind_some]
    exact T_277 ho (le_m (cl b _ hb hv)) (le_m (cl a _ ha hv))
  · rw [e, if_neg (by decide), if_neg (by decide), if_neg (by decide), if_neg (by decide), if_neg (by decide), if_pos (by decide), if_neg (by decide), if_neg (by decide), if_neg (by decide), if_neg (by decide), if_neg (by decide), H.g1]
    simp only [Option.bind_some]
    rw [B_pricesOver hbk hb hs]
    simp only [Option.bind_some]
    rw [B_pricesOver hbk ha hs]
    simp only [Option.bind_some]
    exact T_277 ho (le_m (hbk.cost1_le hb)) (le_m (hbk.cost1_le ha))
end
