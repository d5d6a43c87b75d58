/-! ===== the class: other books ===== -/
theorem sC_ok {h : Hp} {a c n : Nat} {f g : Nat → Int32} (ha : h a = some (.inl (0, n, .inl f))) (hc : h c = some (.inl (0, n, .inl g))) (hn : n < 2 ^ 31) : sC h a 0 c 0 (nI n) = some (hup h c (.inl (0, n, .inl (va_cpy f g 0 0 n)))) := by
  unfold sC
  rw [ha, hc]
  simp only []
  rw [if_pos]
  · rw [show (0 : Int32).toNatClampNeg = 0 by decide, nI_clamp hn]
  · refine ⟨trivial, trivial, by decide, by decide, nI_pos hn, ?_, ?_⟩
    · rw [show (0 : Int32).toNatClampNeg = 0 by decide, nI_clamp hn]; omega
    · rw [show (0 : Int32).toNatClampNeg = 0 by decide, nI_clamp hn]; omega
theorem IA.copy {h : Hp} {a c n : Nat} {f g : Nat → Nat} (A : IA h a n f) (C : IA h c n g) (hn : n < 2 ^ 31) : ∃ e, sC h a 0 c 0 (nI n) = some (hup h c e) ∧ IA (hup h c e) c n f := by
  obtain ⟨F, A1, A2⟩ := A
  obtain ⟨G, C1, C2⟩ := C
  exact ⟨_, sC_ok A1 C1 hn, _, hup_s, fun k hk => by rw [pk_cpy_in (by omega) (by omega), show 0 + (k - 0) = k by omega, A2 k hk]⟩
section
variable {h : Hp} {t a : Nat} {p q pt qt : Nat → Nat}
theorem B_copyFrom (T : BK h t pt qt) (B : BK h a p q) (d : a + 3 ≤ t ∨ t + 3 ≤ a) : ∃ h', f_B_copyFrom t a h = some h' ∧ BK h' t p q ∧ BK h' a p q ∧ ∀ c, c ≠ t + 1 → c ≠ t + 2 → h' c = h c := by
  obtain ⟨e1, E1, I1⟩ := IA.copy B.2.1 T.2.1 (by decide)
  have B1 : BK (hup h (t + 1) e1) a p q := B.cong fun c _ _ => hup_n (by omega)
  have T0 : (hup h (t + 1) e1) t = some (.inr (0, [.ref (t + 1), .ref (t + 2)])) := by rw [hup_n (by omega)]; exact T.1
  obtain ⟨e2, E2, I2⟩ := IA.copy B1.2.2.1 (T.2.2.1.up (b := t + 1) (e := e1) (by omega)) (by decide)
  refine ⟨_, ?_, ⟨by rw [hup_n (by omega)]; exact T0, I1.up (by omega), I2, B.2.2.2⟩, B1.cong fun c _ _ => hup_n (by omega), fun c x y => by rw [hup_n y, hup_n x]⟩
  unfold f_B_copyFrom
  rw [if_pos T.o, B.g0, T.g0]
  simp only [Option.bind_some]
  rw [T.2.1.len]
  simp only [Option.bind_some]
  rw [E1]
  simp only [Option.bind_some]
  rw [B1.g1, show gA (hup h (t + 1) e1) t 0 1 = some (some (t + 2)) by simp [gA, gV, T0]]
  simp only [Option.bind_some]
  rw [(T.2.2.1.up (b := t + 1) (e := e1) (by omega)).len]
  simp only [Option.bind_some]
  rw [E2]
  rfl
theorem B_copyYear_loop {y z : Nat} (hy : y < 8) (hz : z < 8) : ∀ (k f g : Nat) (h : Hp), g + k = 5 → BK h a (cpn p y z g) q → ∃ h', f_B_copyYear_2 a (f + k + 1) (nI y) (nI z) (nI g) h = some h' ∧ BK h' a (cpn p y z 5) q ∧ ∀ c, c ≠ a + 1 → h' c = h c := by
  intro k
  induction k with
  | zero =>
    intro f g h hg H
    have g5 : g = 5 := by omega
    subst g5
    exact ⟨h, rfl, H, fun _ _ => rfl⟩
  | succ k ih =>
    intro f g h hg H
    obtain ⟨e, E, H'⟩ := B_setPrice (y := z) (g := g) (v := cpn p y z g (y * 5 + g)) H hz (by omega) (H.2.2.2.1 _ (by omega))
    obtain ⟨h', G1, G2, G3⟩ := ih f (g + 1) _ (by omega) H'
    refine ⟨h', ?_, G2, fun c hc => by rw [G3 c hc, hup_n hc]⟩
    rw [← G1]
    show t_B_copyYear_2 _ (f_B_copyYear_2 a (f + k + 1)) _ _ _ _ = _
    unfold t_B_copyYear_2
    rw [if_neg (by rw [i5]; exact nI_ge (by omega) (by decide)), B_priceOf H hy (by omega)]
    simp only [Option.bind_some]
    rw [E]
    simp only [Option.bind_some]
    rw [nI_1]
theorem B_copyYear (H : BK h a p q) {y z : Nat} (hy : y < 8) (hz : z < 8) : ∃ h', f_B_copyYear a (nI y) (nI z) h = some h' ∧ BK h' a (cpn p y z 5) q ∧ ∀ c, c ≠ a + 1 → h' c = h c := by
  unfold f_B_copyYear
  rw [if_pos H.o]
  exact B_copyYear_loop hy hz 5 (FU - 6) 0 h rfl H
theorem nI_2 (x : Nat) : (2 : Int32) * nI x = nI (2 * x) := pk_mul 2 x
theorem B_dblYear_loop {z : Nat} (hz : z < 8) (h99 : ∀ g, g < 5 → p (z * 5 + g) ≤ 99) : ∀ (k f g : Nat) (h : Hp), g + k = 5 → BK h a (dbn p z g) q → ∃ h', f_B_doubleYear_2 a (f + k + 1) (nI z) (nI g) h = some h' ∧ BK h' a (dbn p z 5) q ∧ ∀ c, c ≠ a + 1 → h' c = h c := by
  intro k
  induction k with
  | zero =>
    intro f g h hg H
    have g5 : g = 5 := by omega
    subst g5
    exact ⟨h, rfl, H, fun _ _ => rfl⟩
  | succ k ih =>
    intro f g h hg H
    have bd := h99 g (by omega)
    have at' := dbn_at (p := p) (z := z) g g (Nat.le_refl g)
    obtain ⟨e, E, H'⟩ := B_setPrice (y := z) (g := g) (v := 2 * dbn p z g (z * 5 + g)) H hz (by omega) (by omega)
    obtain ⟨h', G1, G2, G3⟩ := ih f (g + 1) _ (by omega) H'
    refine ⟨h', ?_, G2, fun c hc => by rw [G3 c hc, hup_n hc]⟩
    rw [← G1]
    show t_B_doubleYear_2 _ (f_B_doubleYear_2 a (f + k + 1)) _ _ _ = _
    unfold t_B_doubleYear_2
    rw [if_neg (by rw [i5]; exact nI_ge (by omega) (by decide)), B_priceOf H hz (by omega)]
    simp only [Option.bind_some]
    rw [nI_2, E]
    simp only [Option.bind_some]
    rw [nI_1]
theorem B_doubleYear (H : BK h a p q) {z : Nat} (hz : z < 8) (h99 : ∀ g, g < 5 → p (z * 5 + g) ≤ 99) : ∃ h', f_B_doubleYear a (nI z) h = some h' ∧ BK h' a (dbn p z 5) q ∧ ∀ c, c ≠ a + 1 → h' c = h c := by
  unfold f_B_doubleYear
  rw [if_pos H.o]
  exact B_dblYear_loop hz h99 5 (FU - 6) 0 h rfl H
/-- the amounts of w ahead of year y, good j are doubled, all but those of g -/
def DU (q' q : Nat → Nat) (w g y j : Nat) : Prop := ∀ z i, z < 8 → i < 5 → amq q' w z i = if (z < y ∨ (z = y ∧ i < j)) ∧ i ≠ g then 2 * amq q w z i else amq q w z i
theorem B_dblUnit25 {w g y : Nat} (hw : w < 4) (hg : g < 5) (hy : y < 8) (h27 : ∀ z i, z < 8 → i < 5 → amq q w z i ≤ 27) (k2 : Int32 → Int32 → Int32 → Hp → Option Hp) : ∀ (k f j : Nat) (h : Hp) (q' : Nat → Nat), j + k = 5 → BK h a p q' → DU q' q w g y j → ∃ h' q2, f_B_doubleUnit_25 a k2 (f + k + 1) (nI g) (nI w) (nI y) (nI j) h = k2 (nI g) (nI w) (nI (y + 1)) h' ∧ BK h' a p q2 ∧ DU q2 q w g (y + 1) 0 ∧ ∀ c, c ≠ a + 2 → h' c = h c := by
  intro k
  induction k with
  | zero =>
    intro f j h q' hj H D
    have j5 : j = 5 := by omega
    subst j5
    refine ⟨h, q', ?_, H, ?_, fun _ _ => rfl⟩
    · show t_B_doubleUnit_25 _ _ _ _ _ _ _ _ = _
      unfold t_B_doubleUnit_25
      rw [if_pos (by decide), nI_1]
    · intro z i hz hi
      rw [D z i hz hi]
      by_cases c : (z < y ∨ (z = y ∧ i < 5)) ∧ i ≠ g
      · rw [if_pos c, if_pos ⟨Or.inl (by omega), c.2⟩]
      · rw [if_neg c, if_neg (by omega)]
  | succ k ih =>
    intro f j h q' hj H D
    have dj := D y j hy (by omega)
    rw [if_neg (by omega)] at dj
    have bd := h27 y j hy (by omega)
    obtain ⟨v, hv, hvl⟩ : ∃ v, v = (if j = g then 1 else 2) * amq q' w y j ∧ v ≤ 54 := by
      refine ⟨_, rfl, ?_⟩
      split <;> omega
    obtain ⟨e, E, H'⟩ := B_setAmount (w := w) (y := y) (g := j) (v := v) H hw hy (by omega) hvl
    have D' : DU (nup q' ((w * 8 + y) * 5 + j) v) q w g y (j + 1) := by
      intro z i hz hi
      by_cases c : z = y ∧ i = j
      · obtain ⟨rfl, rfl⟩ := c
        unfold amq
        rw [nup_s, hv]
        by_cases c2 : i = g
        · rw [if_pos c2, if_neg (by omega), dj]; unfold amq; omega
        · rw [if_neg c2, if_pos ⟨Or.inr ⟨rfl, by omega⟩, c2⟩, dj]; rfl
      · have : amq (nup q' ((w * 8 + y) * 5 + j) v) w z i = amq q' w z i := by
          unfold amq
          rw [nup_n (by omega)]
        rw [this, D z i hz hi]
        by_cases c2 : (z < y ∨ (z = y ∧ i < j)) ∧ i ≠ g
        · rw [if_pos c2, if_pos (by omega)]
        · rw [if_neg c2, if_neg (by omega)]
    obtain ⟨h', q2, G1, G2, G3, G4⟩ := ih f (j + 1) _ _ (by omega) H' D'
    refine ⟨h', q2, ?_, G2, G3, fun c hc => by rw [G4 c hc, hup_n hc]⟩
    rw [← G1]
    show t_B_doubleUnit_25 a k2 (f_B_doubleUnit_25 a k2 (f + k + 1)) _ _ _ _ _ = _
    unfold t_B_doubleUnit_25
    rw [if_neg (by rw [i5]; exact nI_ge (by omega) (by decide))]
    have tail : ∀ s4 : Nat, s4 = (if j = g then 1 else 2) → f_B_doubleUnit_47 a k2 (f_B_doubleUnit_25 a k2 (f + k + 1)) (nI w) (nI y) (nI j) (nI s4) (nI g) (nI w) (nI y) (nI j) h = f_B_doubleUnit_25 a k2 (f + k + 1) (nI g) (nI w) (nI y) (nI (j + 1)) (hup h (a + 2) e) := by
      intro s4 hs
      unfold f_B_doubleUnit_47
      rw [B_amountOf H hw hy (by omega)]
      simp only [Option.bind_some]
      rw [pk_mul, show s4 * q' ((w * 8 + y) * 5 + j) = v by rw [hv, hs]; rfl, E]
      simp only [Option.bind_some]
      rw [nI_1]
    by_cases c : j = g
    · rw [if_pos (show nI j = nI g by rw [c])]
      exact tail 1 (by rw [if_pos c])
    · rw [if_neg (show ¬ nI j = nI g from fun e => c ((nI_eq (by omega) (by omega)).mp e))]
      exact tail 2 (by rw [if_neg c])
theorem B_dblUnit2 {w g : Nat} (hw : w < 4) (hg : g < 5) (h27 : ∀ z i, z < 8 → i < 5 → amq q w z i ≤ 27) (h99 : ∀ y, y < 8 → p (y * 5 + g) ≤ 99) : ∀ (k f y : Nat) (h : Hp) (q' : Nat → Nat), y + k = 8 → BK h a (dgn p g y) q' → DU q' q w g y 0 → ∃ h' q2, f_B_doubleUnit_2 a (f + k + 1) (nI g) (nI w) (nI y) h = some h' ∧ BK h' a (dgn p g 8) q2 ∧ DU q2 q w g 8 0 ∧ ∀ c, c ≠ a + 1 → c ≠ a + 2 → h' c = h c := by
  intro k
  induction k with
  | zero =>
    intro f y h q' hy H D
    have y8 : y = 8 := by omega
    subst y8
    exact ⟨h, q', rfl, H, D, fun _ _ _ => rfl⟩
  | succ k ih =>
    intro f y h q' hy H D
    have bd := h99 y (by omega)
    have at' := dgn_at (p := p) (g := g) y y (Nat.le_refl y)
    obtain ⟨e, E, H'⟩ := B_setPrice (y := y) (g := g) (v := 2 * dgn p g y (y * 5 + g)) H (by omega) hg (by omega)
    obtain ⟨h1, q1, A1, A2, A3, A4⟩ := B_dblUnit25 (p := dgn p g (y + 1)) hw hg (show y < 8 by omega) h27 (f_B_doubleUnit_2 a (f + k + 1)) 5 (FU - 6) 0 _ q' rfl H' D
    obtain ⟨h', q2, G1, G2, G3, G4⟩ := ih f (y + 1) h1 q1 (by omega) A2 A3
    refine ⟨h', q2, ?_, G2, G3, fun c x z => by rw [G4 c x z, A4 c z, hup_n x]⟩
    rw [← G1, ← A1]
    show t_B_doubleUnit_2 a (f_B_doubleUnit_2 a (f + k + 1)) _ _ _ _ = _
    unfold t_B_doubleUnit_2
    rw [if_neg (by rw [i8]; exact nI_ge (by omega) (by decide)), B_priceOf H (by omega) hg]
    simp only [Option.bind_some]
    rw [nI_2, E]
    rfl
theorem B_doubleUnit (H : BK h a p q) {w g : Nat} (hw : w < 4) (hg : g < 5) (h27 : ∀ z i, z < 8 → i < 5 → amq q w z i ≤ 27) (h99 : ∀ y, y < 8 → p (y * 5 + g) ≤ 99) : ∃ h' q2, f_B_doubleUnit a (nI g) (nI w) h = some h' ∧ BK h' a (dgn p g 8) q2 ∧ DU q2 q w g 8 0 ∧ ∀ c, c ≠ a + 1 → c ≠ a + 2 → h' c = h c := by
  unfold f_B_doubleUnit
  rw [if_pos H.o]
  exact B_dblUnit2 hw hg h27 h99 8 (FU - 9) 0 h q rfl H (fun z i _ _ => by rw [if_neg (by omega)])
end
