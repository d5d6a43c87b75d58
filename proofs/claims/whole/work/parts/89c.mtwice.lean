/-! ===== the reference: a year's prices doubled ===== -/
def dbn (p : Nat → Nat) (z : Nat) : Nat → Nat → Nat
  | 0 => p
  | g + 1 => nup (dbn p z g) (z * 5 + g) (2 * dbn p z g (z * 5 + g))
theorem dbn_at {p : Nat → Nat} {z : Nat} : ∀ (g j : Nat), g ≤ j → dbn p z g (z * 5 + j) = p (z * 5 + j) := by
  intro g
  induction g with
  | zero => intro j _; rfl
  | succ g ih =>
    intro j hj
    unfold dbn
    rw [nup_n (by omega), ih j (by omega)]
section
variable {h : Hp} {m base n w : Nat} {p b W M : Nat → Nat} {s : St}
theorem M_twice_loop {z : Nat} (hz : z < 8) (h99 : ∀ g, g < 5 → p (z * 5 + g) ≤ 99) {x1 x2 x3 x5 : Int32} : ∀ (k f g : Nat) (h : Hp), g + k = 5 → MX h m base n (dbn p z g) b W M s → ∃ h', f_M_twiceLaw_19 m (f + k + 1) x1 x2 x3 (nI z) x5 (nI g) h = f_M_twiceLaw_19 m (f + 1) x1 x2 x3 (nI z) x5 (nI 5) h' ∧ MX h' m base n (dbn p z 5) b W M s ∧ ∀ c, c ≠ m + 1 → h' c = h c := by
  intro k
  induction k with
  | zero =>
    intro f g h hg H
    have g5 : g = 5 := by omega
    subst g5
    exact ⟨h, rfl, H, fun _ _ => rfl⟩
  | succ k ih =>
    intro f g h hg H
    have bd := h99 g (by omega)
    have at' := dbn_at (p := p) (z := z) g g (Nat.le_refl g)
    obtain ⟨e, E, H'⟩ := H.setp (k := z * 5 + g) (v := 2 * dbn p z g (z * 5 + g)) (by omega) (by omega)
    obtain ⟨h', G1, G2, G3⟩ := ih f (g + 1) _ (by omega) H'
    refine ⟨h', ?_, G2, fun c hc => by rw [G3 c hc, hup_n hc]⟩
    rw [← G1]
    show t_M_twiceLaw_19 _ (f_M_twiceLaw_19 m (f + k + 1)) _ _ _ _ _ _ _ = _
    unfold t_M_twiceLaw_19
    rw [if_neg (by rw [i5]; exact nI_ge (by omega) (by decide)), H.2.2.2.2.1.g0]
    simp only [Option.bind_some]
    rw [M_price H.2.2.2.2.1 (by omega) (by omega)]
    simp only [Option.bind_some]
    rw [mx5, show nI (dbn p z g (z * 5 + g)) * (2 : Int32) = nI (2 * dbn p z g (z * 5 + g)) by rw [show (2 : Int32) = nI 2 from rfl, pk_mul, Nat.mul_comm], E]
    simp only [Option.bind_some]
    rw [nI_1]
end
