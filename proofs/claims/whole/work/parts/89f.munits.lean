/-! ===== the reference: another unit of a good ===== -/
def dgn (p : Nat → Nat) (g : Nat) : Nat → Nat → Nat
  | 0 => p
  | y + 1 => nup (dgn p g y) (y * 5 + g) (2 * dgn p g y (y * 5 + g))
theorem dgn_at {p : Nat → Nat} {g : Nat} : ∀ (y j : Nat), y ≤ j → dgn p g y (j * 5 + g) = p (j * 5 + g) := by
  intro y
  induction y with
  | zero => intro j _; rfl
  | succ y ih =>
    intro j hj
    unfold dgn
    rw [nup_n (by omega), ih j (by omega)]
def dbb (b : Nat → Nat) (g : Nat) : Nat → Nat → Nat
  | 0 => b
  | k + 1 => nup (dbb b g k) k (dbb b g k k * (if k % 5 = g then 1 else 2))
theorem dbb_at {b : Nat → Nat} {g : Nat} : ∀ (k j : Nat), k ≤ j → dbb b g k j = b j := by
  intro k
  induction k with
  | zero => intro j _; rfl
  | succ k ih =>
    intro j hj
    unfold dbb
    rw [nup_n (by omega), ih j (by omega)]
section
variable {h : Hp} {m base n w : Nat} {p b W M : Nat → Nat} {s : St}
theorem MX.setb (H : MX h m base n p b W M s) {k v : Nat} (hk : k < 150) (hv : v ≤ 18) : ∃ e, sI h (m + 2) (nI k) (nI v) = some (hup h (m + 2) e) ∧ MX (hup h (m + 2) e) m base n p (nup b k v) W M s := by
  obtain ⟨e, E, I⟩ := H.2.2.2.2.1.2.2.1.set (v := v) hk (by decide)
  refine ⟨e, E, H.bk (fun c _ _ _ a => hup_n a) (H.2.2.2.2.1.2.1.up (by omega)) I H.2.2.2.2.1.2.2.2.1 (fun j hj => ?_)⟩
  unfold nup
  split
  · exact hv
  · exact H.2.2.2.2.1.2.2.2.2 j hj
theorem M_units_loop1 {g : Nat} (hg : g < 5) (h99 : ∀ y, y < 8 → p (y * 5 + g) ≤ 99) {x1 x2 x3 x4 x6 : Int32} : ∀ (k f y : Nat) (h : Hp), y + k = 8 → MX h m base n (dgn p g y) b W M s → ∃ h', f_M_unitsLaw_19 m (f + k + 1) x1 x2 x3 x4 (nI g) x6 (nI y) h = f_M_unitsLaw_51 m FU x1 x2 x3 x4 (nI g) x6 0 h' ∧ MX h' m base n (dgn p g 8) b W M s ∧ ∀ c, c ≠ m + 1 → h' c = h c := by
  intro k
  induction k with
  | zero =>
    intro f y h hy H
    have y8 : y = 8 := by omega
    subst y8
    refine ⟨h, ?_, H, fun _ _ => rfl⟩
    show t_M_unitsLaw_19 _ _ _ _ _ _ _ _ _ _ = _
    unfold t_M_unitsLaw_19
    rw [if_pos (by decide)]
  | succ k ih =>
    intro f y h hy H
    have bd := h99 y (by omega)
    have at' := dgn_at (p := p) (g := g) y y (Nat.le_refl y)
    obtain ⟨e, E, H'⟩ := H.setp (k := y * 5 + g) (v := 2 * dgn p g y (y * 5 + g)) (by omega) (by omega)
    obtain ⟨h', G1, G2, G3⟩ := ih f (y + 1) _ (by omega) H'
    refine ⟨h', ?_, G2, fun c hc => by rw [G3 c hc, hup_n hc]⟩
    rw [← G1]
    show t_M_unitsLaw_19 _ (f_M_unitsLaw_19 m (f + k + 1)) _ _ _ _ _ _ _ _ = _
    unfold t_M_unitsLaw_19
    rw [if_neg (by rw [i8]; exact nI_ge (by omega) (by decide)), H.2.2.2.2.1.g0]
    simp only [Option.bind_some]
    rw [M_price H.2.2.2.2.1 (by omega) hg]
    simp only [Option.bind_some]
    rw [mx5, show nI (dgn p g y (y * 5 + g)) * (2 : Int32) = nI (2 * dgn p g y (y * 5 + g)) by rw [show (2 : Int32) = nI 2 from rfl, pk_mul, Nat.mul_comm], E]
    simp only [Option.bind_some]
    rw [nI_1]
theorem M_units_loop2 {g : Nat} (hg : g < 5) (h9 : ∀ k, k < 150 → b k ≤ 9) {x1 x2 x3 x4 x6 : Int32} : ∀ (k f i : Nat) (h : Hp), i + k = 150 → MX h m base n p (dbb b g i) W M s → ∃ h', f_M_unitsLaw_51 m (f + k + 1) x1 x2 x3 x4 (nI g) x6 (nI i) h = f_M_unitsLaw_51 m (f + 1) x1 x2 x3 x4 (nI g) x6 (nI 150) h' ∧ MX h' m base n p (dbb b g 150) W M s ∧ ∀ c, c ≠ m + 2 → h' c = h c := by
  intro k
  induction k with
  | zero =>
    intro f i h hi H
    have e : i = 150 := by omega
    subst e
    exact ⟨h, rfl, H, fun _ _ => rfl⟩
  | succ k ih =>
    intro f i h hi H
    have bd := h9 i (by omega)
    have at' := dbb_at (b := b) (g := g) i i (Nat.le_refl i)
    have bnd : dbb b g i i * (if i % 5 = g then 1 else 2) ≤ 18 := by split <;> omega
    obtain ⟨e, E, H'⟩ := H.setb (k := i) (v := dbb b g i i * (if i % 5 = g then 1 else 2)) (by omega) bnd
    obtain ⟨h', G1, G2, G3⟩ := ih f (i + 1) _ (by omega) H'
    refine ⟨h', ?_, G2, fun c hc => by rw [G3 c hc, hup_n hc]⟩
    rw [← G1]
    show t_M_unitsLaw_51 _ (f_M_unitsLaw_51 m (f + k + 1)) _ _ _ _ _ _ _ _ = _
    unfold t_M_unitsLaw_51
    rw [if_neg (show ¬ (150 : Int32) ≤ nI i by rw [i150]; exact nI_ge (by omega) (by decide)), H.2.2.2.2.1.g1]
    simp only [Option.bind_some]
    rw [H.2.2.2.2.1.2.2.1.get (by omega) (by decide)]
    simp only [Option.bind_some]
    rw [show (5 : Int32) = nI 5 from rfl, pk_rem (by omega) (by decide) (by decide)]
    unfold f_M_unitsLaw_81
    by_cases c : i % 5 = g
    · rw [if_pos c] at E
      rw [if_pos (by rw [c]), show nI (dbb b g i i) * (1 : Int32) = nI (dbb b g i i * 1) from pk_mul _ 1, E, Option.bind_some, nI_1]
    · rw [if_neg c] at E
      rw [if_neg (fun q => c ((nI_eq (by omega) (by omega)).mp q)), show nI (dbb b g i i) * (2 : Int32) = nI (dbb b g i i * 2) from pk_mul _ 2, E, Option.bind_some, nI_1]
end
