/-! ===== the reference: books put back ===== -/
section
variable {h : Hp} {m : Nat} {F : Nat → Value} {p b : Nat → Nat}
theorem M_put28 : ∀ (k f i : Nat) (h : Hp), MH2 h m F → IA h (m + 20) 150 b → IB h (m + 2) 150 i b → i + k = 150 → ∃ h', f_M_putBooks_28 m (f + k + 1) (nI i) h = some h' ∧ IA h' (m + 2) 150 b ∧ ∀ c, c ≠ m + 2 → h' c = h c := by
  intro k
  induction k with
  | zero =>
    intro f i h H A B hi
    refine ⟨h, ?_, by rw [show i = 150 by omega] at B; exact B, fun _ _ => rfl⟩
    show t_M_putBooks_28 _ _ _ _ = _
    unfold t_M_putBooks_28
    rw [if_pos (by rw [i150]; exact nI_le (by omega) (by omega))]
  | succ k ih =>
    intro f i h H A B hi
    obtain ⟨e, E, B'⟩ := B.step (by omega) (by decide)
    obtain ⟨h', G1, G2, G3⟩ := ih f (i + 1) (hup h (m + 2) e) (H.cong (hup_n (by omega))) (A.up (by omega)) B' (by omega)
    refine ⟨h', ?_, G2, fun c hc => by rw [G3 c hc, hup_n hc]⟩
    show t_M_putBooks_28 _ (f_M_putBooks_28 m (f + k + 1)) _ _ = _
    unfold t_M_putBooks_28
    rw [if_neg (by rw [i150]; exact nI_ge (by omega) (by decide)), oc_a H.1 (by decide) H.2.2.1, Option.bind_some, oc_a H.1 (by decide) H.2.2.2.2, Option.bind_some, Option.bind_some, A.get (by omega) (by decide), Option.bind_some, Option.bind_some, E, Option.bind_some, nI_1]
    exact G1
theorem M_put2 : ∀ (k f i : Nat) (h : Hp), MH2 h m F → IA h (m + 19) 50 p → IB h (m + 1) 50 i p → i + k = 50 → ∃ h', f_M_putBooks_2 m (f + k + 1) (nI i) h = f_M_putBooks_28 m FU 0 h' ∧ IA h' (m + 1) 50 p ∧ ∀ c, c ≠ m + 1 → h' c = h c := by
  intro k
  induction k with
  | zero =>
    intro f i h H A B hi
    refine ⟨h, ?_, by rw [show i = 50 by omega] at B; exact B, fun _ _ => rfl⟩
    show t_M_putBooks_2 _ _ _ _ = _
    unfold t_M_putBooks_2
    rw [if_pos (by rw [i50']; exact nI_le (by omega) (by omega))]
  | succ k ih =>
    intro f i h H A B hi
    obtain ⟨e, E, B'⟩ := B.step (by omega) (by decide)
    obtain ⟨h', G1, G2, G3⟩ := ih f (i + 1) (hup h (m + 1) e) (H.cong (hup_n (by omega))) (A.up (by omega)) B' (by omega)
    refine ⟨h', ?_, G2, fun c hc => by rw [G3 c hc, hup_n hc]⟩
    show t_M_putBooks_2 _ (f_M_putBooks_2 m (f + k + 1)) _ _ = _
    unfold t_M_putBooks_2
    rw [if_neg (by rw [i50']; exact nI_ge (by omega) (by decide)), oc_a H.1 (by decide) H.2.1, Option.bind_some, oc_a H.1 (by decide) H.2.2.2.1, Option.bind_some, Option.bind_some, A.get (by omega) (by decide), Option.bind_some, Option.bind_some, E, Option.bind_some, nI_1]
    exact G1
/-- putBooks -/
theorem M_putBooks {p0 b0 : Nat → Nat} (H : MH2 h m F) (A : IA h (m + 19) 50 p) (B : IA h (m + 20) 150 b) (C : IB h (m + 1) 50 0 p0) (D : IB h (m + 2) 150 0 b0) : ∃ h', f_M_putBooks m h = some h' ∧ IA h' (m + 1) 50 p ∧ IA h' (m + 2) 150 b ∧ ∀ c, c ≠ m + 1 → c ≠ m + 2 → h' c = h c := by
  obtain ⟨h1, E1, A1, F1⟩ := M_put2 50 (FU - 51) 0 h H A C.any rfl
  have D1 : IB h1 (m + 2) 150 0 b := by
    obtain ⟨G, g1, -⟩ := D
    exact ⟨G, by rw [F1 _ (by omega)]; exact g1, fun k hk => by omega⟩
  obtain ⟨h2, E2, A2, F2⟩ := M_put28 150 (FU - 151) 0 h1 (H.cong (F1 _ (by omega))) (B.cong (F1 _ (by omega))) D1 rfl
  refine ⟨h2, ?_, A1.cong (F2 _ (by omega)), A2, fun c x y => by rw [F2 c y, F1 c x]⟩
  unfold f_M_putBooks
  rw [if_pos (oc_o H.1)]
  exact (show f_M_putBooks_2 m FU 0 h = _ from E1).trans E2
end
