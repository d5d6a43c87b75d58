/-! ===== the reference: books put by and put back ===== -/
theorem i50' : (50 : Int32) = nI 50 := rfl
theorem i150 : (150 : Int32) = nI 150 := rfl
/-- a row whose first i cells are these -/
def IB (h : Hp) (a n i : Nat) (f : Nat → Nat) : Prop := ∃ F : Nat → Int32, h a = some (.inl (0, n, .inl F)) ∧ ∀ k, k < i → F k = nI (f k)
theorem IB.step {h : Hp} {a n i : Nat} {f : Nat → Nat} (H : IB h a n i f) (hi : i < n) (hn : n < 2 ^ 31) : ∃ e, sI h a (nI i) (nI (f i)) = some (hup h a e) ∧ IB (hup h a e) a n (i + 1) f := by
  obtain ⟨F, H1, H2⟩ := H
  refine ⟨_, ai_set H1 hi hn, _, hup_s, fun k hk => ?_⟩
  by_cases c : k = i
  · subst c; exact pk_us
  · rw [pk_un c]; exact H2 k (by omega)
theorem IB.full {h : Hp} {a n : Nat} {f : Nat → Nat} (H : IB h a n n f) : IA h a n f := H
theorem IA.b0 {h : Hp} {a n : Nat} {f g : Nat → Nat} (H : IA h a n f) : IB h a n 0 g := by
  obtain ⟨F, H1, -⟩ := H
  exact ⟨F, H1, fun k hk => by omega⟩
theorem IB.any {h : Hp} {a n i : Nat} {f g : Nat → Nat} (H : IB h a n i f) : IB h a n 0 g := by
  obtain ⟨F, H1, -⟩ := H
  exact ⟨F, H1, fun k hk => by omega⟩
/-- the reference's books and where they are put by -/
def MH2 (h : Hp) (m : Nat) (F : Nat → Value) : Prop := h m = some (ocell 8 40 F) ∧ F 0 = .ref (m + 1) ∧ F 1 = .ref (m + 2) ∧ F 31 = .ref (m + 19) ∧ F 32 = .ref (m + 20)
theorem MH2.cong {h h' : Hp} {m : Nat} {F : Nat → Value} (H : MH2 h m F) (e : h' m = h m) : MH2 h' m F := ⟨by rw [e]; exact H.1, H.2⟩
section
variable {h : Hp} {m : Nat} {F : Nat → Value} {p b : Nat → Nat}
theorem M_hold28 : ∀ (k f i : Nat) (h : Hp), MH2 h m F → IA h (m + 2) 150 b → IB h (m + 20) 150 i b → i + k = 150 → ∃ h', f_M_holdBooks_28 m (f + k + 1) (nI i) h = some h' ∧ IA h' (m + 20) 150 b ∧ ∀ c, c ≠ m + 20 → h' c = h c := by
  intro k
  induction k with
  | zero =>
    intro f i h H A B hi
    refine ⟨h, ?_, by rw [show i = 150 by omega] at B; exact B, fun _ _ => rfl⟩
    show t_M_holdBooks_28 _ _ _ _ = _
    unfold t_M_holdBooks_28
    rw [if_pos (by rw [i150]; exact nI_le (by omega) (by omega))]
  | succ k ih =>
    intro f i h H A B hi
    obtain ⟨e, E, B'⟩ := B.step (by omega) (by decide)
    obtain ⟨h', G1, G2, G3⟩ := ih f (i + 1) (hup h (m + 20) e) (H.cong (hup_n (by omega))) (A.up (by omega)) B' (by omega)
    refine ⟨h', ?_, G2, fun c hc => by rw [G3 c hc, hup_n hc]⟩
    show t_M_holdBooks_28 _ (f_M_holdBooks_28 m (f + k + 1)) _ _ = _
    unfold t_M_holdBooks_28
    rw [if_neg (by rw [i150]; exact nI_ge (by omega) (by decide)), oc_a H.1 (by decide) H.2.2.2.2, Option.bind_some, oc_a H.1 (by decide) H.2.2.1, Option.bind_some, Option.bind_some, A.get (by omega) (by decide), Option.bind_some, Option.bind_some, E, Option.bind_some, nI_1]
    exact G1
theorem M_hold2 : ∀ (k f i : Nat) (h : Hp), MH2 h m F → IA h (m + 1) 50 p → IB h (m + 19) 50 i p → i + k = 50 → ∃ h', f_M_holdBooks_2 m (f + k + 1) (nI i) h = f_M_holdBooks_28 m FU 0 h' ∧ IA h' (m + 19) 50 p ∧ ∀ c, c ≠ m + 19 → h' c = h c := by
  intro k
  induction k with
  | zero =>
    intro f i h H A B hi
    refine ⟨h, ?_, by rw [show i = 50 by omega] at B; exact B, fun _ _ => rfl⟩
    show t_M_holdBooks_2 _ _ _ _ = _
    unfold t_M_holdBooks_2
    rw [if_pos (by rw [i50']; exact nI_le (by omega) (by omega))]
  | succ k ih =>
    intro f i h H A B hi
    obtain ⟨e, E, B'⟩ := B.step (by omega) (by decide)
    obtain ⟨h', G1, G2, G3⟩ := ih f (i + 1) (hup h (m + 19) e) (H.cong (hup_n (by omega))) (A.up (by omega)) B' (by omega)
    refine ⟨h', ?_, G2, fun c hc => by rw [G3 c hc, hup_n hc]⟩
    show t_M_holdBooks_2 _ (f_M_holdBooks_2 m (f + k + 1)) _ _ = _
    unfold t_M_holdBooks_2
    rw [if_neg (by rw [i50']; exact nI_ge (by omega) (by decide)), oc_a H.1 (by decide) H.2.2.2.1, Option.bind_some, oc_a H.1 (by decide) H.2.1, Option.bind_some, Option.bind_some, A.get (by omega) (by decide), Option.bind_some, Option.bind_some, E, Option.bind_some, nI_1]
    exact G1
/-- holdBooks -/
theorem M_holdBooks {p0 b0 : Nat → Nat} (H : MH2 h m F) (A : IA h (m + 1) 50 p) (B : IA h (m + 2) 150 b) (C : IB h (m + 19) 50 0 p0) (D : IB h (m + 20) 150 0 b0) : ∃ h', f_M_holdBooks m h = some h' ∧ IA h' (m + 19) 50 p ∧ IA h' (m + 20) 150 b ∧ ∀ c, c ≠ m + 19 → c ≠ m + 20 → h' c = h c := by
  obtain ⟨h1, E1, A1, F1⟩ := M_hold2 50 (FU - 51) 0 h H A C.any rfl
  have D1 : IB h1 (m + 20) 150 0 b := by
    obtain ⟨G, g1, -⟩ := D
    exact ⟨G, by rw [F1 _ (by omega)]; exact g1, fun k hk => by omega⟩
  obtain ⟨h2, E2, A2, F2⟩ := M_hold28 150 (FU - 151) 0 h1 (H.cong (F1 _ (by omega))) (B.cong (F1 _ (by omega))) D1 rfl
  refine ⟨h2, ?_, A1.cong (F2 _ (by omega)), A2, fun c x y => by rw [F2 c y, F1 c x]⟩
  unfold f_M_holdBooks
  rw [if_pos (oc_o H.1)]
  exact (show f_M_holdBooks_2 m FU 0 h = _ from E1).trans E2
end
