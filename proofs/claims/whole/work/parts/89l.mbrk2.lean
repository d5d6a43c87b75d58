/-! ===== the reference: isBroken, whole ===== -/
theorem lmost_b (law : Nat) : 1 ≤ lmost law ∧ lmost law ≤ 8 := by
  unfold lmost
  split
  · decide
  · split <;> decide
section
variable {m num n w : Nat} {p b W M : Nat → Nat}
theorem M_brk19 (hg : good W M 8 0 n) (hn : n ≤ 20) (h99 : ∀ k, k < 40 → p k ≤ 99) (h9 : ∀ k, k < 150 → b k ≤ 9) {law a all : Nat} (hw : w < 4) (hl : law < 7) (ha : a < 8) (hall : all < 32) (k9 : Int32 → Int32 → Int32 → Int32 → Int32 → Hp → Option (Int32 × Hp)) : ∀ (k f z : Nat) (h : Hp) (F : Nat → Value), z + k = 8 → MS h m (40 * num) n p b W M F → (∃ t, sc (brkB (badQ W M p b w law) law all a) k z = some t ∧ BkR (f_M_isBroken_19 m k9 (f + k + 1) (nI num) (nI w) (nI law) (nI all) (nI a) (nI z) h) h m (40 * num) n p b W M F law (some t)) ∨ (sc (brkB (badQ W M p b w law) law all a) k z = none ∧ ∃ h' F', f_M_isBroken_19 m k9 (f + k + 1) (nI num) (nI w) (nI law) (nI all) (nI a) (nI z) h = k9 (nI num) (nI w) (nI law) (nI all) (nI (a + 1)) h' ∧ MS h' m (40 * num) n p b W M F' ∧ MEq3 F F' ∧ MFs h h' m) := by
  have lb := lmost_b law
  intro k
  induction k with
  | zero =>
    intro f z h F hz H
    have z8 : z = 8 := by omega
    subst z8
    refine Or.inr ⟨rfl, h, F, ?_, H, MEq3.refl, fun _ _ => rfl⟩
    show t_M_isBroken_19 _ _ _ _ _ _ _ _ _ _ = _
    unfold t_M_isBroken_19
    rw [if_pos (by decide), nI_1]
  | succ k ih =>
    intro f z h F hz H
    have one : f_M_isBroken_19 m k9 (f + (k + 1) + 1) (nI num) (nI w) (nI law) (nI all) (nI a) (nI z) h = f_M_isBroken_56 m k9 (f_M_isBroken_19 m k9 (f + k + 1)) FU (nI num) (nI w) (nI law) (nI all) (nI a) (nI z) (nI (lmost law)) 0 h := by
      have nl : ∀ k : Nat, k < 7 → law ≠ k → ¬ nI law = nI k := fun k hk hne e => hne ((nI_eq (by omega) (by omega)).mp e)
      show t_M_isBroken_19 m k9 (f_M_isBroken_19 m k9 (f + k + 1)) _ _ _ _ _ _ _ = _
      unfold t_M_isBroken_19
      rw [if_neg (by rw [i8]; exact nI_ge (by omega) (by decide))]
      by_cases c2 : law = 2
      · subst c2
        rw [if_pos (show nI 2 = (2 : Int32) from rfl)]
        rfl
      · rw [if_neg (show ¬ nI law = (2 : Int32) from nl 2 (by decide) c2)]
        by_cases c4 : law = 4
        · subst c4
          rw [if_pos (show nI 4 = (4 : Int32) from rfl)]
          rfl
        · rw [if_neg (show ¬ nI law = (4 : Int32) from nl 4 (by decide) c4)]
          by_cases c5 : law = 5
          · subst c5
            rw [if_pos (show nI 5 = (5 : Int32) from rfl)]
            rfl
          · rw [if_neg (show ¬ nI law = (5 : Int32) from nl 5 (by decide) c5), show lmost law = 1 by unfold lmost; rw [if_neg c2, if_neg (by omega)]]
            rfl
    rw [one]
    by_cases haz : a = z
    · subst haz
      have two : f_M_isBroken_56 m k9 (f_M_isBroken_19 m k9 (f + k + 1)) FU (nI num) (nI w) (nI law) (nI all) (nI a) (nI a) (nI (lmost law)) 0 h = f_M_isBroken_19 m k9 (f + k + 1) (nI num) (nI w) (nI law) (nI all) (nI a) (nI (a + 1)) h := by
        show t_M_isBroken_56 _ _ _ _ _ _ _ _ _ _ _ _ _ = _
        unfold t_M_isBroken_56
        rw [if_neg (show ¬ nI (lmost law) ≤ (0 : Int32) from nI_ge (a := 0) (by omega) (by omega)), if_pos rfl]
        unfold f_M_isBroken_182
        rw [nI_1]
      rw [two]
      have e : brkB (badQ W M p b w law) law all a a = none := by unfold brkB; rw [if_pos rfl]
      unfold sc
      rw [e]
      exact ih f (a + 1) h F (by omega) H
    · have e : brkB (badQ W M p b w law) law all a z = sc (brkC (badQ W M p b w law) law all a z) (lmost law) 0 := by unfold brkB; rw [if_neg haz]
      unfold sc
      rw [e]
      have R := M_brk56 hg hn h99 h9 hw hl ha (show z < 8 by omega) haz hall k9 (f_M_isBroken_19 m k9 (f + k + 1)) (lmost law) (FU - lmost law - 1) 0 h F (Nat.zero_add _) H
      have fu : FU - lmost law - 1 + lmost law + 1 = FU := by unfold FU; omega
      rw [fu] at R
      rcases R with ⟨t, S, R⟩ | ⟨S, h', F', E, H', e', f'⟩
      · rw [S]
        exact Or.inl ⟨t, rfl, R⟩
      · rw [S]
        rw [show f_M_isBroken_56 m k9 (f_M_isBroken_19 m k9 (f + k + 1)) FU (nI num) (nI w) (nI law) (nI all) (nI a) (nI z) (nI (lmost law)) 0 h = _ from E]
        dsimp only
        rcases ih f (z + 1) h' F' (by omega) H' with ⟨t, S2, R⟩ | ⟨S2, h2, F2, E2, H2, e2, f2⟩
        · exact Or.inl ⟨t, S2, BkR.pre e' f' R⟩
        · exact Or.inr ⟨S2, h2, F2, E2, H2, e'.trans e2, MFs.trans f' f2⟩
theorem M_brk9 (hg : good W M 8 0 n) (hn : n ≤ 20) (h99 : ∀ k, k < 40 → p k ≤ 99) (h9 : ∀ k, k < 150 → b k ≤ 9) {law all : Nat} (hw : w < 4) (hl : law < 7) (hall : all < 32) : ∀ (k f a : Nat) (h : Hp) (F : Nat → Value), a + k = 8 → MS h m (40 * num) n p b W M F → BkR (f_M_isBroken_9 m (f + k + 1) (nI num) (nI w) (nI law) (nI all) (nI a) h) h m (40 * num) n p b W M F law (sc (brkA (badQ W M p b w law) law all) k a) := by
  intro k
  induction k with
  | zero =>
    intro f a h F ha H
    have a8 : a = 8 := by omega
    subst a8
    refine ⟨h, F, ?_, H, MEq3.refl, fun _ _ => rfl, fun a z c e => (by cases e)⟩
    show t_M_isBroken_9 _ _ _ _ _ _ _ _ = _
    unfold t_M_isBroken_9
    rw [if_pos (by decide)]
    rfl
  | succ k ih =>
    intro f a h F ha H
    have one : f_M_isBroken_9 m (f + (k + 1) + 1) (nI num) (nI w) (nI law) (nI all) (nI a) h = f_M_isBroken_19 m (f_M_isBroken_9 m (f + k + 1)) (FU - 9 + 8 + 1) (nI num) (nI w) (nI law) (nI all) (nI a) (nI 0) h := by
      show t_M_isBroken_9 m (f_M_isBroken_9 m (f + k + 1)) _ _ _ _ _ _ = _
      unfold t_M_isBroken_9
      rw [if_neg (by rw [i8]; exact nI_ge (by omega) (by decide))]
      rfl
    rw [one]
    unfold sc
    rw [show brkA (badQ W M p b w law) law all a = sc (brkB (badQ W M p b w law) law all a) 8 0 from rfl]
    rcases M_brk19 hg hn h99 h9 hw hl (show a < 8 by omega) hall (f_M_isBroken_9 m (f + k + 1)) 8 (FU - 9) 0 h F rfl H with ⟨t, S, R⟩ | ⟨S, h', F', E, H', e', f'⟩
    · rw [S]
      exact R
    · rw [S, E]
      exact BkR.pre e' f' (ih f (a + 1) h' F' (by omega) H')
/-- the first breach of a law, at the books p b -/
def brkQ (W M p b : Nat → Nat) (w law : Nat) : Option (Nat × Nat × Nat) := brk (badQ W M p b w law) law (amk p)
theorem M_isBroken {h : Hp} {F : Nat → Value} (H : MS h m (40 * num) n p b W M F) (hg : good W M 8 0 n) (hn : n ≤ 20) (h99 : ∀ k, k < 40 → p k ≤ 99) (h9 : ∀ k, k < 150 → b k ≤ 9) {law : Nat} (hw : w < 4) (hl : law < 7) : BkR (f_M_isBroken m (nI num) (nI w) (nI law) h) h m (40 * num) n p b W M F law (brkQ W M p b w law) := by
  have H0 := H
  obtain ⟨s, u, l, r, rfl, X, K, A⟩ := H
  unfold f_M_isBroken
  rw [if_pos X.o, M_allGoods X.2.2.2.2.1, Option.bind_some]
  exact M_brk9 hg hn h99 h9 hw hl (amk_lt p) 8 (FU - 9) 0 h s.1 rfl H0
end
