/-! ===== reading an E: what it should give ===== -/
abbrev PR : Type := Except (Nat × Nat) (Nat × Nat × (Nat → Nat) × (Nat → Nat))
/-- a sign: the place behind it, or the fault -/
def sgn (tx : Nat → Nat) (len c i : Nat) : Except (Nat × Nat) Nat := if sk tx len i < len ∧ tx (sk tx len i) = c then .ok (sk tx len i + 1) else .error (1, sk tx len i)
def eb {α β : Type} (x : Except (Nat × Nat) α) (f : α → Except (Nat × Nat) β) : Except (Nat × Nat) β := match x with
  | .error e => .error e
  | .ok a => f a
/-- d: how deep yet; i: the place; n: how many words; words and marks -/
def pz (tx : Nat → Nat) (len : Nat) : Nat → Nat → Nat → (Nat → Nat) → (Nat → Nat) → PR
  | 0, i, _, _, _ => match wd tx (sk tx len i) (lt tx len (sk tx len i)) with
    | none => .error (1, sk tx len i)
    | some _ => .error (2, sk tx len i)
  | d + 1, i, n, W, M => match wd tx (sk tx len i) (lt tx len (sk tx len i)) with
    | none => .error (1, sk tx len i)
    | some k =>
      if k = 3 then (if sk tx len (sk tx len i + lt tx len (sk tx len i)) < len ∧ 48 ≤ tx (sk tx len (sk tx len i + lt tx len (sk tx len i))) ∧ tx (sk tx len (sk tx len i + lt tx len (sk tx len i))) ≤ 55 then .ok (sk tx len (sk tx len i + lt tx len (sk tx len i)) + 1, n + 1, nup W n k, nup M n (tx (sk tx len (sk tx len i + lt tx len (sk tx len i))) - 48)) else .error (1, sk tx len (sk tx len i + lt tx len (sk tx len i))))
      else if k < 6 then .ok (sk tx len i + lt tx len (sk tx len i), n + 1, nup W n k, M)
      else if k < 10 then eb (sgn tx len 40 (sk tx len i + lt tx len (sk tx len i))) fun i2 => eb (pz tx len d i2 (n + 1) (nup W n k) M) fun r => eb (sgn tx len 44 r.1) fun i4 => eb (pz tx len d i4 r.2.1 r.2.2.1 (nup r.2.2.2 n r.2.1)) fun q => eb (sgn tx len 41 q.1) fun i6 => .ok (i6, q.2)
      else pz tx len d (sk tx len i + lt tx len (sk tx len i)) (n + 1) (nup W n k) M
theorem wfd_lt {tx : Nat → Nat} {i n : Nat} : ∀ (f k a : Nat), wfd tx i n f k = some a → k ≤ a ∧ a < k + f ∧ hit tx i n a = true := by
  intro f
  induction f with
  | zero => intro k a h; cases h
  | succ f ih =>
    intro k a h
    unfold wfd at h
    split at h
    · rename_i c; cases h; exact ⟨Nat.le_refl _, by omega, c⟩
    · have := ih _ _ h; exact ⟨by omega, by omega, this.2.2⟩
/-- a word that is there -/
theorem wd_some {tx : Nat → Nat} {i n k : Nat} (h : wd tx i n = some k) : k < 13 ∧ (nm k).length = n ∧ 2 ≤ n ∧ n ≤ 5 ∧ (k ≠ 3 → 3 ≤ n) := by
  obtain ⟨-, h1, h2⟩ := wfd_lt _ _ _ h
  unfold hit at h2
  rw [decide_eq_true_iff] at h2
  have h5 := nm_5 k (by omega)
  have h6 := nm_3 k (by omega)
  have := h2.1
  exact ⟨by omega, h2.1, by omega, by omega, fun c => by have := h6 c; omega⟩
theorem eb_ok {α β : Type} {x : Except (Nat × Nat) α} {f : α → Except (Nat × Nat) β} {r : β} (h : eb x f = .ok r) : ∃ a, x = .ok a ∧ f a = .ok r := by
  cases x with
  | error e => cases h
  | ok a => exact ⟨a, rfl, h⟩
theorem sgn_ok {tx : Nat → Nat} {len c i j : Nat} (h : sgn tx len c i = .ok j) : i < j ∧ j ≤ len := by
  unfold sgn at h
  split at h
  · rename_i g
    cases h
    have := sk_ge (tx := tx) (len := len) (len - i) i (Nat.le_refl _)
    omega
  · cases h
/-- what a good reading is like -/
theorem pz_ok {tx : Nat → Nat} {len : Nat} : ∀ (d i n : Nat) (W M : Nat → Nat) (r : Nat × Nat × (Nat → Nat) × (Nat → Nat)), pz tx len d i n W M = .ok r → i < r.1 ∧ r.1 ≤ len ∧ n < r.2.1 ∧ r.1 + 3 * n ≥ i + 3 * r.2.1 ∧ (∀ k, k < n → r.2.2.1 k = W k ∧ r.2.2.2 k = M k) ∧ good r.2.2.1 r.2.2.2 d n r.2.1 := by
  intro d
  induction d with
  | zero =>
    intro i n W M r h
    unfold pz at h
    split at h <;> cases h
  | succ d ih =>
    intro i n W M r h
    have s0 := sk_ge (tx := tx) (len := len) (len - i) i (Nat.le_refl _)
    have l0 := lt_le (tx := tx) (len := len) (len - sk tx len i) (sk tx len i) (Nat.le_refl _)
    unfold pz at h
    split at h
    · cases h
    · rename_i k hk
      obtain ⟨k13, -, n2, n5, n3⟩ := wd_some hk
      have s1 := sk_ge (tx := tx) (len := len) (len - (sk tx len i + lt tx len (sk tx len i))) (sk tx len i + lt tx len (sk tx len i)) (Nat.le_refl _)
      generalize sk tx len i = j at *
      generalize lt tx len j = t at *
      split at h
      · rename_i k3
        split at h
        · rename_i g
          cases h
          refine ⟨by dsimp only; omega, by dsimp only; omega, by dsimp only; omega, by dsimp only; omega, fun k hk => ⟨nup_n (by omega), nup_n (by omega)⟩, Or.inl ⟨?_, rfl, fun _ => ?_⟩⟩
          · dsimp only; rw [nup_s]; omega
          · dsimp only; rw [nup_s]; omega
        · cases h
      · rename_i k3
        have := n3 k3
        split at h
        · rename_i k6
          cases h
          refine ⟨by dsimp only; omega, by dsimp only; omega, by dsimp only; omega, by dsimp only; omega, fun k hk => ⟨nup_n (by omega), rfl⟩, Or.inl ⟨?_, rfl, fun e => ?_⟩⟩
          · dsimp only; rw [nup_s]; omega
          · dsimp only at e; rw [nup_s] at e; omega
        · rename_i k6
          split at h
          · rename_i k10
            obtain ⟨i2, e2, h⟩ := eb_ok h
            obtain ⟨a, ea, h⟩ := eb_ok h
            obtain ⟨i4, e4, h⟩ := eb_ok h
            obtain ⟨b, eb', h⟩ := eb_ok h
            obtain ⟨i6, e6, h⟩ := eb_ok h
            cases h
            have g2 := sgn_ok e2
            have g4 := sgn_ok e4
            have g6 := sgn_ok e6
            obtain ⟨a1, a2, a3, a4, a5, a6⟩ := ih _ _ _ _ _ ea
            obtain ⟨b1, b2, b3, b4, b5, b6⟩ := ih _ _ _ _ _ eb'
            have fW : ∀ k, k < a.2.1 → b.2.2.1 k = a.2.2.1 k := fun k hk => (b5 k hk).1
            have fM : ∀ k, k < a.2.1 → k ≠ n → b.2.2.2 k = a.2.2.2 k := fun k hk hn => by rw [(b5 k hk).2, nup_n hn]
            have Wn : b.2.2.1 n = k := by rw [fW n (by omega), (a5 n (by omega)).1, nup_s]
            have Mn : b.2.2.2 n = a.2.1 := by rw [(b5 n (by omega)).2, nup_s]
            refine ⟨by dsimp only; omega, by dsimp only; omega, by dsimp only; omega, by dsimp only; omega, fun k hk => ⟨?_, ?_⟩, Or.inr (Or.inl ⟨?_, ?_, ?_, ?_⟩)⟩
            · dsimp only; rw [fW k (by omega), (a5 k (by omega)).1, nup_n (by omega)]
            · dsimp only; rw [fM k (by omega) (by omega), (a5 k (by omega)).2]
            · dsimp only; rw [Wn]; omega
            · dsimp only; rw [Wn]; omega
            · dsimp only
              rw [Mn]
              have cong : ∀ (d i j : Nat) (W M W' M' : Nat → Nat), (∀ k, i ≤ k → k < j → W' k = W k ∧ M' k = M k) → good W M d i j → good W' M' d i j := by
                intro d
                induction d with
                | zero => intro i j W M W' M' _ h; exact h
                | succ d ihd =>
                  intro i j W M W' M' hc h
                  have hl := good_lt _ _ _ h
                  have c0 := hc i (Nat.le_refl i) hl
                  rcases h with h | ⟨h1, h2, h3, h4⟩ | ⟨h1, h2, h3⟩
                  · exact Or.inl ⟨by rw [c0.1]; exact h.1, h.2.1, by rw [c0.1, c0.2]; exact h.2.2⟩
                  · have l3 := good_lt _ _ _ h3
                    have l4 := good_lt _ _ _ h4
                    exact Or.inr (Or.inl ⟨by rw [c0.1]; exact h1, by rw [c0.1]; exact h2, by rw [c0.2]; exact ihd _ _ _ _ _ _ (fun k a b => hc k (by omega) (by omega)) h3, by rw [c0.2]; exact ihd _ _ _ _ _ _ (fun k a b => hc k (by omega) (by omega)) h4⟩)
                  · exact Or.inr (Or.inr ⟨by rw [c0.1]; exact h1, by rw [c0.1]; exact h2, ihd _ _ _ _ _ _ (fun k a b => hc k (by omega) b) h3⟩)
              exact cong d (n + 1) a.2.1 _ _ _ _ (fun k h1 h2 => ⟨fW k h2, fM k h2 (by omega)⟩) a6
            · dsimp only; rw [Mn]; exact b6
          · rename_i k10
            obtain ⟨a1, a2, a3, a4, a5, a6⟩ := ih _ _ _ _ _ h
            have Wn : r.2.2.1 n = k := by rw [(a5 n (by omega)).1, nup_s]
            refine ⟨by omega, a2, by omega, by omega, fun k hk => ⟨by rw [(a5 k (by omega)).1, nup_n (by omega)], (a5 k (by omega)).2⟩, Or.inr (Or.inr ⟨?_, ?_, a6⟩)⟩
            · rw [Wn]; omega
            · rw [Wn]; omega
