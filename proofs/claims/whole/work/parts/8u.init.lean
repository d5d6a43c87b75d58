/-! ===== the start: constructors ===== -/
theorem pv_s {h : Hp} {a ci k : Nat} {fs : List Value} {v : Value} (H : h a = some (.inr (ci, fs))) (hk : k < fs.length) : pV h a ci k v = some (hup h a (.inr (ci, fs.set k v))) := by simp [pV, H, hk]
section
variable {h : Hp} {a n : Nat}
theorem F_init (H : h a = some (.inr (1, [.long 0, .long 0, .int 0, .int 0]))) : f_F_init a h n = some (hup h a (.inr (1, [.long 0, .long 1, .int 0, .int 0]))) := by
  unfold f_F_init
  rw [pv_s H (by simp), Option.bind_some, pv_s hup_s (by simp), Option.bind_some, pv_s hup_s (by simp), Option.bind_some, pv_s hup_s (by simp), Option.bind_some]
  simp [hup_u]
theorem B_init (H : h a = some (.inr (0, [.null, .null]))) : ∃ h', f_B_init a h (a + 1) = some h' ∧ BK h' a (fun _ => 0) (fun _ => 0) ∧ ∀ c, c ≠ a → c ≠ a + 1 → c ≠ a + 2 → h' c = h c := by
  obtain ⟨h1, q1⟩ : ∃ h1, h1 = hup h (a + 1) (.inl (0, 40, .inl (fun _ => 0))) := ⟨_, rfl⟩
  obtain ⟨h2, q2⟩ : ∃ h2, h2 = hup h1 a (.inr (0, [.ref (a + 1), .null])) := ⟨_, rfl⟩
  obtain ⟨h3, q3⟩ : ∃ h3, h3 = hup h2 (a + 2) (.inl (0, 160, .inl (fun _ => 0))) := ⟨_, rfl⟩
  obtain ⟨h4, q4⟩ : ∃ h4, h4 = hup h3 a (.inr (0, [.ref (a + 1), .ref (a + 2)])) := ⟨_, rfl⟩
  have e1 : h1 a = some (.inr (0, [.null, .null])) := by rw [q1, hup_n (by omega)]; exact H
  have e2 : h3 a = some (.inr (0, [.ref (a + 1), .null])) := by rw [q3, hup_n (by omega), q2, hup_s]
  have E : f_B_init a h (a + 1) = some h4 := by
    unfold f_B_init
    rw [Option.bind_some, ← q1, pv_s e1 (by simp), Option.bind_some, show [Value.null, .null].set 0 (.ref (a + 1)) = [.ref (a + 1), .null] from rfl, ← q2, Option.bind_some, show a + 1 + 1 = a + 2 from rfl, ← q3, pv_s e2 (by simp), Option.bind_some, q4]
    rfl
  exact ⟨h4, E, ⟨by rw [q4, hup_s], ⟨fun _ => 0, by rw [q4, hup_n (by omega), q3, hup_n (by omega), q2, hup_n (by omega), q1, hup_s], fun _ _ => rfl⟩, ⟨fun _ => 0, by rw [q4, hup_n (by omega), q3, hup_s], fun _ _ => rfl⟩, fun _ _ => Nat.zero_le _, fun _ _ => Nat.zero_le _⟩, fun c x y z => by rw [q4, hup_n x, q3, hup_n z, q2, hup_n x, q1, hup_n y]⟩
theorem P_init (H : h a = some (.inr (4, [.null, .null, .int 0]))) : ∃ h', f_P_init a h (a + 1) = some h' ∧ PX h' a 0 (fun _ => 0) (fun _ => 0) ∧ ∀ c, c ≠ a → c ≠ a + 1 → c ≠ a + 2 → h' c = h c := by
  obtain ⟨h1, q1⟩ : ∃ h1, h1 = hup h (a + 1) (.inl (0, 20, .inl (fun _ => 0))) := ⟨_, rfl⟩
  obtain ⟨h2, q2⟩ : ∃ h2, h2 = hup h1 a (.inr (4, [.ref (a + 1), .null, .int 0])) := ⟨_, rfl⟩
  obtain ⟨h3, q3⟩ : ∃ h3, h3 = hup h2 (a + 2) (.inl (0, 20, .inl (fun _ => 0))) := ⟨_, rfl⟩
  obtain ⟨h4, q4⟩ : ∃ h4, h4 = hup h3 a (.inr (4, [.ref (a + 1), .ref (a + 2), .int 0])) := ⟨_, rfl⟩
  have e1 : h1 a = some (.inr (4, [.null, .null, .int 0])) := by rw [q1, hup_n (by omega)]; exact H
  have e2 : h3 a = some (.inr (4, [.ref (a + 1), .null, .int 0])) := by rw [q3, hup_n (by omega), q2, hup_s]
  have e3 : h4 a = some (.inr (4, [.ref (a + 1), .ref (a + 2), .int 0])) := by rw [q4, hup_s]
  have E : f_P_init a h (a + 1) = some h4 := by
    unfold f_P_init
    rw [Option.bind_some, ← q1, pv_s e1 (by simp), Option.bind_some, show [Value.null, .null, .int 0].set 0 (.ref (a + 1)) = [.ref (a + 1), .null, .int 0] from rfl, ← q2, Option.bind_some, show a + 1 + 1 = a + 2 from rfl, ← q3, pv_s e2 (by simp), Option.bind_some, show [Value.ref (a + 1), .null, .int 0].set 1 (.ref (a + 2)) = [.ref (a + 1), .ref (a + 2), .int 0] from rfl, ← q4, pv_s e3 (by simp), Option.bind_some]
    rw [show [Value.ref (a + 1), .ref (a + 2), .int 0].set 2 (.int 0) = [.ref (a + 1), .ref (a + 2), .int 0] from rfl, q4, hup_u]
  exact ⟨h4, E, ⟨by rw [q4, hup_s]; rfl, by rw [q4, hup_n (by omega), q3, hup_n (by omega), q2, hup_n (by omega), q1, hup_s], by rw [q4, hup_n (by omega), q3, hup_s]⟩, fun c x y z => by rw [q4, hup_n x, q3, hup_n z, q2, hup_n x, q1, hup_n y]⟩
theorem R_init (H : h a = some (.inr (5, [.null, .int 0, .int 0, .int 0, .int 0, .null]))) : ∃ h', f_R_init a h (a + 1) = some h' ∧ RZ h' a (fun _ => 0) 0 ∧ ∀ c, c ≠ a → c ≠ a + 1 → h' c = h c := by
  obtain ⟨h1, q1⟩ : ∃ h1, h1 = hup h (a + 1) (.inl (0, 60, .inl (fun _ => 0))) := ⟨_, rfl⟩
  have e1 : h1 a = some (.inr (5, [.null, .int 0, .int 0, .int 0, .int 0, .null])) := by rw [q1, hup_n (by omega)]; exact H
  have E : f_R_init a h (a + 1) = some (hup h1 a (.inr (5, [.ref (a + 1), .int 0, .int 0, .int 0, .int (-1), .null]))) := by
    unfold f_R_init
    rw [Option.bind_some, ← q1, pv_s e1 (by simp), Option.bind_some, pv_s hup_s (by simp), Option.bind_some, pv_s hup_s (by simp), Option.bind_some, pv_s hup_s (by simp), Option.bind_some, pv_s hup_s (by simp), Option.bind_some, pv_s hup_s (by simp), Option.bind_some]
    simp [hup_u]
  exact ⟨_, E, ⟨⟨0, 0, -1, .null, hup_s⟩, ⟨fun _ => 0, by rw [hup_n (by omega), q1, hup_s], fun _ _ => rfl⟩, by decide, fun j hj => absurd hj (by omega)⟩, fun c x y => by rw [hup_n x, q1, hup_n y]⟩
/-- the teller's spares, so many of them -/
def TI (h : Hp) (a k : Nat) : Prop := h a = some (.inr (6, [.ref (a + 1), .null, .null, .int 0])) ∧ (∃ F : Nat → Option Nat, h (a + 1) = some (.inl (3, 9, .inr (.inr (.inr (.inr F))))) ∧ ∀ j, j < k → F j = some (a + 2 + j)) ∧ ∀ j, j < k → FX h (a + 2 + j)
theorem sA_set {h : Hp} {t a ci n k v : Nat} {F : Nat → Option Nat} {fs : List Value} (H : h a = some (.inl (t, n, .inr (.inr (.inr (.inr F)))))) (V : h v = some (.inr (ci, fs))) (hk : k < n) (hn : n < 2 ^ 31) : sA h t a ci (nI k) v = some (hup h a (.inl (t, n, .inr (.inr (.inr (.inr (va_up F k (some v)))))))) := by
  unfold sA
  rw [H, V]
  simp only []
  rw [if_pos ⟨trivial, trivial, nI_in hk hn⟩, nI_clamp (by omega)]
/-- one spare more -/
theorem T_one {k : Nat} (hk : k < 9) (H : TI h a k) : ∃ h', (gA h a 6 0).bind (fun r11 => (r11).bind fun a15 => (aN h a15).bind fun i17 => if i17 ≤ nI k then none else (gA h a 6 0).bind fun r19 => (some (hup h (a + 2 + k) (.inr (1, [.long 0, .long 0, .int 0, .int 0])))).bind fun h21 => (r19).bind fun a22 => (f_F_init (a + 2 + k) h21 (a + 2 + k + 1)).bind fun h23 => (sA h23 3 a22 1 (nI k) (a + 2 + k))) = some h' ∧ TI h' a (k + 1) ∧ ∀ c, c < a ∨ a + 2 + k < c → h' c = h c := by
  obtain ⟨t0, ⟨F, t1, t2⟩, t3⟩ := H
  have g0 : gA h a 6 0 = some (some (a + 1)) := by simp [gA, gV, t0]
  obtain ⟨h2, q2⟩ : ∃ h2, h2 = hup h (a + 2 + k) (.inr (1, [.long 0, .long 1, .int 0, .int 0])) := ⟨_, rfl⟩
  have e1 : h2 (a + 1) = some (.inl (3, 9, .inr (.inr (.inr (.inr F))))) := by rw [q2, hup_n (by omega)]; exact t1
  have e2 : h2 (a + 2 + k) = some (.inr (1, [.long 0, .long 1, .int 0, .int 0])) := by rw [q2, hup_s]
  refine ⟨hup h2 (a + 1) (.inl (3, 9, .inr (.inr (.inr (.inr (va_up F k (some (a + 2 + k)))))))), ?_, ⟨by rw [hup_n (by omega), q2, hup_n (by omega)]; exact t0, ⟨_, hup_s, fun j hj => ?_⟩, fun j hj => ?_⟩, fun c hc => by rw [hup_n (by omega), q2, hup_n (by omega)]⟩
  · rw [g0, Option.bind_some, Option.bind_some, an_any t1 (by decide), Option.bind_some, if_neg (nI_ge hk (by decide)), Option.bind_some, Option.bind_some, Option.bind_some, F_init hup_s, Option.bind_some, hup_u, ← q2, sA_set e1 e2 hk (by decide)]
  · by_cases d : j = k
    · subst d; simp [va_up]
    · have := t2 j (by omega)
      simp [va_up, d, this]
  · by_cases d : j = k
    · subst d
      refine FX.cong (h := h2) ⟨0, 1, 0, 0, e2⟩ (hup_n (by omega))
    · refine ((t3 j (by omega)).cong (h' := h2) (by rw [q2, hup_n (by omega)])).cong (hup_n (by omega))
end
