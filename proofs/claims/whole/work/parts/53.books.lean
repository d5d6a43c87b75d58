/-! ===== books: prices and amounts, costs, what is priced ===== -/
theorem n_and (a b : Nat) : nI a &&& nI b = nI (a &&& b) := by
  unfold nI
  apply Int32.toBitVec_inj.mp
  simp
theorem n_or (a b : Nat) : nI a ||| nI b = nI (a ||| b) := by
  unfold nI
  apply Int32.toBitVec_inj.mp
  simp
section
variable {h : Hp} {a n t k : Nat} {F : Nat → Int32} {x : Int32}
theorem ai_get (H : h a = some (.inl (t, n, .inl F))) (hk : k < n) (hn : n < 2 ^ 31) : aI h t a (nI k) = some (F k) := by
  unfold aI
  rw [H]
  simp only []
  rw [if_pos ⟨trivial, nI_in hk hn⟩, nI_clamp (by omega)]
theorem ai_len (H : h a = some (.inl (t, n, .inl F))) (ht : t < 5) : aN h a = some (nI n) := by
  unfold aN
  rw [H]
  simp only []
  rw [if_pos ht]; rfl
theorem ai_set (H : h a = some (.inl (0, n, .inl F))) (hk : k < n) (hn : n < 2 ^ 31) : sI h a (nI k) x = some (hup h a (.inl (0, n, .inl (upd F k x)))) := by
  unfold sI
  rw [H]
  simp only []
  rw [if_pos ⟨trivial, nI_in hk hn⟩, nI_clamp (by omega)]
end
/-- a row of ints holds these numbers -/
def IA (h : Hp) (a n : Nat) (f : Nat → Nat) : Prop := ∃ F : Nat → Int32, h a = some (.inl (0, n, .inl F)) ∧ ∀ k, k < n → F k = nI (f k)
theorem IA.get {h : Hp} {a n k : Nat} {f : Nat → Nat} (H : IA h a n f) (hk : k < n) (hn : n < 2 ^ 31) : aI h 0 a (nI k) = some (nI (f k)) := by
  obtain ⟨F, H1, H2⟩ := H
  rw [ai_get H1 hk hn, H2 k hk]
theorem IA.len {h : Hp} {a n : Nat} {f : Nat → Nat} (H : IA h a n f) : aN h a = some (nI n) := by
  obtain ⟨F, H1, H2⟩ := H
  exact ai_len H1 (by decide)
def nup (f : Nat → Nat) (k v : Nat) : Nat → Nat := fun j => if j = k then v else f j
theorem nup_s {f : Nat → Nat} {k v : Nat} : nup f k v k = v := by simp [nup]
theorem nup_n {f : Nat → Nat} {k v j : Nat} (h : j ≠ k) : nup f k v j = f j := by simp [nup, h]
theorem IA.set {h : Hp} {a n k v : Nat} {f : Nat → Nat} (H : IA h a n f) (hk : k < n) (hn : n < 2 ^ 31) : ∃ e, sI h a (nI k) (nI v) = some (hup h a e) ∧ IA (hup h a e) a n (nup f k v) := by
  obtain ⟨F, H1, H2⟩ := H
  refine ⟨_, ai_set H1 hk hn, _, hup_s, fun j hj => ?_⟩
  by_cases e : j = k
  · subst e; rw [nup_s, pk_us]
  · rw [nup_n e, pk_un e, H2 j hj]
theorem IA.up {h : Hp} {a b n : Nat} {e : zE} {f : Nat → Nat} (H : IA h a n f) (hab : a ≠ b) : IA (hup h b e) a n f := by
  obtain ⟨F, H1, H2⟩ := H
  exact ⟨F, by rw [hup_n hab]; exact H1, H2⟩
theorem IA.cong {h h' : Hp} {a n : Nat} {f : Nat → Nat} (H : IA h a n f) (e : h' a = h a) : IA h' a n f := by
  obtain ⟨F, H1, H2⟩ := H
  exact ⟨F, by rw [e]; exact H1, H2⟩
/-- the books at a: prices p (5 y + g), amounts q (5 (8 who + y) + g) -/
def BK (h : Hp) (a : Nat) (p q : Nat → Nat) : Prop := h a = some (.inr (0, [.ref (a + 1), .ref (a + 2)])) ∧ IA h (a + 1) 40 p ∧ IA h (a + 2) 160 q ∧ (∀ k, k < 40 → p k ≤ 198) ∧ (∀ k, k < 160 → q k ≤ 54)
theorem BK.cong {h h' : Hp} {a : Nat} {p q : Nat → Nat} (H : BK h a p q) (e : ∀ b, a ≤ b → b < a + 3 → h' b = h b) : BK h' a p q :=
  ⟨by rw [e a (by omega) (by omega)]; exact H.1, H.2.1.cong (e _ (by omega) (by omega)), H.2.2.1.cong (e _ (by omega) (by omega)), H.2.2.2⟩
section
variable {h : Hp} {a : Nat} {p q : Nat → Nat} {y z g w v : Nat}
theorem BK.o (H : BK h a p q) : isO h a 0 = true := by simp [isO, H.1]
theorem BK.g0 (H : BK h a p q) : gA h a 0 0 = some (some (a + 1)) := by simp [gA, gV, H.1]
theorem BK.g1 (H : BK h a p q) : gA h a 0 1 = some (some (a + 2)) := by simp [gA, gV, H.1]
theorem ix5 : nI y * (5 : Int32) + nI g = nI (y * 5 + g) := by rw [show (5 : Int32) = nI 5 from rfl, pk_mul, nI_add]
theorem ix8 : (nI w * (8 : Int32) + nI y) * (5 : Int32) + nI g = nI ((w * 8 + y) * 5 + g) := by rw [show (8 : Int32) = nI 8 from rfl, pk_mul, nI_add, ix5]
theorem B_priceOf (H : BK h a p q) (hy : y < 8) (hg : g < 5) : f_B_priceOf a h (nI y) (nI g) = some (nI (p (y * 5 + g))) := by
  unfold f_B_priceOf
  rw [if_pos H.o, ix5, if_neg (nI_pos (by omega)), H.g0]
  simp only [Option.bind_some]
  rw [H.2.1.len]
  simp only [Option.bind_some]
  rw [if_pos (nI_lt (by omega) (by decide)), H.2.1.get (by omega) (by decide)]
  rfl
theorem B_amountOf (H : BK h a p q) (hw : w < 4) (hy : y < 8) (hg : g < 5) : f_B_amountOf a h (nI w) (nI y) (nI g) = some (nI (q ((w * 8 + y) * 5 + g))) := by
  unfold f_B_amountOf
  rw [if_pos H.o, ix8, if_neg (nI_pos (by omega)), H.g1]
  simp only [Option.bind_some]
  rw [H.2.2.1.len]
  simp only [Option.bind_some]
  rw [if_pos (nI_lt (by omega) (by decide)), H.2.2.1.get (by omega) (by decide)]
  rfl
theorem B_setPrice (H : BK h a p q) (hy : y < 8) (hg : g < 5) (hv : v ≤ 198) : ∃ e, f_B_setPrice a (nI y) (nI g) (nI v) h = some (hup h (a + 1) e) ∧ BK (hup h (a + 1) e) a (nup p (y * 5 + g) v) q := by
  obtain ⟨e, E1, E2⟩ := H.2.1.set (k := y * 5 + g) (v := v) (by omega) (by decide)
  refine ⟨e, ?_, by rw [hup_n (by omega)]; exact H.1, E2, H.2.2.1.up (by omega), ?_, H.2.2.2.2⟩
  · unfold f_B_setPrice
    rw [if_pos H.o, ix5, if_neg (nI_pos (by omega)), H.g0]
    simp only [Option.bind_some]
    rw [H.2.1.len]
    simp only [Option.bind_some]
    rw [if_neg (nI_ge (by omega) (by decide)), E1]
    rfl
  · intro k hk
    unfold nup
    split
    · exact hv
    · exact H.2.2.2.1 k hk
theorem B_setAmount (H : BK h a p q) (hw : w < 4) (hy : y < 8) (hg : g < 5) (hv : v ≤ 54) : ∃ e, f_B_setAmount a (nI w) (nI y) (nI g) (nI v) h = some (hup h (a + 2) e) ∧ BK (hup h (a + 2) e) a p (nup q ((w * 8 + y) * 5 + g) v) := by
  obtain ⟨e, E1, E2⟩ := H.2.2.1.set (k := (w * 8 + y) * 5 + g) (v := v) (by omega) (by decide)
  refine ⟨e, ?_, by rw [hup_n (by omega)]; exact H.1, H.2.1.up (by omega), E2, H.2.2.2.1, ?_⟩
  · unfold f_B_setAmount
    rw [if_pos H.o, ix8, if_neg (nI_pos (by omega)), H.g1]
    simp only [Option.bind_some]
    rw [H.2.2.1.len]
    simp only [Option.bind_some]
    rw [if_neg (nI_ge (by omega) (by decide)), E1]
    rfl
  · intro k hk
    unfold nup
    split
    · exact hv
    · exact H.2.2.2.2 k hk
end
/-- the cost of b (g) at the prices f (g): none where something bought has no price -/
def cgo (f b : Nat → Nat) : Nat → Nat → Nat → Option Nat
  | 0, _, s => some s
  | k + 1, g, s => if b g ≠ 0 ∧ f g = 0 then none else cgo f b k (g + 1) (s + f g * b g)
def cst (f b : Nat → Nat) : Option Nat := cgo f b 5 0 0
/-- amounts of the goods of a set -/
def msk (set : Nat) (b : Nat → Nat) : Nat → Nat := fun g => if set.testBit g then b g else 0
def cI (r : Option Nat) : Int32 := match r with
  | some s => nI s
  | none => -1
theorem sh_b : ∀ s, s < 32 → ∀ g, g < 5 → ((nI s >>> (nI g &&& 31)) &&& (1 : Int32)) = if s.testBit g then nI 1 else nI 0 := by decide +kernel
theorem sh_1 : ∀ g, g < 5 → ((1 : Int32) <<< (nI g &&& 31)) = nI (2 ^ g) := by decide +kernel
theorem i5 : (5 : Int32) = nI 5 := rfl
theorem i8 : (8 : Int32) = nI 8 := rfl
theorem i3 : (3 : Int32) = nI 3 := rfl
theorem i1 : (1 : Int32) = nI 1 := rfl
theorem i0 : (0 : Int32) = nI 0 := rfl
theorem nI_eq0 {x : Nat} (h : x < 2 ^ 31) : nI x = 0 ↔ x = 0 := by rw [i0, nI_eq h (by decide)]
theorem nI_le0 {x : Nat} (h : x < 2 ^ 31) : nI x ≤ 0 ↔ x = 0 := by rw [i0, nI_leI h (by decide)]; omega
theorem cgo_le {f b : Nat → Nat} : ∀ (k g s r : Nat), (∀ j, j < g + k → f j ≤ 198) → (∀ j, j < g + k → b j ≤ 54) → cgo f b k g s = some r → r ≤ s + k * 10692 := by
  intro k
  induction k with
  | zero => intro g s r _ _ e; cases e; omega
  | succ k ih =>
    intro g s r hf hb e
    unfold cgo at e
    split at e
    · cases e
    · have := ih (g + 1) _ r (fun j hj => hf j (by omega)) (fun j hj => hb j (by omega)) e
      have h1 := hf g (by omega)
      have h2 := hb g (by omega)
      have : f g * b g ≤ 198 * 54 := Nat.mul_le_mul h1 h2
      omega
theorem cst_le {f b : Nat → Nat} {r : Nat} (hf : ∀ j, j < 5 → f j ≤ 198) (hb : ∀ j, j < 5 → b j ≤ 54) (e : cst f b = some r) : r ≤ 53460 := by
  have := cgo_le 5 0 0 r (by simpa using hf) (by simpa using hb) e
  omega
section
variable {h : Hp} {a : Nat} {p q : Nat → Nat}
theorem B_cost_loop (H : BK h a p q) {w y z set : Nat} (hw : w < 4) (hy : y < 8) (hz : z < 8) (hs : set < 32) : ∀ (k n g s : Nat), k + g = 5 → s + k * 10692 ≤ 53460 → f_B_costOver_6 a h (n + k + 1) (nI set) (nI w) (nI y) (nI z) (nI s) (nI g) = some (cI (cgo (fun g => p (y * 5 + g)) (msk set fun g => q ((w * 8 + z) * 5 + g)) k g s)) := by
  intro k
  induction k with
  | zero =>
    intro n g s hg hsm
    show t_B_costOver_6 _ _ _ _ _ _ _ _ _ = _
    unfold t_B_costOver_6
    rw [if_pos (by rw [i5]; exact nI_le (by omega) (by omega))]
    rfl
  | succ k ih =>
    intro n g s hg hsm
    have hp : p (y * 5 + g) ≤ 198 := H.2.2.2.1 _ (by omega)
    have hq : q ((w * 8 + z) * 5 + g) ≤ 54 := H.2.2.2.2 _ (by omega)
    have hsk : s + k * 10692 ≤ 53460 := Nat.le_trans (Nat.add_le_add_left (Nat.mul_le_mul_right _ (Nat.le_succ k)) s) hsm
    have hm : p (y * 5 + g) * q ((w * 8 + z) * 5 + g) ≤ 198 * 54 := Nat.mul_le_mul hp hq
    show t_B_costOver_6 _ _ (f_B_costOver_6 a h (n + k + 1)) _ _ _ _ _ _ = _
    unfold t_B_costOver_6
    rw [if_neg (by rw [i5]; exact nI_ge (by omega) (by decide)), sh_b set hs g (by omega)]
    unfold cgo
    by_cases hb : set.testBit g = true
    · rw [if_pos hb, if_neg (by decide), B_amountOf H hw hz (by omega)]
      simp only [Option.bind_some]
      unfold f_B_costOver_34
      have hmk : msk set (fun g => q ((w * 8 + z) * 5 + g)) g = q ((w * 8 + z) * 5 + g) := by simp [msk, hb]
      rw [hmk]
      by_cases h0 : q ((w * 8 + z) * 5 + g) = 0
      · rw [if_pos ((nI_eq0 (by omega)).mpr h0), if_neg (fun e => e.1 h0), h0]
        unfold f_B_costOver_70
        rw [nI_1, Nat.mul_zero, Nat.add_zero]
        exact ih n (g + 1) s (by omega) hsk
      · rw [if_neg (fun e => h0 ((nI_eq0 (by omega)).mp e)), B_priceOf H hy (by omega)]
        simp only [Option.bind_some]
        by_cases h1 : p (y * 5 + g) = 0
        · rw [if_pos ((nI_eq0 (by omega)).mpr h1), if_pos ⟨h0, h1⟩]
          rfl
        · rw [if_neg (fun e => h1 ((nI_eq0 (by omega)).mp e)), if_neg (fun e => h1 e.2)]
          unfold f_B_costOver_70
          rw [nI_1, pk_mul, nI_add]
          exact ih n (g + 1) _ (by omega) (by omega)
    · have hmk : msk set (fun g => q ((w * 8 + z) * 5 + g)) g = 0 := by simp [msk, hb]
      rw [if_neg hb, if_pos (by decide), hmk, if_neg (fun e => e.1 rfl)]
      unfold f_B_costOver_34
      rw [if_pos rfl]
      unfold f_B_costOver_70
      rw [nI_1, Nat.mul_zero, Nat.add_zero]
      exact ih n (g + 1) s (by omega) hsk
theorem B_costOver (H : BK h a p q) {w y z set : Nat} (hw : w < 4) (hy : y < 8) (hz : z < 8) (hs : set < 32) : f_B_costOver a h (nI set) (nI w) (nI y) (nI z) = some (cI (cst (fun g => p (y * 5 + g)) (msk set fun g => q ((w * 8 + z) * 5 + g)))) := by
  unfold f_B_costOver
  rw [if_pos H.o]
  exact B_cost_loop H hw hy hz hs 5 (FU - 6) 0 0 rfl (by decide)
end
