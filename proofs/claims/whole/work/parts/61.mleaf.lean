/-! ===== the reference: words without parts ===== -/
/-- a method that leaves r at hand -/
def MHand (x : Option (Int32 × Hp)) (h : Hp) (m : Nat) (F : Nat → Value) (r : QR) : Prop := ∃ F', x = some (mcode r, hup h m (ocell 8 40 F')) ∧ MRes F F' r
theorem MHand.same {h : Hp} {m : Nat} {F : Nat → Value} {e : Int32} (H : h m = some (ocell 8 40 F)) (hT : mTy F) : MHand (some (e, h)) h m F (.error e) := ⟨F, by rw [hup_id H]; rfl, MRes.err hT⟩
theorem MHand.zb {x : Option (Int32 × Hp)} {h : Hp} {m : Nat} {F : Nat → Value} {r : QR} (H : MHand x h m F r) : MHand (zb2 x fun i h' => some (i, h')) h m F r := by
  obtain ⟨F', e, g⟩ := H
  exact ⟨F', by rw [e]; rfl, g⟩
section
variable {h : Hp} {m : Nat} {p b : Nat → Nat} {F : Nat → Value}
theorem bit_1 {set g : Nat} (hs : set < 32) (hg : g < 5) : (((nI set >>> (nI g &&& 31)) &&& (1 : Int32)) = (1 : Int32)) ↔ set.testBit g = true := by
  rw [sh_b set hs g hg]
  split
  · rename_i c; exact ⟨fun _ => c, fun _ => rfl⟩
  · rename_i c; exact ⟨fun e => absurd e (by decide), fun e => absurd e c⟩
theorem M_plain_loop (H : MB h m p b) (hF : h m = some (ocell 8 40 F)) (hT : mTy F) {y z set : Nat} (ha : y < 10) (hb : z < 10) (hs : set < 32) : ∀ (k f g s l c : Nat), k + g = 5 → 0 < l → l ≤ 198 ^ g → s ≤ 198 * g * l → c ≤ g → MHand (f_M_plain_12 m (f + k + 1) (nI y) (nI z) (nI set) (lN s) (lN l) (nI c) (nI g) h) h m F (plend (plgo (fun g => p (y * 5 + g)) (fun g => p (z * 5 + g)) set k g s l c)) := by
  intro k
  induction k with
  | zero =>
    intro f g s l c hg hl hl2 hs2 hc
    have g5 : g = 5 := by omega
    subst g5
    rw [pw5] at hl2
    show MHand (t_M_plain_12 _ _ _ _ _ _ _ _ _ _) _ _ _ _
    unfold t_M_plain_12
    rw [if_pos (by decide)]
    unfold plgo plend
    dsimp only
    by_cases c0 : c = 0
    · subst c0
      rw [if_pos rfl, if_pos (show nI 0 = 0 from rfl)]
      exact MHand.same hF hT
    · rw [if_neg (nI_ne0 (by omega) (by omega)), if_neg c0, nI_l (by omega), lN_mul]
      have lm : l * c ≤ l * 5 := Nat.mul_le_mul_left _ hc
      refine MHand.zb (M_take (t := false) hF (Nat.mul_pos hl (by omega)) (by omega) (by omega))
  | succ k ih =>
    intro f g s l c hg hl hl2 hs2 hc
    have hx : p (y * 5 + g) ≤ 198 := H.2.2.2.1 _ (by omega)
    have hz : p (z * 5 + g) ≤ 198 := H.2.2.2.1 _ (by omega)
    show MHand (t_M_plain_12 _ (f_M_plain_12 m (f + k + 1)) _ _ _ _ _ _ _ _) _ _ _ _
    unfold t_M_plain_12
    rw [if_neg (by rw [i5]; exact nI_ge (by omega) (by decide))]
    have up : l ≤ 198 ^ (g + 1) := Nat.le_trans hl2 (Nat.pow_le_pow_right (by decide) (Nat.le_succ g))
    have sp : s ≤ 198 * (g + 1) * l := Nat.le_trans hs2 (Nat.mul_le_mul_right _ (Nat.mul_le_mul_left _ (Nat.le_succ g)))
    unfold plgo f_M_plain_94
    by_cases hbit : set.testBit g = true
    · rw [if_pos ((bit_1 hs (by omega)).mpr hbit), if_pos hbit, H.g0]
      simp only [Option.bind_some]
      rw [M_price H ha (by omega), M_price H hb (by omega)]
      simp only [Option.bind_some]
      by_cases h1 : p (y * 5 + g) = 0
      · rw [if_pos ((nI_eq0 (by omega)).mpr h1), if_pos (Or.inl h1)]
        exact MHand.same hF hT
      · rw [if_neg (fun e => h1 ((nI_eq0 (by omega)).mp e))]
        by_cases h2 : p (z * 5 + g) = 0
        · rw [if_pos ((nI_eq0 (by omega)).mpr h2), if_pos (Or.inr h2)]
          exact MHand.same hF hT
        · rw [if_neg (fun e => h2 ((nI_eq0 (by omega)).mp e)), if_neg (fun e => e.elim h1 h2)]
          generalize hX : p (y * 5 + g) = X at *
          generalize hZ : p (z * 5 + g) = Z at *
          rw [nI_l (by omega), nI_l (by omega), lN_mul, lN_mul, lN_mul, lN_add, nI_1, nI_1]
          refine ih f (g + 1) (s * X + Z * l) (l * X) (c + 1) (by omega) (Nat.mul_pos hl (by omega)) ?_ ?_ (by omega)
          · rw [Nat.pow_succ]
            exact Nat.mul_le_mul hl2 hx
          · have e1 : s * X ≤ 198 * g * l * X := Nat.mul_le_mul_right _ hs2
            have e2 : Z * l ≤ 198 * (l * X) := Nat.mul_le_mul hz (Nat.le_mul_of_pos_right l (by omega))
            have e3 : 198 * (g + 1) * (l * X) = 198 * g * l * X + 198 * (l * X) := by
              rw [Nat.mul_add, Nat.add_mul, Nat.mul_one, Nat.mul_assoc (198 * g) l X]
            omega
    · rw [if_neg (fun e => hbit ((bit_1 hs (by omega)).mp e)), if_neg hbit, nI_1]
      exact ih f (g + 1) s l c (by omega) hl up sp (by omega)
theorem M_plain (H : MB h m p b) (hF : h m = some (ocell 8 40 F)) (hT : mTy F) {y z set : Nat} (ha : y < 10) (hb : z < 10) (hs : set < 32) : MHand (f_M_plain m (nI y) (nI z) (nI set) h) h m F (plq (fun g => p (y * 5 + g)) (fun g => p (z * 5 + g)) set) := by
  unfold f_M_plain
  rw [if_pos H.o]
  exact M_plain_loop H hF hT ha hb hs 5 (FU - 6) 0 0 1 0 rfl (by decide) (by decide) (by decide) (by decide)
theorem frc2_n {x : Option Nat} : frc2 x none = .error eNOT := by cases x <;> rfl
/-- one cost by another comes to hand -/
theorem M_tk2 (hF : h m = some (ocell 8 40 F)) (hT : mTy F) {u l : Nat} (hu : u ≤ 1000000) (hl : l ≤ 1000000) : MHand (f_M_take m (nI u).toInt64 (nI l).toInt64 (0 : Int32) h) h m F (frc2 (some u) (some l)) := by
  rw [nI_l (by omega), nI_l (by omega)]
  unfold frc2
  dsimp only
  by_cases h0 : l = 0
  · subst h0
    rw [if_pos rfl]
    refine ⟨F, ?_, MRes.err hT⟩
    show f_M_take m (lN u) 0 (0 : Int32) h = _
    rw [M_take0 hF, hup_id hF]
    rfl
  · rw [if_neg h0]
    exact M_take (t := false) hF (by omega) (by omega) (by omega)
theorem M_sums_loop (H : MB h m p b) (hF : h m = some (ocell 8 40 F)) (hT : mTy F) {y z set : Nat} (ha : y < 10) (hb : z < 10) (hs : set < 32) : ∀ (k f g s v : Nat), k + g = 5 → s ≤ 198 * g → v ≤ 198 * g → MHand (f_M_sums_9 m (f + k + 1) (nI y) (nI z) (nI set) (nI s) (nI v) (nI g) h) h m F (frc2 (cgo (fun g => p (z * 5 + g)) (msk set fun _ => 1) k g v) (cgo (fun g => p (y * 5 + g)) (msk set fun _ => 1) k g s)) := by
  intro k
  induction k with
  | zero =>
    intro f g s v hg hs2 hv
    have g5 : g = 5 := by omega
    subst g5
    show MHand (t_M_sums_9 _ _ _ _ _ _ _ _ _) _ _ _ _
    unfold t_M_sums_9
    rw [if_pos (by decide)]
    exact MHand.zb (M_tk2 hF hT (by omega) (by omega))
  | succ k ih =>
    intro f g s v hg hs2 hv
    have hx : p (y * 5 + g) ≤ 198 := H.2.2.2.1 _ (by omega)
    have hz : p (z * 5 + g) ≤ 198 := H.2.2.2.1 _ (by omega)
    show MHand (t_M_sums_9 _ (f_M_sums_9 m (f + k + 1)) _ _ _ _ _ _ _) _ _ _ _
    unfold t_M_sums_9
    rw [if_neg (by rw [i5]; exact nI_ge (by omega) (by decide))]
    unfold cgo f_M_sums_89
    by_cases hbit : set.testBit g = true
    · have hmk : msk set (fun _ => 1) g = 1 := by simp [msk, hbit]
      rw [if_pos ((bit_1 hs (by omega)).mpr hbit), hmk, H.g0]
      simp only [Option.bind_some]
      rw [M_price H ha (by omega), M_price H hb (by omega)]
      simp only [Option.bind_some]
      by_cases h1 : p (y * 5 + g) = 0
      · rw [if_pos ((nI_eq0 (by omega)).mpr h1), if_pos (show 1 ≠ 0 ∧ p (y * 5 + g) = 0 from ⟨by decide, h1⟩), frc2_n]
        exact MHand.same hF hT
      · rw [if_neg (fun e => h1 ((nI_eq0 (by omega)).mp e)), if_neg (show ¬ (1 ≠ 0 ∧ p (y * 5 + g) = 0) from fun e => h1 e.2)]
        by_cases h2 : p (z * 5 + g) = 0
        · rw [if_pos ((nI_eq0 (by omega)).mpr h2), if_pos (show 1 ≠ 0 ∧ p (z * 5 + g) = 0 from ⟨by decide, h2⟩)]
          exact MHand.same hF hT
        · rw [if_neg (fun e => h2 ((nI_eq0 (by omega)).mp e)), if_neg (show ¬ (1 ≠ 0 ∧ p (z * 5 + g) = 0) from fun e => h2 e.2), nI_add, nI_add, nI_1, Nat.mul_one, Nat.mul_one]
          exact ih f (g + 1) _ _ (by omega) (by omega) (by omega)
    · have hmk : msk set (fun _ => 1) g = 0 := by simp [msk, hbit]
      rw [if_neg (fun e => hbit ((bit_1 hs (by omega)).mp e)), hmk, if_neg (show ¬ (0 ≠ 0 ∧ p (z * 5 + g) = 0) from fun e => e.1 rfl), if_neg (show ¬ (0 ≠ 0 ∧ p (y * 5 + g) = 0) from fun e => e.1 rfl), nI_1, Nat.mul_zero, Nat.mul_zero, Nat.add_zero, Nat.add_zero]
      exact ih f (g + 1) s v (by omega) (by omega) (by omega)
theorem M_sums (H : MB h m p b) (hF : h m = some (ocell 8 40 F)) (hT : mTy F) {y z set : Nat} (ha : y < 10) (hb : z < 10) (hs : set < 32) : MHand (f_M_sums m (nI y) (nI z) (nI set) h) h m F (frc2 (cst (fun g => p (z * 5 + g)) (msk set fun _ => 1)) (cst (fun g => p (y * 5 + g)) (msk set fun _ => 1))) := by
  unfold f_M_sums
  rw [if_pos H.o]
  exact M_sums_loop H hF hT ha hb hs 5 (FU - 6) 0 0 0 rfl (by decide) (by decide)
/-- the words and marks of the number at base -/
def MN (h : Hp) (m base n : Nat) (W M : Nat → Nat) : Prop := base + n ≤ 320 ∧ ∃ KF MF : Nat → Int32, h (m + 3) = some (.inl (0, 320, .inl KF)) ∧ h (m + 4) = some (.inl (0, 320, .inl MF)) ∧ ∀ k, k < n → KF (base + k) = nI (W k) ∧ (W k = 3 → MF (base + k) = nI (M k)) ∧ (6 ≤ W k ∧ W k < 10 → MF (base + k) = nI (base + M k))
/-- the rows of the reference -/
def mRef (F : Nat → Value) (m : Nat) : Prop := F 0 = .ref (m + 1) ∧ F 1 = .ref (m + 2) ∧ F 3 = .ref (m + 3) ∧ F 4 = .ref (m + 4) ∧ ∀ k, k < 8 → F (18 + k) = .ref (m + 8 + k)
theorem MB.of (hF : h m = some (ocell 8 40 F)) (hR : mRef F m) (h1 : IA h (m + 1) 50 p) (h2 : IA h (m + 2) 150 b) (h3 : ∀ k, k < 50 → p k ≤ 198) (h4 : ∀ k, k < 150 → b k ≤ 18) : MB h m p b := ⟨⟨F, hF, hR.1, hR.2.1⟩, h1, h2, h3, h4⟩
theorem MB.cost_le (H : MB h m p b) {w y z set : Nat} (hw : w < 4) (hy : y < 10) (hz : z < 10) : ∀ u, cst (fun g => p (y * 5 + g)) (msk set (bam b w z)) = some u → u ≤ 53460 :=
  fun _ e => cst_le (fun g hg => H.2.2.2.1 _ (by omega)) (msk_le fun g hg => bam_le H hw hz hg) e
theorem cI_neg {x : Option Nat} (hx : ∀ u, x = some u → u ≤ 1000000) : (cI x < 0 ↔ x = none) ∧ (0 ≤ cI x ↔ x ≠ none) := by
  cases x with
  | none => exact ⟨⟨fun _ => rfl, fun _ => by decide⟩, ⟨fun e => absurd e (by decide), fun e => absurd rfl e⟩⟩
  | some u =>
    have := hx u rfl
    exact ⟨⟨fun e => absurd e (nI_pos (by omega)), fun e => (by cases e)⟩, ⟨fun _ e => (by cases e), fun _ => nI_pos' (by omega)⟩⟩
theorem M_leaf (H : MB h m p b) (hF : h m = some (ocell 8 40 F)) (hR : mRef F m) (hT : mTy F) {base n w i y z set : Nat} {W M : Nat → Nat} (hN : MN h m base n W M) (hi : i < n) (hW : W i < 6) (hM : W i = 3 → M i < 8) (hw : w < 4) (ha : y < 10) (hb : z < 10) (hs : set < 32) : MHand (f_M_leaf m (nI (base + i)) (nI w) (nI y) (nI z) (nI set) h) h m F (lfq p (bam b w) (W i) (M i) y z set) := by
  obtain ⟨hbn, KF, MF, K1, K2, K3⟩ := hN
  have k3 : gA h m 8 3 = some (some (m + 3)) := oc_a hF (by decide) hR.2.2.1
  have k4 : gA h m 8 4 = some (some (m + 4)) := oc_a hF (by decide) hR.2.2.2.1
  have kw : aI h 0 (m + 3) (nI (base + i)) = some (nI (W i)) := by rw [ai_get K1 (by omega) (by decide), (K3 i hi).1]
  have cs : ∀ y z, y < 10 → z < 10 → f_M_costOf m h (nI w) (nI y) (nI z) (nI set) = some (cI (cst (fun g => p (y * 5 + g)) (msk set (bam b w z)))) := fun y z hy hz => M_costOf H hw hy hz hs
  have cl : ∀ y z, y < 10 → z < 10 → ∀ u, cst (fun g => p (y * 5 + g)) (msk set (bam b w z)) = some u → u ≤ 53460 := fun y z hy hz => H.cost_le hw hy hz
  have e84 : ∀ o, o < 10 → W i ≠ 2 → MHand (f_M_leaf_84 m (nI o) (nI (base + i)) (nI w) (nI y) (nI z) (nI set) h) h m F (frc2 (cst (fun g => p (z * 5 + g)) (msk set (bam b w o))) (cst (fun g => p (y * 5 + g)) (msk set (bam b w o)))) := by
    intro o ho h2
    unfold f_M_leaf_84
    rw [cs z o hb ho, cs y o ha ho]
    simp only [Option.bind_some]
    have c1 := cl z o hb ho
    have c2 := cl y o ha ho
    generalize cst (fun g => p (z * 5 + g)) (msk set (bam b w o)) = A at *
    generalize cst (fun g => p (y * 5 + g)) (msk set (bam b w o)) = B at *
    cases A with
    | none =>
      rw [if_pos ((cI_neg (le_m c1)).1.mpr rfl)]
      exact MHand.same hF hT
    | some u =>
      rw [if_neg (fun e => by have := (cI_neg (le_m c1)).1.mp e; cases this)]
      cases B with
      | none =>
        rw [if_neg (fun e => (cI_neg (le_m c2)).2.mp e rfl), frc2_n]
        exact MHand.same hF hT
      | some l =>
        rw [if_pos ((cI_neg (le_m c2)).2.mpr (fun e => by cases e)), k3]
        simp only [Option.bind_some]
        rw [kw]
        simp only [Option.bind_some]
        rw [if_neg (show ¬ nI (W i) = (2 : Int32) from fun e => h2 ((nI_eq (by omega) (by decide)).mp (show nI (W i) = nI 2 from e)))]
        unfold f_M_leaf_188
        exact MHand.zb (M_tk2 hF hT (by have := c1 u rfl; omega) (by have := c2 l rfl; omega))
  unfold f_M_leaf lfq
  rw [if_pos H.o, k3]
  simp only [Option.bind_some]
  rw [kw]
  simp only [Option.bind_some]
  rcases (by omega : W i = 0 ∨ W i = 1 ∨ W i = 2 ∨ W i = 3 ∨ W i = 4 ∨ W i = 5) with e | e | e | e | e | e
  · rw [e, if_neg (by decide), if_neg (by decide), if_pos (by decide), if_pos rfl]
    exact e84 y ha (by omega)
  · rw [e, if_neg (by decide), if_neg (by decide), if_neg (by decide), if_neg (by decide), if_pos (by decide), if_neg (by decide), if_pos rfl]
    exact e84 z hb (by omega)
  · rw [e, if_neg (by decide), if_neg (by decide), if_neg (by decide), if_pos (by decide), if_neg (by decide), if_neg (by decide), if_pos rfl]
    unfold f_M_leaf_59 f_M_leaf_84
    rw [cs z y hb ha, cs y y ha ha, cs z z hb hb, cs y z ha hb]
    simp only [Option.bind_some]
    have c1 := cl z y hb ha
    have c2 := cl y y ha ha
    have c3 := cl z z hb hb
    have c4 := cl y z ha hb
    generalize cst (fun g => p (z * 5 + g)) (msk set (bam b w y)) = A at *
    generalize cst (fun g => p (y * 5 + g)) (msk set (bam b w y)) = B at *
    generalize cst (fun g => p (z * 5 + g)) (msk set (bam b w z)) = C at *
    generalize cst (fun g => p (y * 5 + g)) (msk set (bam b w z)) = D at *
    cases A with
    | none =>
      rw [if_pos ((cI_neg (le_m c1)).1.mpr rfl)]
      exact MHand.same hF hT
    | some u =>
      rw [if_neg (fun e => by have := (cI_neg (le_m c1)).1.mp e; cases this)]
      cases B with
      | none =>
        rw [if_neg (fun e => (cI_neg (le_m c2)).2.mp e rfl), show oadd none D = none from rfl, frc2_n]
        exact MHand.same hF hT
      | some l =>
        rw [if_pos ((cI_neg (le_m c2)).2.mpr (fun e => by cases e)), k3]
        simp only [Option.bind_some]
        rw [kw]
        simp only [Option.bind_some]
        rw [e, if_pos (by decide)]
        cases C with
        | none =>
          rw [if_pos ((cI_neg (le_m c3)).1.mpr rfl)]
          exact MHand.same hF hT
        | some v =>
          rw [if_neg (fun e => by have := (cI_neg (le_m c3)).1.mp e; cases this)]
          cases D with
          | none =>
            rw [if_neg (fun e => (cI_neg (le_m c4)).2.mp e rfl), show oadd (some l) none = none from rfl, frc2_n]
            exact MHand.same hF hT
          | some x =>
            rw [if_pos ((cI_neg (le_m c4)).2.mpr (fun e => by cases e))]
            unfold f_M_leaf_188
            have q1 := c1 u rfl
            have q2 := c2 l rfl
            have q3 := c3 v rfl
            have q4 := c4 x rfl
            have := M_tk2 (u := u + v) (l := l + x) hF hT (by omega) (by omega)
            rw [← nI_add, ← nI_add] at this
            exact MHand.zb this
  · rw [e, if_neg (by decide), if_neg (by decide), if_neg (by decide), if_neg (by decide), if_neg (by decide), if_neg (by decide), if_neg (by decide), if_neg (by decide), if_pos rfl, k4]
    simp only [Option.bind_some]
    rw [ai_get K2 (by omega) (by decide), (K3 i hi).2.1 e]
    simp only [Option.bind_some]
    exact e84 (M i) (by have := hM e; omega) (by omega)
  · rw [e, if_pos (by decide), if_neg (by decide), if_neg (by decide), if_neg (by decide), if_neg (by decide), if_pos rfl]
    exact MHand.zb (M_plain H hF hT ha hb hs)
  · rw [e, if_neg (by decide), if_pos (by decide), if_neg (by decide), if_neg (by decide), if_neg (by decide), if_neg (by decide), if_neg (by decide)]
    exact MHand.zb (M_sums H hF hT ha hb hs)
end
