/-! ===== worths speak of the years and goods that are there alone ===== -/
theorem cgo_cong {f f' b b' : Nat → Nat} : ∀ (k g s : Nat), (∀ j, j < g + k → f j = f' j ∧ b j = b' j) → cgo f b k g s = cgo f' b' k g s := by
  intro k
  induction k with
  | zero => intro g s _; rfl
  | succ k ih =>
    intro g s h
    unfold cgo
    have := h g (by omega)
    rw [this.1, this.2, ih (g + 1) _ (fun j hj => h j (by omega))]
theorem cst_cong {f f' b b' : Nat → Nat} (h : ∀ j, j < 5 → f j = f' j ∧ b j = b' j) : cst f b = cst f' b' := cgo_cong 5 0 0 (by simpa using h)
theorem pgo_cong {f f' : Nat → Nat} : ∀ (k g m : Nat), (∀ j, j < g + k → f j = f' j) → pgo f k g m = pgo f' k g m := by
  intro k
  induction k with
  | zero => intro g m _; rfl
  | succ k ih =>
    intro g m h
    unfold pgo
    rw [h g (by omega), ih (g + 1) _ (fun j hj => h j (by omega))]
theorem pmk_cong {f f' : Nat → Nat} (h : ∀ j, j < 5 → f j = f' j) : pmk f = pmk f' := pgo_cong 5 0 0 (by simpa using h)
theorem ago_cong {p p' : Nat → Nat} (hp : ∀ k, k < 40 → p k = p' k) : ∀ (k y m : Nat), y + k ≤ 8 → ago p k y m = ago p' k y m := by
  intro k
  induction k with
  | zero => intro y m _; rfl
  | succ k ih =>
    intro y m h
    unfold ago
    rw [pmk_cong (f' := fun g => p' (y * 5 + g)) (fun g hg => hp _ (by omega)), ih (y + 1) _ (by omega)]
theorem amk_cong {p p' : Nat → Nat} (hp : ∀ k, k < 40 → p k = p' k) : amk p = amk p' := ago_cong hp 8 0 0 (by decide)
theorem plgo_cong {fa fb fa' fb' : Nat → Nat} {set : Nat} : ∀ (k g s l m : Nat), (∀ j, j < g + k → fa j = fa' j ∧ fb j = fb' j) → plgo fa fb set k g s l m = plgo fa' fb' set k g s l m := by
  intro k
  induction k with
  | zero => intro g s l m _; rfl
  | succ k ih =>
    intro g s l m h
    unfold plgo
    have := h g (by omega)
    rw [this.1, this.2, ih (g + 1) _ _ _ (fun j hj => h j (by omega)), ih (g + 1) _ _ _ (fun j hj => h j (by omega))]
theorem lfq_cong {p p' : Nat → Nat} {am am' : Nat → Nat → Nat} (hp : ∀ k, k < 40 → p k = p' k) (ha : ∀ z g, z < 8 → g < 5 → am z g = am' z g) {k v a b set : Nat} (hk : k < 6) (hv : k = 3 → v < 8) (h1 : a < 8) (h2 : b < 8) : lfq p am k v a b set = lfq p' am' k v a b set := by
  have c : ∀ y z, y < 8 → z < 8 → cst (fun g => p (y * 5 + g)) (msk set (am z)) = cst (fun g => p' (y * 5 + g)) (msk set (am' z)) := fun y z hy hz => cst_cong fun g hg => ⟨hp _ (by omega), by unfold msk; rw [ha z g hz hg]⟩
  have c1 : ∀ y, y < 8 → cst (fun g => p (y * 5 + g)) (msk set fun _ => 1) = cst (fun g => p' (y * 5 + g)) (msk set fun _ => 1) := fun y hy => cst_cong fun g hg => ⟨hp _ (by omega), rfl⟩
  have pl : plq (fun g => p (a * 5 + g)) (fun g => p (b * 5 + g)) set = plq (fun g => p' (a * 5 + g)) (fun g => p' (b * 5 + g)) set := by
    unfold plq
    rw [plgo_cong (fa' := fun g => p' (a * 5 + g)) (fb' := fun g => p' (b * 5 + g)) 5 0 0 1 0 (fun j hj => ⟨hp _ (by omega), hp _ (by omega)⟩)]
  unfold lfq
  dsimp only
  by_cases k3 : k = 3
  · have := hv k3
    rw [c b a h2 h1, c a a h1 h1, c b b h2 h2, c a b h1 h2, c b v h2 this, c a v h1 this, pl, c1 b h2, c1 a h1]
  · rw [c b a h2 h1, c a a h1 h1, c b b h2 h2, c a b h1 h2, pl, c1 b h2, c1 a h1, if_neg k3, if_neg k3]
theorem lnk_cong {f f' : Nat → Nat → QR} (h : ∀ y z, y < 8 → z < 8 → f y z = f' y z) {up : Bool} : ∀ (k y : Nat) (acc : QR), way up y k → y < 8 → lnk f up k y acc = lnk f' up k y acc := by
  intro k
  induction k with
  | zero => intro y acc _ _; rfl
  | succ k ih =>
    intro y acc hw hy
    unfold lnk
    cases up with
    | true =>
      have hw : y + (k + 1) < 8 := hw
      rw [h y (nx true y) hy (show y + 1 < 8 by omega)]
      exact ih (nx true y) _ (show y + 1 + k < 8 by omega) (show y + 1 < 8 by omega)
    | false =>
      have hw : k + 1 ≤ y ∧ y < 8 := hw
      rw [h y (nx false y) hy (show y - 1 < 8 by omega)]
      exact ih (nx false y) _ (show k ≤ y - 1 ∧ y - 1 < 8 by omega) (show y - 1 < 8 by omega)
theorem lnq_cong {f f' : Nat → Nat → QR} (h : ∀ y z, y < 8 → z < 8 → f y z = f' y z) {a b : Nat} (ha : a < 8) (hb : b < 8) : lnq f a b = lnq f' a b := by
  unfold lnq
  by_cases e : a = b
  · rw [if_pos e, if_pos e]
  · rw [if_neg e, if_neg e]
    by_cases c : a < b
    · rw [decide_eq_true c, h a (nx true a) ha (show a + 1 < 8 by omega)]
      exact lnk_cong h _ _ _ (show a + 1 + _ < 8 by unfold far; omega) (show a + 1 < 8 by omega)
    · rw [decide_eq_false c, h a (nx false a) ha (show a - 1 < 8 by omega)]
      exact lnk_cong h _ _ _ (show _ ≤ a - 1 ∧ a - 1 < 8 by unfold far; omega) (show a - 1 < 8 by omega)
theorem ev_cong {W M p p' : Nat → Nat} {am am' : Nat → Nat → Nat} (hp : ∀ k, k < 40 → p k = p' k) (ha : ∀ z g, z < 8 → g < 5 → am z g = am' z g) : ∀ (d i j a b set : Nat), good W M d i j → a < 8 → b < 8 → ev W M p am d i a b set = ev W M p' am' d i a b set := by
  intro d
  induction d with
  | zero => intro i j a b set h; exact h.elim
  | succ d ih =>
    intro i j a b set h h1 h2
    unfold ev
    rcases h with ⟨hW, hij, hM⟩ | ⟨hW, hW2, hg1, hg2⟩ | ⟨hW, hW2, hg1⟩
    · rw [if_pos hW, if_pos hW, lfq_cong hp ha hW hM h1 h2]
    · rw [if_neg (show ¬ W i < 6 by omega), if_neg (show ¬ W i < 6 by omega), if_pos hW2, if_pos hW2, ih _ _ _ _ _ hg1 h1 h2, ih _ _ _ _ _ hg2 h1 h2]
    · rw [if_neg (show ¬ W i < 6 by omega), if_neg (show ¬ W i < 6 by omega), if_neg (show ¬ W i < 10 by omega), if_neg (show ¬ W i < 10 by omega), ih _ _ b a _ hg1 h2 h1, lnq_cong (f' := fun y z => ev W M p' am' d (i + 1) y z set) (fun y z hy hz => ih _ _ _ _ _ hg1 hy hz) h1 h2, ih _ _ a b _ hg1 h1 h2, pmk_cong (f' := fun g => p' (a * 5 + g)) (fun g hg => hp _ (by omega)), pmk_cong (f' := fun g => p' (b * 5 + g)) (fun g hg => hp _ (by omega))]
theorem evw_cong {W M p p' : Nat → Nat} {am am' : Nat → Nat → Nat} {n a b : Nat} (hg : good W M 8 0 n) (hp : ∀ k, k < 40 → p k = p' k) (ha : ∀ z g, z < 8 → g < 5 → am z g = am' z g) (h1 : a < 8) (h2 : b < 8) : evw W M p am a b = evw W M p' am' a b := by
  unfold evw
  rw [amk_cong hp, ev_cong hp ha 8 0 n a b _ hg h1 h2]
theorem evl_cong {W M p p' : Nat → Nat} {am am' : Nat → Nat → Nat} {n a b : Nat} (hg : good W M 8 0 n) (hp : ∀ k, k < 40 → p k = p' k) (ha : ∀ z g, z < 8 → g < 5 → am z g = am' z g) (h1 : a < 8) (h2 : b < 8) : evl W M p am a b = evl W M p' am' a b := by
  unfold evl
  rw [amk_cong hp]
  exact lnq_cong (fun y z hy hz => ev_cong hp ha 8 0 n y z _ hg hy hz) h1 h2
