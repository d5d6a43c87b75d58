/-! ===== what is priced; the reference's books ===== -/
theorem i31 : (31 : Int32) = nI 31 := rfl
theorem i50 : (50 : Int32) = nI 50 := rfl
/-- the goods with a price -/
def pgo (f : Nat → Nat) : Nat → Nat → Nat → Nat
  | 0, _, m => m
  | k + 1, g, m => pgo f k (g + 1) (if f g = 0 then m else m ||| 2 ^ g)
def pmk (f : Nat → Nat) : Nat := pgo f 5 0 0
theorem pgo_lt {f : Nat → Nat} : ∀ (k g m : Nat), g + k ≤ 5 → m < 32 → pgo f k g m < 32 := by
  intro k
  induction k with
  | zero => intro g m _ hm; exact hm
  | succ k ih =>
    intro g m hg hm
    unfold pgo
    refine ih (g + 1) _ (by omega) ?_
    split
    · exact hm
    · exact Nat.or_lt_two_pow (n := 5) hm (Nat.pow_lt_pow_right (by decide) (by omega))
theorem pmk_lt (f : Nat → Nat) : pmk f < 32 := pgo_lt 5 0 0 (by decide) (by decide)
/-- the goods priced in any of the years y .. -/
def ago (p : Nat → Nat) : Nat → Nat → Nat → Nat
  | 0, _, m => m
  | k + 1, y, m => ago p k (y + 1) (m ||| pmk fun g => p (y * 5 + g))
def amk (p : Nat → Nat) : Nat := ago p 8 0 0
section
variable {h : Hp} {a : Nat} {p q : Nat → Nat}
theorem B_pm_loop (H : BK h a p q) {y : Nat} (hy : y < 8) : ∀ (k n g m : Nat), k + g = 5 → f_B_goodsPricedIn_4 a h (n + k + 1) (nI y) (nI m) (nI g) = some (nI (pgo (fun g => p (y * 5 + g)) k g m)) := by
  intro k
  induction k with
  | zero =>
    intro n g m hg
    show t_B_goodsPricedIn_4 _ _ _ _ _ _ = _
    unfold t_B_goodsPricedIn_4
    rw [if_pos (by rw [i5]; exact nI_le (by omega) (by omega))]
    rfl
  | succ k ih =>
    intro n g m hg
    have hp : p (y * 5 + g) ≤ 198 := H.2.2.2.1 _ (by omega)
    show t_B_goodsPricedIn_4 _ _ (f_B_goodsPricedIn_4 a h (n + k + 1)) _ _ _ = _
    unfold t_B_goodsPricedIn_4
    rw [if_neg (by rw [i5]; exact nI_ge (by omega) (by decide)), B_priceOf H hy (by omega)]
    simp only [Option.bind_some]
    unfold pgo f_B_goodsPricedIn_24
    by_cases h0 : p (y * 5 + g) = 0
    · rw [if_pos ((nI_le0 (by omega)).mpr h0), if_pos h0, nI_1]
      exact ih n (g + 1) m (by omega)
    · rw [if_neg (fun e => h0 ((nI_le0 (by omega)).mp e)), if_neg h0, nI_1, sh_1 g (by omega), n_or]
      exact ih n (g + 1) _ (by omega)
theorem B_goodsPricedIn (H : BK h a p q) {y : Nat} (hy : y < 8) : f_B_goodsPricedIn a h (nI y) = some (nI (pmk fun g => p (y * 5 + g))) := by
  unfold f_B_goodsPricedIn
  rw [if_pos H.o]
  exact B_pm_loop H hy 5 (FU - 6) 0 0 rfl
theorem B_am_loop (H : BK h a p q) : ∀ (k n y m : Nat), k + y = 8 → f_B_goodsThere_4 a h (n + k + 1) (nI m) (nI y) = some (nI (ago p k y m)) := by
  intro k
  induction k with
  | zero =>
    intro n y m hy
    show t_B_goodsThere_4 _ _ _ _ _ = _
    unfold t_B_goodsThere_4
    rw [if_pos (by rw [i8]; exact nI_le (by omega) (by omega))]
    rfl
  | succ k ih =>
    intro n y m hy
    show t_B_goodsThere_4 _ _ (f_B_goodsThere_4 a h (n + k + 1)) _ _ = _
    unfold t_B_goodsThere_4
    rw [if_neg (by rw [i8]; exact nI_ge (by omega) (by decide)), B_goodsPricedIn H (by omega)]
    simp only [Option.bind_some]
    rw [n_or, nI_1]
    unfold ago
    exact ih n (y + 1) _ (by omega)
theorem B_goodsThere (H : BK h a p q) : f_B_goodsThere a h = some (nI (amk p)) := by
  unfold f_B_goodsThere
  rw [if_pos H.o]
  exact B_am_loop H 8 (FU - 9) 0 0 rfl
end
/-- the sum of prices over a set, none at a hole -/
theorem B_pricesOver_at {h : Hp} {a : Nat} {p q : Nat → Nat} (H : BK h a p q) {y set : Nat} (hy : y < 8) (hs : set < 32) : ∀ (k n g s : Nat), k + g = 5 → s + k * 10692 ≤ 53460 → f_B_pricesOver_5 a h (n + k + 1) (nI set) (nI y) (nI s) (nI g) = some (cI (cgo (fun g => p (y * 5 + g)) (msk set fun _ => 1) k g s)) := by
  intro k
  induction k with
  | zero =>
    intro n g s hg hsm
    show t_B_pricesOver_5 _ _ _ _ _ _ _ = _
    unfold t_B_pricesOver_5
    rw [if_pos (by rw [i5]; exact nI_le (by omega) (by omega))]
    rfl
  | succ k ih =>
    intro n g s hg hsm
    have hp : p (y * 5 + g) ≤ 198 := H.2.2.2.1 _ (by omega)
    have hsk : s + k * 10692 ≤ 53460 := Nat.le_trans (Nat.add_le_add_left (Nat.mul_le_mul_right _ (Nat.le_succ k)) s) hsm
    have hsm' : s + (k * 10692 + 10692) ≤ 53460 := by rw [← Nat.succ_mul]; exact hsm
    show t_B_pricesOver_5 _ _ (f_B_pricesOver_5 a h (n + k + 1)) _ _ _ _ = _
    unfold t_B_pricesOver_5
    rw [if_neg (by rw [i5]; exact nI_ge (by omega) (by decide)), sh_b set hs g (by omega)]
    unfold cgo f_B_pricesOver_44
    by_cases hb : set.testBit g = true
    · rw [if_pos hb, if_neg (by decide), B_priceOf H hy (by omega)]
      simp only [Option.bind_some]
      have hmk : msk set (fun _ => 1) g = 1 := by simp [msk, hb]
      rw [hmk]
      by_cases h1 : p (y * 5 + g) = 0
      · rw [if_pos ((nI_eq0 (by omega)).mpr h1), if_pos ⟨by decide, h1⟩]
        rfl
      · rw [if_neg (fun e => h1 ((nI_eq0 (by omega)).mp e)), if_neg (fun e => h1 e.2), nI_1, nI_add, Nat.mul_one]
        exact ih n (g + 1) _ (by omega) (by omega)
    · have hmk : msk set (fun _ => 1) g = 0 := by simp [msk, hb]
      rw [if_neg hb, if_pos (by decide), hmk, if_neg (fun e => e.1 rfl), nI_1, Nat.mul_zero, Nat.add_zero]
      exact ih n (g + 1) s (by omega) hsk
theorem B_pricesOver {h : Hp} {a : Nat} {p q : Nat → Nat} (H : BK h a p q) {y set : Nat} (hy : y < 8) (hs : set < 32) : f_B_pricesOver a h (nI set) (nI y) = some (cI (cst (fun g => p (y * 5 + g)) (msk set fun _ => 1))) := by
  unfold f_B_pricesOver
  rw [if_pos H.o]
  exact B_pricesOver_at H hy hs 5 (FU - 6) 0 0 rfl (by decide)
/-- the reference's books -/
def MB (h : Hp) (m : Nat) (p b : Nat → Nat) : Prop := (∃ F, h m = some (ocell 8 40 F) ∧ F 0 = .ref (m + 1) ∧ F 1 = .ref (m + 2)) ∧ IA h (m + 1) 50 p ∧ IA h (m + 2) 150 b ∧ (∀ k, k < 50 → p k ≤ 198) ∧ (∀ k, k < 150 → b k ≤ 18)
/-- what a person, or all three, bought -/
def bam (b : Nat → Nat) (w z g : Nat) : Nat := if w = 3 then b (z * 5 + g) + b (50 + (z * 5 + g)) + b (100 + (z * 5 + g)) else b (50 * w + (z * 5 + g))
section
variable {h : Hp} {m : Nat} {p b : Nat → Nat}
theorem MB.o (H : MB h m p b) : isO h m 8 = true := by
  obtain ⟨⟨F, H1, _⟩, _⟩ := H
  exact oc_o H1
theorem MB.g0 (H : MB h m p b) : gA h m 8 0 = some (some (m + 1)) := by
  obtain ⟨⟨F, H1, H2, _⟩, _⟩ := H
  exact oc_a H1 (by decide) H2
theorem MB.g1 (H : MB h m p b) : gA h m 8 1 = some (some (m + 2)) := by
  obtain ⟨⟨F, H1, _, H2⟩, _⟩ := H
  exact oc_a H1 (by decide) H2
theorem mx5 {y g : Nat} : (5 : Int32) * nI y + nI g = nI (y * 5 + g) := by rw [i5, pk_mul, nI_add, Nat.mul_comm]
theorem mx50 {w y g : Nat} : (50 : Int32) * nI w + (5 : Int32) * nI y + nI g = nI (50 * w + (y * 5 + g)) := by rw [i50, i5, pk_mul, pk_mul, nI_add, nI_add, Nat.mul_comm 5, Nat.add_assoc]
theorem M_b25 (H : MB h m p b) {w z g s i : Nat} {k6 : Int32 → Int32 → Int32 → Int32 → Int32 → Option Int32} {x : Int32} (hi : i < 3) (hz : z < 10) (hg : g < 5) : f_M_buying_25 m h k6 (nI s) x (nI z) (nI g) (nI i) = k6 x (nI z) (nI g) (nI (s + b (50 * i + (z * 5 + g)))) (nI (i + 1)) := by
  unfold f_M_buying_25
  rw [H.g1]
  simp only [Option.bind_some]
  rw [mx50, H.2.2.1.get (by omega) (by decide)]
  simp only [Option.bind_some]
  unfold f_M_buying_45
  rw [nI_add, nI_1]
theorem M_buying (H : MB h m p b) {w z g : Nat} (hw : w < 4) (hz : z < 10) (hg : g < 5) : f_M_buying m h (nI w) (nI z) (nI g) = some (nI (bam b w z g)) := by
  unfold f_M_buying
  rw [if_pos H.o]
  have st : ∀ (n s i : Nat), i < 3 → f_M_buying_6 m h (n + 1) (nI w) (nI z) (nI g) (nI s) (nI i) = f_M_buying_6 m h n (nI w) (nI z) (nI g) (nI (if w = 3 ∨ w = i then s + b (50 * i + (z * 5 + g)) else s)) (nI (i + 1)) := by
    intro n s i hi
    show t_M_buying_6 _ _ (f_M_buying_6 m h n) _ _ _ _ _ = _
    unfold t_M_buying_6
    rw [if_neg (by rw [i3]; exact nI_ge hi (by decide))]
    by_cases h3 : w = 3
    · rw [if_pos (by rw [h3]; rfl), M_b25 H (w := w) hi hz hg, if_pos (Or.inl h3)]
    · rw [if_neg (show ¬ nI w = (3 : Int32) from fun e => h3 ((nI_eq (by omega) (by decide)).mp (show nI w = nI 3 from e)))]
      by_cases hwi : w = i
      · rw [if_pos (by rw [hwi]), M_b25 H (w := w) hi hz hg, if_pos (Or.inr hwi)]
      · rw [if_neg (fun e => hwi ((nI_eq (by omega) (by omega)).mp e)), if_neg (fun e => e.elim h3 hwi)]
        unfold f_M_buying_45
        rw [i0, nI_add, nI_1]; rfl
  have en : ∀ (n s : Nat), f_M_buying_6 m h (n + 1) (nI w) (nI z) (nI g) (nI s) (nI 3) = some (nI s) := by
    intro n s
    show t_M_buying_6 _ _ _ _ _ _ _ _ = _
    unfold t_M_buying_6
    rw [if_pos (by decide)]
  show f_M_buying_6 m h (FU - 4 + 1 + 1 + 1 + 1) (nI w) (nI z) (nI g) (nI 0) (nI 0) = _
  rw [st _ _ 0 (by decide), st _ _ 1 (by decide), st _ _ 2 (by decide), en]
  unfold bam
  congr 2
  by_cases h3 : w = 3
  · subst h3
    simp
  · rw [if_neg h3]
    rcases (by omega : w = 0 ∨ w = 1 ∨ w = 2) with rfl | rfl | rfl <;> simp
theorem M_price (H : MB h m p b) {y g : Nat} (hy : y < 10) (hg : g < 5) : aI h 0 (m + 1) ((5 : Int32) * nI y + nI g) = some (nI (p (y * 5 + g))) := by
  rw [mx5, H.2.1.get (by omega) (by decide)]
theorem bam_le (H : MB h m p b) {w z g : Nat} (hw : w < 4) (hz : z < 10) (hg : g < 5) : bam b w z g ≤ 54 := by
  have hb := H.2.2.2.2
  unfold bam
  split
  · have := hb (z * 5 + g) (by omega)
    have := hb (50 + (z * 5 + g)) (by omega)
    have := hb (100 + (z * 5 + g)) (by omega)
    omega
  · have := hb (50 * w + (z * 5 + g)) (by omega)
    omega
theorem bit_mul {set g x : Nat} (hs : set < 32) (hg : g < 5) : ((nI set >>> (nI g &&& 31)) &&& (1 : Int32)) * nI x = nI (if set.testBit g then x else 0) := by
  rw [sh_b set hs g hg]
  split
  · rw [pk_mul, Nat.one_mul]
  · rw [pk_mul, Nat.zero_mul]
/-- a hole was met -/
theorem M_cost_hole (H : MB h m p b) {w y z set : Nat} (hw : w < 4) (hy : y < 10) (hz : z < 10) (hs : set < 32) : ∀ (k n g : Nat) (s : Int32), k + g = 5 → f_M_costOf_9 m h (n + k + 1) (nI w) (nI y) (nI z) (nI set) s (1 : Int32) (nI g) = some (-1) := by
  intro k
  induction k with
  | zero =>
    intro n g s hg
    show t_M_costOf_9 _ _ _ _ _ _ _ _ _ _ = _
    unfold t_M_costOf_9
    rw [if_pos (by rw [i5]; exact nI_le (by omega) (by omega)), if_neg (by decide)]
  | succ k ih =>
    intro n g s hg
    show t_M_costOf_9 _ _ (f_M_costOf_9 m h (n + k + 1)) _ _ _ _ _ _ _ = _
    unfold t_M_costOf_9
    rw [if_neg (by rw [i5]; exact nI_ge (by omega) (by decide)), M_buying H hw hz (by omega)]
    simp only [Option.bind_some]
    rw [if_neg (by decide)]
    unfold f_M_costOf_57 f_M_costOf_62
    rw [H.g0]
    simp only [Option.bind_some]
    rw [M_price H hy (by omega)]
    simp only [Option.bind_some]
    rw [nI_1]
    exact ih n (g + 1) _ (by omega)
theorem M_cost_loop (H : MB h m p b) {w y z set : Nat} (hw : w < 4) (hy : y < 10) (hz : z < 10) (hs : set < 32) : ∀ (k n g s : Nat), k + g = 5 → f_M_costOf_9 m h (n + k + 1) (nI w) (nI y) (nI z) (nI set) (nI s) (0 : Int32) (nI g) = some (cI (cgo (fun g => p (y * 5 + g)) (msk set fun g => bam b w z g) k g s)) := by
  intro k
  induction k with
  | zero =>
    intro n g s hg
    show t_M_costOf_9 _ _ _ _ _ _ _ _ _ _ = _
    unfold t_M_costOf_9
    rw [if_pos (by rw [i5]; exact nI_le (by omega) (by omega)), if_pos rfl]
    rfl
  | succ k ih =>
    intro n g s hg
    have hp : p (y * 5 + g) ≤ 198 := H.2.2.2.1 _ (by omega)
    have hq := bam_le H hw hz (show g < 5 by omega)
    show t_M_costOf_9 _ _ (f_M_costOf_9 m h (n + k + 1)) _ _ _ _ _ _ _ = _
    unfold t_M_costOf_9
    rw [if_neg (by rw [i5]; exact nI_ge (by omega) (by decide)), M_buying H hw hz (by omega)]
    simp only [Option.bind_some]
    rw [if_pos trivial, bit_mul hs (by omega)]
    have e : (if set.testBit g = true then bam b w z g else 0) = msk set (fun g => bam b w z g) g := rfl
    rw [e]
    have hq2 : msk set (fun g => bam b w z g) g ≤ 54 := by unfold msk; split <;> omega
    have go : ∀ (f : Int32), f_M_costOf_62 m h (f_M_costOf_9 m h (n + k + 1)) f (nI w) (nI y) (nI z) (nI set) (nI s) (nI g) (nI (msk set (fun g => bam b w z g) g)) = f_M_costOf_9 m h (n + k + 1) (nI w) (nI y) (nI z) (nI set) (nI (s + p (y * 5 + g) * msk set (fun g => bam b w z g) g)) f (nI (g + 1)) := by
      intro f
      unfold f_M_costOf_62
      rw [H.g0]
      simp only [Option.bind_some]
      rw [M_price H hy (by omega)]
      simp only [Option.bind_some]
      rw [nI_1, pk_mul, nI_add]
    unfold cgo
    by_cases h0 : msk set (fun g => bam b w z g) g = 0
    · rw [if_pos ((nI_le0 (by omega)).mpr h0), if_neg (fun e => e.1 h0)]
      unfold f_M_costOf_61
      rw [go]
      exact ih n (g + 1) _ (by omega)
    · rw [if_neg (fun e => h0 ((nI_le0 (by omega)).mp e)), H.g0]
      simp only [Option.bind_some]
      rw [M_price H hy (by omega)]
      simp only [Option.bind_some]
      by_cases h1 : p (y * 5 + g) = 0
      · rw [if_pos ((nI_eq0 (by omega)).mpr h1), if_pos ⟨h0, h1⟩]
        unfold f_M_costOf_57
        rw [go]
        exact M_cost_hole H hw hy hz hs k n (g + 1) _ (by omega)
      · rw [if_neg (fun e => h1 ((nI_eq0 (by omega)).mp e)), if_neg (fun e => h1 e.2)]
        unfold f_M_costOf_61
        rw [go]
        exact ih n (g + 1) _ (by omega)
theorem M_costOf (H : MB h m p b) {w y z set : Nat} (hw : w < 4) (hy : y < 10) (hz : z < 10) (hs : set < 32) : f_M_costOf m h (nI w) (nI y) (nI z) (nI set) = some (cI (cst (fun g => p (y * 5 + g)) (msk set fun g => bam b w z g))) := by
  unfold f_M_costOf
  rw [if_pos H.o]
  exact M_cost_loop H hw hy hz hs 5 (FU - 6) 0 0 rfl
theorem M_pm_loop (H : MB h m p b) {y : Nat} (hy : y < 10) : ∀ (k n g s : Nat), k + g = 5 → f_M_priced_4 m h (n + k + 1) (nI y) (nI s) (nI g) = some (nI (pgo (fun g => p (y * 5 + g)) k g s)) := by
  intro k
  induction k with
  | zero =>
    intro n g s hg
    show t_M_priced_4 _ _ _ _ _ _ = _
    unfold t_M_priced_4
    rw [if_pos (by rw [i5]; exact nI_le (by omega) (by omega))]
    rfl
  | succ k ih =>
    intro n g s hg
    have hp : p (y * 5 + g) ≤ 198 := H.2.2.2.1 _ (by omega)
    show t_M_priced_4 _ _ (f_M_priced_4 m h (n + k + 1)) _ _ _ = _
    unfold t_M_priced_4
    rw [if_neg (by rw [i5]; exact nI_ge (by omega) (by decide)), H.g0]
    simp only [Option.bind_some]
    rw [M_price H hy (by omega)]
    simp only [Option.bind_some]
    unfold pgo f_M_priced_30
    by_cases h0 : p (y * 5 + g) = 0
    · rw [if_pos ((nI_le0 (by omega)).mpr h0), if_pos h0, nI_1, i0, n_or, Nat.or_zero]
      exact ih n (g + 1) s (by omega)
    · rw [if_neg (fun e => h0 ((nI_le0 (by omega)).mp e)), if_neg h0, nI_1, sh_1 g (by omega), n_or]
      exact ih n (g + 1) _ (by omega)
theorem M_priced (H : MB h m p b) {y : Nat} (hy : y < 10) : f_M_priced m h (nI y) = some (nI (pmk fun g => p (y * 5 + g))) := by
  unfold f_M_priced
  rw [if_pos H.o]
  exact M_pm_loop H hy 5 (FU - 6) 0 0 rfl
theorem M_am_loop (H : MB h m p b) : ∀ (k n y s : Nat), k + y = 8 → f_M_allGoods_4 m h (n + k + 1) (nI s) (nI y) = some (nI (ago p k y s)) := by
  intro k
  induction k with
  | zero =>
    intro n y s hy
    show t_M_allGoods_4 _ _ _ _ _ = _
    unfold t_M_allGoods_4
    rw [if_pos (by rw [i8]; exact nI_le (by omega) (by omega))]
    rfl
  | succ k ih =>
    intro n y s hy
    show t_M_allGoods_4 _ _ (f_M_allGoods_4 m h (n + k + 1)) _ _ = _
    unfold t_M_allGoods_4
    rw [if_neg (by rw [i8]; exact nI_ge (by omega) (by decide)), M_priced H (by omega)]
    simp only [Option.bind_some]
    rw [n_or, nI_1]
    unfold ago
    exact ih n (y + 1) _ (by omega)
theorem M_allGoods (H : MB h m p b) : f_M_allGoods m h = some (nI (amk p)) := by
  unfold f_M_allGoods
  rw [if_pos H.o]
  exact M_am_loop H 8 (FU - 9) 0 0 rfl
end
