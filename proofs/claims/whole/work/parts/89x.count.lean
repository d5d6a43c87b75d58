/-! ===== sims: count ===== -/
def bc (s : Nat) : Nat := (if s.testBit 0 then 1 else 0) + (if s.testBit 1 then 1 else 0) + (if s.testBit 2 then 1 else 0) + (if s.testBit 3 then 1 else 0) + (if s.testBit 4 then 1 else 0) + (if s.testBit 5 then 1 else 0) + (if s.testBit 6 then 1 else 0)
theorem bitC {s : Nat} (h : s < 128) : f_JI_bitCount (nI s) = some (nI (bc s)) := by
  have : ∀ s, s < 128 → f_JI_bitCount (nI s) = some (nI (bc s)) := by decide +kernel
  exact this s h
def c5 (f : Nat → Nat) : Nat := (if f 0 = 0 then 0 else 1) + (if f 1 = 0 then 0 else 1) + (if f 2 = 0 then 0 else 1) + (if f 3 = 0 then 0 else 1) + (if f 4 = 0 then 0 else 1)
theorem bc_pmk (f : Nat → Nat) : bc (pmk f) = c5 f := by
  unfold pmk c5
  simp only [pgo]
  by_cases h0 : f 0 = 0 <;> by_cases h1 : f 1 = 0 <;> by_cases h2 : f 2 = 0 <;> by_cases h3 : f 3 = 0 <;> by_cases h4 : f 4 = 0 <;> simp only [h0, h1, h2, h3, h4, Nat.zero_add, Nat.reduceAdd, if_true, if_false] <;> decide
theorem pmk_0 (f : Nat → Nat) : pmk f = 0 ↔ c5 f = 0 := by
  unfold pmk c5
  simp only [pgo]
  by_cases h0 : f 0 = 0 <;> by_cases h1 : f 1 = 0 <;> by_cases h2 : f 2 = 0 <;> by_cases h3 : f 3 = 0 <;> by_cases h4 : f 4 = 0 <;> simp only [h0, h1, h2, h3, h4, Nat.zero_add, Nat.reduceAdd, if_true, if_false] <;> decide
theorem c5_cong {f f' : Nat → Nat} (h : ∀ g, g < 5 → f g = f' g) : c5 f = c5 f' := by
  unfold c5
  simp only [h 0 (by decide), h 1 (by decide), h 2 (by decide), h 3 (by decide), h 4 (by decide)]
def cnt (p : Nat → Nat) : Nat → Nat → Nat → Nat
  | 0, _, s => s
  | k + 1, x, s => cnt p k (x + 1) (s + if p x = 0 then 0 else 1)
/-- prices there, year by year -/
def pcs (p : Nat → Nat) : Nat → Nat → Nat → Nat
  | 0, _, s => s
  | k + 1, y, s => pcs p k (y + 1) (s + c5 fun g => p (y * 5 + g))
def yrs (p : Nat → Nat) : Nat → Nat → Nat → Nat
  | 0, _, s => s
  | k + 1, y, s => yrs p k (y + 1) (s + if pmk (fun g => p (y * 5 + g)) = 0 then 0 else 1)
theorem cnt_pcs {p : Nat → Nat} : ∀ (k y s : Nat), cnt p (5 * k) (y * 5) s = pcs p k y s := by
  intro k
  induction k with
  | zero => intro y s; rfl
  | succ k ih =>
    intro y s
    have e : cnt p (5 * (k + 1)) (y * 5) s = cnt p (5 * k) (y * 5 + 5) (s + (if p (y * 5) = 0 then 0 else 1) + (if p (y * 5 + 1) = 0 then 0 else 1) + (if p (y * 5 + 2) = 0 then 0 else 1) + (if p (y * 5 + 3) = 0 then 0 else 1) + (if p (y * 5 + 4) = 0 then 0 else 1)) := rfl
    rw [e, show y * 5 + 5 = (y + 1) * 5 by omega, ih]
    show pcs p k (y + 1) _ = pcs p k (y + 1) (s + c5 fun g => p (y * 5 + g))
    unfold c5
    simp only [Nat.add_zero, Nat.add_assoc]
theorem pcs_add {p : Nat → Nat} : ∀ (a b y s : Nat), pcs p (a + b) y s = pcs p b (y + a) (pcs p a y s) := by
  intro a
  induction a with
  | zero => intro b y s; rw [Nat.zero_add]; rfl
  | succ a ih =>
    intro b y s
    rw [show a + 1 + b = (a + b) + 1 by omega]
    show pcs p (a + b) (y + 1) _ = pcs p b (y + (a + 1)) (pcs p a (y + 1) _)
    rw [ih, show y + 1 + a = y + (a + 1) by omega]
theorem pcs_cong {p p' : Nat → Nat} (h : ∀ k, k < 40 → p k = p' k) : ∀ (k y s : Nat), y + k ≤ 8 → pcs p k y s = pcs p' k y s := by
  intro k
  induction k with
  | zero => intro y s _; rfl
  | succ k ih =>
    intro y s hy
    unfold pcs
    rw [c5_cong (f' := fun g => p' (y * 5 + g)) (fun g hg => h _ (by omega)), ih _ _ (by omega)]
theorem yrs_cong {p p' : Nat → Nat} (h : ∀ k, k < 40 → p k = p' k) : ∀ (k y s : Nat), y + k ≤ 8 → yrs p k y s = yrs p' k y s := by
  intro k
  induction k with
  | zero => intro y s _; rfl
  | succ k ih =>
    intro y s hy
    unfold yrs
    rw [pmk_cong (f' := fun g => p' (y * 5 + g)) (fun g hg => h _ (by omega)), ih _ _ (by omega)]
theorem lt128 (f : Nat → Nat) : pmk f < 128 := Nat.lt_trans (pmk_lt f) (by decide)
section
variable {h : Hp} {a m : Nat} {p q b : Nat → Nat}
theorem B_prices_loop (H : BK h a p q) : ∀ (k f y s : Nat), y + k = 8 → f_B_pricesThere_4 a h (f + k + 1) (nI s) (nI y) = some (nI (pcs p k y s)) := by
  intro k
  induction k with
  | zero =>
    intro f y s hy
    have y8 : y = 8 := by omega
    subst y8
    rfl
  | succ k ih =>
    intro f y s hy
    show t_B_pricesThere_4 _ _ (f_B_pricesThere_4 a h (f + k + 1)) _ _ = _
    unfold t_B_pricesThere_4
    rw [if_neg (by rw [i8]; exact nI_ge (by omega) (by decide)), B_goodsPricedIn H (by omega), Option.bind_some, bitC (lt128 _), Option.bind_some, bc_pmk, nI_add, nI_1]
    exact ih f (y + 1) _ (by omega)
theorem B_years_loop (H : BK h a p q) : ∀ (k f y s : Nat), y + k = 8 → f_B_yearsPriced_4 a h (f + k + 1) (nI s) (nI y) = some (nI (yrs p k y s)) := by
  intro k
  induction k with
  | zero =>
    intro f y s hy
    have y8 : y = 8 := by omega
    subst y8
    rfl
  | succ k ih =>
    intro f y s hy
    have lt := lt128 fun g => p (y * 5 + g)
    show t_B_yearsPriced_4 _ _ (f_B_yearsPriced_4 a h (f + k + 1)) _ _ = _
    unfold t_B_yearsPriced_4
    rw [if_neg (by rw [i8]; exact nI_ge (by omega) (by decide)), B_goodsPricedIn H (by omega), Option.bind_some]
    unfold yrs f_B_yearsPriced_24
    by_cases c : pmk (fun g => p (y * 5 + g)) = 0
    · rw [if_pos ((nI_eq0 (by omega)).mpr c), if_pos c, show (0 : Int32) = nI 0 from rfl, nI_add, nI_1]
      exact ih f (y + 1) _ (by omega)
    · rw [if_neg (fun e => c ((nI_eq0 (by omega)).mp e)), if_neg c, nI_1, nI_1]
      exact ih f (y + 1) _ (by omega)
theorem M_count10 (H : MB h m p b) (x1 x3 x4 : Int32) : ∀ (k f x s : Nat), x + k = 50 → f_M_count_10 m h (f + k + 1) x1 (nI s) x3 x4 (nI x) = f_M_count_44 m h FU x1 (nI (cnt p k x s)) x3 x4 0 := by
  intro k
  induction k with
  | zero =>
    intro f x s hx
    have e : x = 50 := by omega
    subst e
    rfl
  | succ k ih =>
    intro f x s hx
    have bd := H.2.2.2.1 x (by omega)
    show t_M_count_10 _ _ (f_M_count_10 m h (f + k + 1)) _ _ _ _ _ = _
    unfold t_M_count_10
    rw [if_neg (by rw [i50]; exact nI_ge (by omega) (by decide)), H.g0]
    simp only [Option.bind_some]
    rw [H.2.1.get (by omega) (by decide)]
    simp only [Option.bind_some]
    unfold cnt f_M_count_33
    by_cases c : p x = 0
    · rw [if_pos ((nI_le0 (by omega)).mpr c), if_pos c, show (0 : Int32) = nI 0 from rfl, nI_add, nI_1]
      exact ih f (x + 1) _ (by omega)
    · rw [if_neg (fun e => c ((nI_le0 (by omega)).mp e)), if_neg c, nI_1, nI_1]
      exact ih f (x + 1) _ (by omega)
/-- the bits of s from g on -/
def bts (s : Nat) : Nat → Nat → Nat → Nat
  | 0, _, r => r
  | k + 1, g, r => bts s k (g + 1) (r + if s.testBit g then 1 else 0)
theorem M_count44 (H : MB h m p b) (x1 x2 x4 : Int32) : ∀ (k f g r : Nat), g + k = 5 → f_M_count_44 m h (f + k + 1) x1 x2 (nI r) x4 (nI g) = f_M_count_71 m h FU x1 x2 (nI (bts (amk p) k g r)) x4 0 := by
  intro k
  induction k with
  | zero =>
    intro f g r hx
    have e : g = 5 := by omega
    subst e
    rfl
  | succ k ih =>
    intro f g r hx
    show t_M_count_44 _ _ (f_M_count_44 m h (f + k + 1)) _ _ _ _ _ = _
    unfold t_M_count_44
    rw [if_neg (by rw [i5]; exact nI_ge (by omega) (by decide)), M_allGoods H, Option.bind_some, sh_b _ (amk_lt p) g (by omega), nI_1]
    unfold bts
    rw [show (if (amk p).testBit g = true then nI 1 else nI 0) = nI (if (amk p).testBit g = true then 1 else 0) by split <;> rfl, nI_add]
    exact ih f (g + 1) _ (by omega)
theorem bts_bc : ∀ s, s < 32 → bts s 5 0 0 = bc s := by decide +kernel
theorem M_count71 (H : MB h m p b) {x1 x2 x3 : Int32} : ∀ (k f y s : Nat), y + k = 8 → f_M_count_71 m h (f + k + 1) x1 x2 x3 (nI s) (nI y) = f_M_count_71 m h (f + 1) x1 x2 x3 (nI (yrs p k y s)) (nI 8) := by
  intro k
  induction k with
  | zero =>
    intro f y s hy
    have y8 : y = 8 := by omega
    subst y8
    rfl
  | succ k ih =>
    intro f y s hy
    have lt := lt128 fun g => p (y * 5 + g)
    show t_M_count_71 _ _ (f_M_count_71 m h (f + k + 1)) _ _ _ _ _ = _
    unfold t_M_count_71
    rw [if_neg (by rw [i8]; exact nI_ge (by omega) (by decide)), M_priced H (show y < 10 by omega), Option.bind_some]
    unfold yrs f_M_count_94
    by_cases c : pmk (fun g => p (y * 5 + g)) = 0
    · rw [if_pos ((nI_eq0 (by omega)).mpr c), if_pos c, show (0 : Int32) = nI 0 from rfl, nI_add, nI_1]
      exact ih f (y + 1) _ (by omega)
    · rw [if_neg (fun e => c ((nI_eq0 (by omega)).mp e)), if_neg c, nI_1, nI_1]
      exact ih f (y + 1) _ (by omega)
end
theorem sim_count {S : Nat} : Sim_count (zInv S) S := by
  intro h x1 I
  obtain ⟨mk, T, p, q, pr, br, tx, len, lf, F, hm, B, Z0, C, Mi⟩ := I
  obtain ⟨a0, a1, a2, a3, a4, a5, a6, a7, a8, a9, a10⟩ := C.a
  have mb := Mi.2.1
  have bk := C.bk
  have P1 : f_B_pricesThere (S + 1) h = some (nI (pcs p 8 0 0)) := by
    unfold f_B_pricesThere
    rw [if_pos bk.o]
    exact B_prices_loop bk 8 (FU - 9) 0 0 rfl
  have P2 : f_B_yearsPriced (S + 1) h = some (nI (yrs p 8 0 0)) := by
    unfold f_B_yearsPriced
    rw [if_pos bk.o]
    exact B_years_loop bk 8 (FU - 9) 0 0 rfl
  have e1 : cnt pr 50 0 0 = pcs p 8 0 0 := by
    have : cnt pr (5 * 10) (0 * 5) 0 = pcs pr 10 0 0 := cnt_pcs 10 0 0
    rw [show cnt pr 50 0 0 = pcs pr (8 + 2) 0 0 from this, pcs_add, pcs_cong B.1 8 0 0 (by omega)]
    have z : ∀ y, y = 8 ∨ y = 9 → c5 (fun g => pr (y * 5 + g)) = 0 := by
      intro y hy
      rw [c5_cong (f' := fun _ => 0) (fun g hg => Z0 _ (by omega) (by omega))]
      rfl
    show pcs pr 8 0 0 + c5 (fun g => pr (8 * 5 + g)) + c5 (fun g => pr (9 * 5 + g)) = _
    rw [z 8 (Or.inl rfl), z 9 (Or.inr rfl)]
    rfl
  have M1 : f_M_count (S + 59) h x1 = f_M_count_71 (S + 59) h (FU - 9 + 1) x1 (nI (pcs p 8 0 0)) (nI (bc (amk pr))) (nI (yrs pr 8 0 0)) (nI 8) := by
    unfold f_M_count
    rw [if_pos Mi.o]
    have s1 := M_count10 mb x1 0 0 50 (FU - 51) 0 0 rfl
    have s2 := M_count44 mb x1 (nI (cnt pr 50 0 0)) 0 5 (FU - 6) 0 0 rfl
    have s3 := M_count71 mb (x1 := x1) (x2 := nI (cnt pr 50 0 0)) (x3 := nI (bts (amk pr) 5 0 0)) 8 (FU - 9) 0 0 rfl
    rw [show f_M_count_10 (S + 59) h FU x1 (0 : Int32) 0 0 0 = _ from s1, show f_M_count_44 (S + 59) h FU x1 (nI (cnt pr 50 0 0)) 0 0 0 = _ from s2, show f_M_count_71 (S + 59) h FU x1 (nI (cnt pr 50 0 0)) (nI (bts (amk pr) 5 0 0)) 0 0 = _ from s3, e1, bts_bc _ (amk_lt pr)]
  rw [M1, yrs_cong (fun k hk => (B.1 k hk).symm) 8 0 0 (by omega), ← B.amk_eq]
  show ∃ r, _ ∧ t_M_count_71 _ _ _ _ _ _ _ _ = some r
  obtain ⟨x2, x3, x4, x5, r0⟩ := C.2.2.2.2.1.1
  have rl : gI h (S + 32) 5 1 = some (nI len) := by simp [gI, gV, r0]
  obtain ⟨t, mr⟩ := Mi.2.2.2.2.2.2.1
  unfold t_M_count_71 f_Y_count
  rw [if_pos C.o, if_pos (show (8 : Int32) ≤ nI 8 by decide), a9, a3, a0]
  simp only [Option.bind_some]
  rw [rl, P1, P2, B_goodsThere bk, oc_i Mi.1.1 (by decide) Mi.2.2.2.2.2.2.2.1, oc_i Mi.1.1 (by decide) mr.2.1.2.2.2.2.2]
  simp only [Option.bind_some]
  rw [bitC (Nat.lt_trans (amk_lt p) (by decide))]
  simp only [Option.bind_some]
  by_cases c0 : x1 = (0 : Int32)
  · rw [if_pos c0]; exact ⟨_, rfl, rfl⟩
  rw [if_neg c0]
  by_cases c1 : x1 = (1 : Int32)
  · rw [if_pos c1]; exact ⟨_, rfl, rfl⟩
  rw [if_neg c1]
  by_cases c2 : x1 = (2 : Int32)
  · rw [if_pos c2]; exact ⟨_, rfl, rfl⟩
  rw [if_neg c2]
  by_cases c3 : x1 = (3 : Int32)
  · rw [if_pos c3]; exact ⟨_, rfl, rfl⟩
  rw [if_neg c3]
  by_cases c4 : x1 = (4 : Int32)
  · rw [if_pos c4]; exact ⟨_, rfl, rfl⟩
  rw [if_neg c4]
  exact ⟨_, rfl, rfl⟩
