/-! ===== numbers: the greatest common divisor, comparing two fractions ===== -/
theorem l0 : (0 : Int64) = lN 0 := rfl
theorem l1 : (1 : Int64) = lN 1 := rfl
theorem l2 : (2 : Int64) = lN 2 := rfl
theorem l4 : (4 : Int64) = lN 4 := rfl
theorem lM : (1000000000000000 : Int64) = lN 1000000000000000 := rfl
theorem i200 : (200 : Int32) = nI 200 := rfl
theorem lN_le0 {a : Nat} (h : a < 2 ^ 63) : (lN a ≤ 0) ↔ a = 0 := by rw [l0, pk_lLE h (by decide)]; omega
theorem lN_eq0 {a : Nat} (h : a < 2 ^ 63) : (lN a = 0) ↔ a = 0 := by rw [l0, pk_lEQ h (by decide)]
theorem lN_lt0 {a : Nat} (h : a < 2 ^ 63) : ¬ lN a < 0 := by rw [l0, pk_lLT h (by decide)]; omega
theorem two63 : (2 : Nat) ^ 63 = 9223372036854775808 := by decide +kernel
/-- a divisor, 1 for 0 and 0 -/
def gd (a b : Nat) : Nat := if Nat.gcd a b = 0 then 1 else Nat.gcd a b
theorem gd_pos (a b : Nat) : 0 < gd a b := by unfold gd; split <;> omega
theorem gd_of {a b : Nat} (h : 0 < a ∨ 0 < b) : gd a b = Nat.gcd a b := by
  unfold gd
  rw [if_neg]
  intro q
  have := Nat.gcd_eq_zero_iff.mp q
  omega
theorem zcd_45 {a : Nat} (h : a < 2 ^ 63) : f_F_commonDivisor_45 (lN a) = some (lN (if a = 0 then 1 else a)) := by
  unfold f_F_commonDivisor_45
  by_cases ha : a = 0
  · rw [if_pos ((lN_le0 h).mpr ha), if_pos ha]; rfl
  · rw [if_neg (fun q => ha ((lN_le0 h).mp q)), if_neg ha]
theorem zcd_step {n i a b : Nat} (hi : i < 200) (ha : a < 2 ^ 63) (hb : b < 2 ^ 63) (h0 : 0 < b) : f_F_commonDivisor_9 (n + 1) (lN a) (lN b) (nI i) = f_F_commonDivisor_9 n (lN b) (lN (a % b)) (nI (i + 1)) := by
  show t_F_commonDivisor_9 _ _ _ _ = _
  unfold t_F_commonDivisor_9
  rw [if_neg (by rw [i200]; exact nI_ge hi (by decide)), if_neg (fun q => by have := (lN_eq0 hb).mp q; omega), if_neg (fun q => by have := (lN_eq0 hb).mp q; omega), pk_lRem ha h0 hb, nI_1]
theorem zcd_end {n i a : Nat} (hi : i < 200) (ha : a < 2 ^ 63) : f_F_commonDivisor_9 (n + 1) (lN a) (lN 0) (nI i) = some (lN (if a = 0 then 1 else a)) := by
  show t_F_commonDivisor_9 _ _ _ _ = _
  unfold t_F_commonDivisor_9
  rw [if_neg (by rw [i200]; exact nI_ge hi (by decide)), if_pos l0.symm, zcd_45 ha]
theorem gcd_st (a b : Nat) : Nat.gcd a b = Nat.gcd b (a % b) := by
  rw [Nat.gcd_comm a b, Nat.gcd_rec b a, Nat.gcd_comm]
theorem half_lt {k r b : Nat} (h0 : 0 < r) (hr : r < b) (hb : b < 2 ^ (k + 1)) : b % r < 2 ^ k := by
  have h1 : b % r < r := Nat.mod_lt _ h0
  have h2 : b % r ≤ b - r := by
    have h3 : (b - r) % r = b % r := by
      rw [← Nat.mod_eq_sub_mod (by omega)]
    rw [← h3]
    exact Nat.mod_le _ _
  rw [Nat.pow_succ] at hb
  omega
theorem zcd9 : ∀ (k n i a b : Nat), b < 2 ^ k → a < 2 ^ 63 → b < 2 ^ 63 → i + 2 * k + 2 ≤ 200 → 2 * k + 2 ≤ n → f_F_commonDivisor_9 n (lN a) (lN b) (nI i) = some (lN (gd a b)) := by
  intro k
  induction k with
  | zero =>
    intro n i a b hk ha hb hi hn
    have h0 : b = 0 := by simp at hk; exact hk
    subst h0
    obtain ⟨n, rfl⟩ : ∃ n', n = n' + 1 := ⟨n - 1, by omega⟩
    rw [zcd_end (by omega) ha]
    simp [gd]
  | succ k ih =>
    intro n i a b hk ha hb hi hn
    obtain ⟨n, rfl⟩ : ∃ n', n = n' + 2 := ⟨n - 2, by omega⟩
    by_cases h0 : b = 0
    · subst h0
      rw [zcd_end (by omega) ha]
      simp [gd]
    · have hr : a % b < b := Nat.mod_lt _ (by omega)
      rw [zcd_step (by omega) ha hb (by omega)]
      by_cases h1 : a % b = 0
      · rw [h1, zcd_end (by omega) hb, if_neg h0]
        have : Nat.gcd a b = b := by rw [gcd_st, h1, Nat.gcd_zero_right]
        simp [gd, this, h0]
      · rw [zcd_step (by omega) hb (by omega) (by omega)]
        have hlt : b % (a % b) < 2 ^ k := half_lt (by omega) hr hk
        have hl2 : b % (a % b) < a % b := Nat.mod_lt _ (by omega)
        rw [ih n (i + 1 + 1) (a % b) (b % (a % b)) hlt (by omega) (by omega) (by omega) (by omega)]
        have : gd (a % b) (b % (a % b)) = gd a b := by
          unfold gd
          rw [← gcd_st, ← gcd_st]
        rw [this]
theorem FU_ge {n : Nat} (h : n ≤ 100000) : n ≤ FU := h
theorem zcd {a b : Nat} (ha : a < 2 ^ 63) (hb : b < 2 ^ 63) : f_F_commonDivisor (lN a) (lN b) = some (lN (gd a b)) := by
  unfold f_F_commonDivisor
  exact zcd9 63 FU 0 a b hb ha hb (by decide) (FU_ge (by decide))
/-- the reference's -/
theorem zg_step {n a b : Nat} (ha : a < 2 ^ 63) (hb : b < 2 ^ 63) (h0 : 0 < b) : f_M_gcd_17 (n + 1) (lN a) (lN b) = f_M_gcd_17 n (lN b) (lN (a % b)) := by
  show t_M_gcd_17 _ _ _ = _
  unfold t_M_gcd_17
  rw [if_neg (fun q => by have := (lN_eq0 hb).mp q; omega), if_neg (fun q => by have := (lN_eq0 hb).mp q; omega), pk_lRem ha h0 hb]
theorem zg_end {n a : Nat} : f_M_gcd_17 (n + 1) (lN a) (lN 0) = some (lN a) := by
  show t_M_gcd_17 _ _ _ = _
  unfold t_M_gcd_17
  rw [if_pos l0.symm]
theorem zg17 : ∀ (k n a b : Nat), b < 2 ^ k → a < 2 ^ 63 → b < 2 ^ 63 → 2 * k + 2 ≤ n → f_M_gcd_17 n (lN a) (lN b) = some (lN (Nat.gcd a b)) := by
  intro k
  induction k with
  | zero =>
    intro n a b hk ha hb hn
    have h0 : b = 0 := by simp at hk; exact hk
    subst h0
    obtain ⟨n, rfl⟩ : ∃ n', n = n' + 1 := ⟨n - 1, by omega⟩
    rw [zg_end, Nat.gcd_zero_right]
  | succ k ih =>
    intro n a b hk ha hb hn
    obtain ⟨n, rfl⟩ : ∃ n', n = n' + 2 := ⟨n - 2, by omega⟩
    by_cases h0 : b = 0
    · subst h0
      rw [zg_end, Nat.gcd_zero_right]
    · have hr : a % b < b := Nat.mod_lt _ (by omega)
      rw [zg_step ha hb (by omega)]
      by_cases h1 : a % b = 0
      · rw [h1, zg_end, gcd_st, h1, Nat.gcd_zero_right]
      · rw [zg_step hb (by omega) (by omega)]
        have hlt : b % (a % b) < 2 ^ k := half_lt (by omega) hr hk
        have hl2 : b % (a % b) < a % b := Nat.mod_lt _ (by omega)
        rw [ih n (a % b) (b % (a % b)) hlt (by omega) (by omega) (by omega), ← gcd_st, ← gcd_st]
theorem zgcd {a b : Nat} (ha : a < 2 ^ 63) (hb : b < 2 ^ 63) : f_M_gcd (lN a) (lN b) = some (lN (Nat.gcd a b)) := by
  unfold f_M_gcd
  rw [if_pos (by rw [l0, pk_lLE (by decide) ha]; omega)]
  unfold f_M_gcd_12
  exact zg17 63 FU a b hb ha hb (FU_ge (by decide))
/-- which of two is more -/
def cmp3 (x y : Nat) : Int32 := if x < y then -1 else if x = y then 0 else 1
theorem cmp3_swap (x y : Nat) : -cmp3 x y = cmp3 y x := by
  unfold cmp3
  rcases Nat.lt_trichotomy x y with h | h | h
  · rw [if_pos h, if_neg (by omega), if_neg (by omega)]; rfl
  · subst h; simp
  · rw [if_neg (by omega), if_neg (by omega), if_pos h]
/-- the sign that is carried along -/
def sg (b : Bool) (z : Int32) : Int32 := if b then -z else z
theorem sg_neg (b : Bool) : -sg b 1 = sg (!b) 1 := by cases b <;> decide
theorem cmp_q {a b c d : Nat} (hb : 0 < b) (hd : 0 < d) (h : a / b < c / d) : a * d < c * b := by
  have h1 : a < b * (a / b + 1) := Nat.lt_mul_div_succ a hb
  have h2 : d * (c / d) ≤ c := Nat.mul_div_le c d
  have h3 : a / b + 1 ≤ c / d := h
  calc a * d < b * (a / b + 1) * d := Nat.mul_lt_mul_of_pos_right h1 hd
    _ ≤ b * (c / d) * d := Nat.mul_le_mul_right d (Nat.mul_le_mul_left b h3)
    _ = d * (c / d) * b := by rw [Nat.mul_comm b, Nat.mul_assoc, Nat.mul_comm b d, ← Nat.mul_assoc, Nat.mul_comm (c / d) d]
    _ ≤ c * b := Nat.mul_le_mul_right b h2
theorem cmp_r {a b c d : Nat} (h : a / b = c / d) : ∃ z, a * d = z + a % b * d ∧ c * b = z + c % d * b := by
  refine ⟨a / b * b * d, ?_, ?_⟩
  · conv => lhs; rw [← Nat.div_add_mod a b]
    rw [Nat.add_mul, Nat.mul_comm b]
  · conv => lhs; rw [← Nat.div_add_mod c d]
    rw [Nat.add_mul, h, Nat.mul_comm d, Nat.mul_right_comm]
theorem cmp3_add (z x y : Nat) : cmp3 (z + x) (z + y) = cmp3 x y := by
  unfold cmp3
  rcases Nat.lt_trichotomy x y with h | h | h
  · rw [if_pos (by omega), if_pos h]
  · subst h; simp
  · rw [if_neg (by omega), if_neg (by omega), if_neg (by omega), if_neg (by omega)]
theorem sg_not (s : Bool) (z : Int32) : sg (!s) (-z) = sg s z := by cases s <;> simp [sg]
theorem cmp3_0r {x y : Nat} (hx : 0 < x) : cmp3 0 x = -1 := by unfold cmp3; rw [if_pos hx]
theorem cmp3_r0 {x : Nat} (hx : 0 < x) : cmp3 x 0 = 1 := by unfold cmp3; rw [if_neg (by omega), if_neg (by omega)]
theorem cmp_ends {a b c d : Nat} (hb : 0 < b) (hd : 0 < d) (hq : a / b = c / d) (s : Bool) (h0 : a % b = 0 ∨ c % d = 0) : (if lN (a % b) = lN (c % d) then some (0 : Int32) else if lN (a % b) = (0 : Int64) then some (-sg s 1) else some (sg s 1)) = some (sg s (cmp3 (a * d) (c * b))) ∨ ¬ (a < 2 ^ 63 ∧ b < 2 ^ 63 ∧ c < 2 ^ 63 ∧ d < 2 ^ 63) := by
  by_cases hB : a < 2 ^ 63 ∧ b < 2 ^ 63 ∧ c < 2 ^ 63 ∧ d < 2 ^ 63
  · left
    obtain ⟨h1, h2, h3, h4⟩ := hB
    have hr : a % b < b := Nat.mod_lt _ hb
    have ht : c % d < d := Nat.mod_lt _ hd
    obtain ⟨z, e1, e2⟩ := cmp_r hq
    rw [e1, e2, cmp3_add]
    by_cases g : a % b = c % d
    · rw [if_pos (by rw [g])]
      have ga : a % b = 0 := by omega
      have gc : c % d = 0 := by omega
      rw [ga, gc]
      simp [cmp3, sg]
    · rw [if_neg (fun q => g ((pk_lEQ (by omega) (by omega)).mp q))]
      by_cases ga : a % b = 0
      · rw [if_pos (by rw [ga]; rfl), ga, Nat.zero_mul, cmp3_0r (y := 0) (Nat.mul_pos (by omega) hb)]
        cases s <;> rfl
      · rw [if_neg (fun q => ga ((lN_eq0 (by omega)).mp q))]
        have gc : c % d = 0 := by omega
        rw [gc, Nat.zero_mul, cmp3_r0 (Nat.mul_pos (by omega) hd)]
  · right; exact hB
theorem cmp_sw {a b c d : Nat} (hq : a / b = c / d) (s : Bool) : sg (!s) (cmp3 (b * (c % d)) (d * (a % b))) = sg s (cmp3 (a * d) (c * b)) := by
  obtain ⟨z, e1, e2⟩ := cmp_r hq
  rw [e1, e2, cmp3_add, Nat.mul_comm b, Nat.mul_comm d, ← cmp3_swap (a % b * d), sg_not]
theorem zc_step {n i a b c d : Nat} {s : Bool} (hi : i < 200) (hb : 0 < b) (hd : 0 < d) (ha : a < 2 ^ 63) (hb2 : b < 2 ^ 63) (hc : c < 2 ^ 63) (hd2 : d < 2 ^ 63) : f_F_compareShares_20 (n + 1) (lN a) (lN b) (lN c) (lN d) (sg s 1) (nI i) = some (sg s (cmp3 (a * d) (c * b))) ∨ (a % b ≠ 0 ∧ c % d ≠ 0 ∧ a / b = c / d ∧ f_F_compareShares_20 (n + 1) (lN a) (lN b) (lN c) (lN d) (sg s 1) (nI i) = f_F_compareShares_20 n (lN b) (lN (a % b)) (lN d) (lN (c % d)) (sg (!s) 1) (nI (i + 1))) := by
  have e : f_F_compareShares_20 (n + 1) (lN a) (lN b) (lN c) (lN d) (sg s 1) (nI i) = t_F_compareShares_20 (f_F_compareShares_20 n) (lN a) (lN b) (lN c) (lN d) (sg s 1) (nI i) := rfl
  rw [e]
  unfold t_F_compareShares_20
  have b0 : ¬ lN b = 0 := fun q => by have := (lN_eq0 hb2).mp q; omega
  have d0 : ¬ lN d = 0 := fun q => by have := (lN_eq0 hd2).mp q; omega
  rw [if_neg (by rw [i200]; exact nI_ge hi (by decide)), if_neg (fun q => by have := (lN_le0 hb2).mp q; omega), if_neg (fun q => by have := (lN_le0 hd2).mp q; omega), if_neg b0, if_neg d0, pk_lDiv ha hb hb2, pk_lDiv hc hd hd2]
  have hq1 : a / b < 2 ^ 63 := Nat.lt_of_le_of_lt (Nat.div_le_self _ _) ha
  have hq2 : c / d < 2 ^ 63 := Nat.lt_of_le_of_lt (Nat.div_le_self _ _) hc
  by_cases hq : a / b = c / d
  · rw [if_pos (by rw [hq]), if_neg b0, if_neg d0]
    have er : lN a - lN (a / b) * lN b = lN (a % b) := by rw [← pk_lRem ha hb hb2, pk_lDiv ha hb hb2]
    have et : lN c - lN (c / d) * lN d = lN (c % d) := by rw [← pk_lRem hc hd hd2, pk_lDiv hc hd hd2]
    rw [er, et]
    have hr : a % b < b := Nat.mod_lt _ hb
    have ht : c % d < d := Nat.mod_lt _ hd
    have fin : (a % b = 0 ∨ c % d = 0) → f_F_compareShares_109 (sg s 1) (lN (a % b)) (lN (c % d)) = some (sg s (cmp3 (a * d) (c * b))) := by
      intro h0
      unfold f_F_compareShares_109
      exact (cmp_ends hb hd hq s h0).resolve_right (fun q => q ⟨ha, hb2, hc, hd2⟩)
    by_cases ga : a % b = 0
    · left
      rw [if_pos (by rw [ga]; rfl)]
      exact fin (Or.inl ga)
    · rw [if_neg (fun q => ga ((lN_eq0 (by omega)).mp q))]
      by_cases gc : c % d = 0
      · left
        rw [if_pos (by rw [gc]; rfl)]
        exact fin (Or.inr gc)
      · right
        rw [if_neg (fun q => gc ((lN_eq0 (by omega)).mp q)), sg_neg, nI_1]
        exact ⟨ga, gc, hq, rfl⟩
  · left
    rw [if_neg (fun q => hq ((pk_lEQ hq1 hq2).mp q))]
    by_cases hle : c / d ≤ a / b
    · rw [if_pos ((pk_lLE hq2 hq1).mpr hle)]
      have := cmp_q hd hb (show c / d < a / b by omega)
      unfold cmp3
      rw [if_neg (by omega), if_neg (by omega)]
    · rw [if_neg (fun q => hle ((pk_lLE hq2 hq1).mp q))]
      have := cmp_q hb hd (show a / b < c / d by omega)
      unfold cmp3
      rw [if_pos this]
      cases s <;> rfl
theorem zc20 : ∀ (k n i a b c d : Nat) (s : Bool), b < 2 ^ k → 0 < b → 0 < d → a < 2 ^ 63 → b < 2 ^ 63 → c < 2 ^ 63 → d < 2 ^ 63 → i + 2 * k + 2 ≤ 200 → 2 * k + 2 ≤ n → f_F_compareShares_20 n (lN a) (lN b) (lN c) (lN d) (sg s 1) (nI i) = some (sg s (cmp3 (a * d) (c * b))) := by
  intro k
  induction k with
  | zero => intro n i a b c d s hk hb; simp at hk; omega
  | succ k ih =>
    intro n i a b c d s hk hb hd ha hb2 hc hd2 hi hn
    obtain ⟨n, rfl⟩ : ∃ n', n = n' + 2 := ⟨n - 2, by omega⟩
    rcases zc_step (n := n + 1) (i := i) (s := s) (by omega) hb hd ha hb2 hc hd2 with h | ⟨ga, gc, hq, h⟩
    · exact h
    · have hr : a % b < b := Nat.mod_lt _ hb
      have ht : c % d < d := Nat.mod_lt _ hd
      rw [h, ← cmp_sw hq]
      rcases zc_step (n := n) (i := i + 1) (s := !s) (a := b) (b := a % b) (c := d) (d := c % d) (by omega) (by omega) (by omega) hb2 (by omega) hd2 (by omega) with h2 | ⟨ga2, gc2, hq2, h2⟩
      · exact h2
      · rw [h2, ← cmp_sw hq2]
        have hr2 : b % (a % b) < a % b := Nat.mod_lt _ (by omega)
        have ht2 : d % (c % d) < c % d := Nat.mod_lt _ (by omega)
        exact ih n (i + 1 + 1) _ _ _ _ _ (half_lt (by omega) hr hk) (by omega) (by omega) (by omega) (by omega) (by omega) (by omega) (by omega) (by omega)
theorem zcs {a b c d : Nat} (hb : 0 < b) (hd : 0 < d) (ha : a < 2 ^ 63) (hb2 : b < 2 ^ 63) (hc : c < 2 ^ 63) (hd2 : d < 2 ^ 63) : f_F_compareShares (lN a) (lN b) (lN c) (lN d) = some (cmp3 (a * d) (c * b)) := by
  unfold f_F_compareShares
  exact zc20 63 FU 0 a b c d false hb2 hb hd ha hb2 hc hd2 (by decide) (FU_ge (by decide))
theorem zm_step {n a b c d : Nat} {s : Bool} (hb : 0 < b) (hd : 0 < d) (ha : a < 2 ^ 63) (hb2 : b < 2 ^ 63) (hc : c < 2 ^ 63) (hd2 : d < 2 ^ 63) : f_M_compare_17 (n + 1) (lN a) (lN b) (lN c) (lN d) (sg s 1) = some (sg s (cmp3 (a * d) (c * b))) ∨ (a % b ≠ 0 ∧ c % d ≠ 0 ∧ a / b = c / d ∧ f_M_compare_17 (n + 1) (lN a) (lN b) (lN c) (lN d) (sg s 1) = f_M_compare_17 n (lN b) (lN (a % b)) (lN d) (lN (c % d)) (sg (!s) 1)) := by
  have e : f_M_compare_17 (n + 1) (lN a) (lN b) (lN c) (lN d) (sg s 1) = t_M_compare_17 (f_M_compare_17 n) (lN a) (lN b) (lN c) (lN d) (sg s 1) := rfl
  rw [e]
  unfold t_M_compare_17
  have b0 : ¬ lN b = 0 := fun q => by have := (lN_eq0 hb2).mp q; omega
  have d0 : ¬ lN d = 0 := fun q => by have := (lN_eq0 hd2).mp q; omega
  rw [if_neg b0, if_neg d0, pk_lDiv ha hb hb2, pk_lDiv hc hd hd2]
  have hq1 : a / b < 2 ^ 63 := Nat.lt_of_le_of_lt (Nat.div_le_self _ _) ha
  have hq2 : c / d < 2 ^ 63 := Nat.lt_of_le_of_lt (Nat.div_le_self _ _) hc
  by_cases hq : a / b = c / d
  · rw [if_pos (by rw [hq]), if_neg b0, if_neg d0]
    have er : lN a - lN (a / b) * lN b = lN (a % b) := by rw [← pk_lRem ha hb hb2, pk_lDiv ha hb hb2]
    have et : lN c - lN (c / d) * lN d = lN (c % d) := by rw [← pk_lRem hc hd hd2, pk_lDiv hc hd hd2]
    rw [er, et]
    have hr : a % b < b := Nat.mod_lt _ hb
    have ht : c % d < d := Nat.mod_lt _ hd
    have fin : (a % b = 0 ∨ c % d = 0) → f_M_compare_84 (sg s 1) (lN (a % b)) (lN (c % d)) = some (sg s (cmp3 (a * d) (c * b))) := by
      intro h0
      unfold f_M_compare_84
      exact (cmp_ends hb hd hq s h0).resolve_right (fun q => q ⟨ha, hb2, hc, hd2⟩)
    by_cases ga : a % b = 0
    · left
      rw [if_pos (by rw [ga]; rfl)]
      exact fin (Or.inl ga)
    · rw [if_neg (fun q => ga ((lN_eq0 (by omega)).mp q))]
      by_cases gc : c % d = 0
      · left
        rw [if_pos (by rw [gc]; rfl)]
        exact fin (Or.inr gc)
      · right
        rw [if_neg (fun q => gc ((lN_eq0 (by omega)).mp q)), sg_neg]
        exact ⟨ga, gc, hq, rfl⟩
  · left
    rw [if_neg (fun q => hq ((pk_lEQ hq1 hq2).mp q))]
    by_cases hle : c / d ≤ a / b
    · rw [if_pos ((pk_lLE hq2 hq1).mpr hle)]
      have := cmp_q hd hb (show c / d < a / b by omega)
      unfold cmp3
      rw [if_neg (by omega), if_neg (by omega)]
    · rw [if_neg (fun q => hle ((pk_lLE hq2 hq1).mp q))]
      have := cmp_q hb hd (show a / b < c / d by omega)
      unfold cmp3
      rw [if_pos this]
      cases s <;> rfl
theorem zm17 : ∀ (k n a b c d : Nat) (s : Bool), b < 2 ^ k → 0 < b → 0 < d → a < 2 ^ 63 → b < 2 ^ 63 → c < 2 ^ 63 → d < 2 ^ 63 → 2 * k + 2 ≤ n → f_M_compare_17 n (lN a) (lN b) (lN c) (lN d) (sg s 1) = some (sg s (cmp3 (a * d) (c * b))) := by
  intro k
  induction k with
  | zero => intro n a b c d s hk hb; simp at hk; omega
  | succ k ih =>
    intro n a b c d s hk hb hd ha hb2 hc hd2 hn
    obtain ⟨n, rfl⟩ : ∃ n', n = n' + 2 := ⟨n - 2, by omega⟩
    rcases zm_step (n := n + 1) (s := s) hb hd ha hb2 hc hd2 with h | ⟨ga, gc, hq, h⟩
    · exact h
    · have hr : a % b < b := Nat.mod_lt _ hb
      have ht : c % d < d := Nat.mod_lt _ hd
      rw [h, ← cmp_sw hq]
      rcases zm_step (n := n) (s := !s) (a := b) (b := a % b) (c := d) (d := c % d) (by omega) (by omega) hb2 (by omega) hd2 (by omega) with h2 | ⟨ga2, gc2, hq2, h2⟩
      · exact h2
      · rw [h2, ← cmp_sw hq2]
        have hr2 : b % (a % b) < a % b := Nat.mod_lt _ (by omega)
        have ht2 : d % (c % d) < c % d := Nat.mod_lt _ (by omega)
        exact ih n _ _ _ _ _ (half_lt (by omega) hr hk) (by omega) (by omega) (by omega) (by omega) (by omega) (by omega) (by omega)
theorem zmc {a b c d : Nat} (hb : 0 < b) (hd : 0 < d) (ha : a < 2 ^ 63) (hb2 : b < 2 ^ 63) (hc : c < 2 ^ 63) (hd2 : d < 2 ^ 63) : f_M_compare (lN a) (lN b) (lN c) (lN d) = some (cmp3 (a * d) (c * b)) := by
  unfold f_M_compare
  exact zm17 63 FU a b c d false hb2 hb hd ha hb2 hc hd2 (FU_ge (by decide))
