/-! ===== roots ===== -/
theorem l_or (a b : Nat) : lN a ||| lN b = lN (a ||| b) := by
  unfold lN
  apply Int64.toBitVec_inj.mp
  simp
theorem sh_64 : ∀ k, k < 30 → ((1 : Int64) <<< ((nI k).toInt64 &&& 63)) = lN (2 ^ k) := by decide +kernel
theorem l_sub {a b : Nat} : lN (a + b) - lN b = lN a := by
  unfold lN
  apply Int64.toBitVec_inj.mp
  simp
def isR (x r : Nat) : Prop := r * r ≤ x ∧ x < (r + 1) * (r + 1)
theorem isR_uq {x r s : Nat} (h : isR x r) (g : isR x s) : r = s := by
  have a : r * r < (s + 1) * (s + 1) := Nat.lt_of_le_of_lt h.1 g.2
  have b : s * s < (r + 1) * (r + 1) := Nat.lt_of_le_of_lt g.1 h.2
  have c : r < s + 1 := Nat.mul_self_lt_mul_self_iff.mp a
  have d : s < r + 1 := Nat.mul_self_lt_mul_self_iff.mp b
  omega
theorem Y_root_loop {x : Nat} (hx : x < 2 ^ 60) : ∀ (k f c : Nat), k ≤ 30 → (2 ^ k * c) * (2 ^ k * c) ≤ x → x < (2 ^ k * c + 2 ^ k) * (2 ^ k * c + 2 ^ k) → ∃ r, f_Y_wholeRoot_6 (f + k + 1) (lN x) (lN (2 ^ k * c)) (nI k - 1) = some (lN r) ∧ isR x r := by
  intro k
  induction k with
  | zero =>
    intro f c _ h1 h2
    refine ⟨c, ?_, by simpa using h1, by simpa using h2⟩
    show t_Y_wholeRoot_6 _ _ _ _ = _
    unfold t_Y_wholeRoot_6
    rw [if_pos (by decide), Nat.pow_zero, Nat.one_mul]
  | succ k ih =>
    intro f c hk h1 h2
    have e2 : 2 ^ (k + 1) = 2 ^ k * 2 := Nat.pow_succ 2 k
    have lt : 2 ^ k < 2 ^ (k + 1) := Nat.pow_lt_pow_right (by decide) (by omega)
    have orr : 2 ^ (k + 1) * c ||| 2 ^ k = 2 ^ (k + 1) * c + 2 ^ k := (Nat.two_pow_add_eq_or_of_lt lt c).symm
    have em : 2 ^ (k + 1) * c + 2 ^ k = 2 ^ k * (2 * c + 1) := by rw [e2, Nat.mul_assoc, Nat.mul_add, Nat.mul_one]
    have e0 : 2 ^ (k + 1) * c = 2 ^ k * (2 * c) := by rw [e2, Nat.mul_assoc]
    have rb : 2 ^ (k + 1) * c < 2 ^ 30 := by
      have : 2 ^ (k + 1) * c * (2 ^ (k + 1) * c) < 2 ^ 30 * 2 ^ 30 := Nat.lt_of_le_of_lt h1 (by rw [← Nat.pow_add]; exact hx)
      exact Nat.mul_self_lt_mul_self_iff.mp this
    have kb : 2 ^ k ≤ 2 ^ 29 := Nat.pow_le_pow_right (by decide) (by omega)
    have mb : 2 ^ (k + 1) * c + 2 ^ k < 2 ^ 31 := by omega
    have sqb : (2 ^ (k + 1) * c + 2 ^ k) * (2 ^ (k + 1) * c + 2 ^ k) < 2 ^ 63 := Nat.lt_of_le_of_lt (Nat.mul_le_mul (Nat.le_of_lt mb) (Nat.le_of_lt mb)) (by decide)
    have st : nI (k + 1) - 1 = nI k := nI_pred k
    have st2 : nI k + (-1 : Int32) = nI k - 1 := by rw [Int32.sub_eq_add_neg]
    show ∃ r, t_Y_wholeRoot_6 (f_Y_wholeRoot_6 (f + k + 1)) _ _ _ = _ ∧ _
    unfold t_Y_wholeRoot_6 f_Y_wholeRoot_32
    rw [st, if_neg (nI_pos (by omega)), sh_64 k (by omega), l_or, orr, lN_mul, st2]
    by_cases d : x < (2 ^ (k + 1) * c + 2 ^ k) * (2 ^ (k + 1) * c + 2 ^ k)
    · rw [if_pos ((pk_lLT (by omega) sqb).mpr d), e0]
      refine ih f (2 * c) (by omega) (by rw [← e0]; exact h1) ?_
      rw [← e0]
      exact d
    · rw [if_neg (fun q => d ((pk_lLT (by omega) sqb).mp q)), em]
      refine ih f (2 * c + 1) (by omega) (by rw [← em]; omega) ?_
      have : 2 ^ k * (2 * c + 1) + 2 ^ k = 2 ^ (k + 1) * c + 2 ^ (k + 1) := by rw [← em, e2]; omega
      rw [this]
      exact h2
theorem Y_root {x : Nat} (hx : x < 2 ^ 60) : ∃ r, f_Y_wholeRoot (lN x) = some (lN r) ∧ isR x r := by
  have := Y_root_loop hx 30 (FU - 31) 0 (by decide) (by simp) (by simp; omega)
  rw [Nat.mul_zero] at this
  exact this
theorem M_root_loop {x : Nat} (hx : x < 2 ^ 60) : ∀ (k f lo hi : Nat), hi - lo ≤ 2 ^ k → lo < hi → hi ≤ 1000000001 → lo * lo ≤ x → x < hi * hi → ∃ r, f_M_rootOf_7 (f + k + 1) (lN x) (lN lo) (lN hi) = some (lN r) ∧ isR x r := by
  intro k
  induction k with
  | zero =>
    intro f lo hi h0 h1 h2 h3 h4
    have e : hi = lo + 1 := by omega
    subst e
    refine ⟨lo, ?_, h3, h4⟩
    show t_M_rootOf_7 _ _ _ _ = _
    unfold t_M_rootOf_7
    rw [show lN (lo + 1) - lN lo = lN 1 by rw [Nat.add_comm]; exact l_sub, if_pos (by decide)]
  | succ k ih =>
    intro f lo hi h0 h1 h2 h3 h4
    have e2 : 2 ^ (k + 1) = 2 ^ k * 2 := Nat.pow_succ 2 k
    obtain ⟨d, rfl⟩ : ∃ d, hi = d + lo := ⟨hi - lo, by omega⟩
    show ∃ r, t_M_rootOf_7 (f_M_rootOf_7 (f + k + 1)) _ _ _ = _ ∧ _
    unfold t_M_rootOf_7
    rw [l_sub]
    by_cases d1 : d ≤ 1
    · rw [if_pos (show lN d ≤ (1 : Int64) from (pk_lLE (by omega) (b := 1) (by decide)).mpr d1)]
      have e : d = 1 := by omega
      subst e
      exact ⟨lo, rfl, h3, by rw [Nat.add_comm lo 1]; exact h4⟩
    · rw [if_neg (show ¬ lN d ≤ (1 : Int64) from fun q => d1 ((pk_lLE (by omega) (b := 1) (by decide)).mp q))]
      have em : (lN lo + lN (d + lo)) / (2 : Int64) = lN ((lo + (d + lo)) / 2) := by
        rw [lN_add, l2, pk_lDiv (by omega) (by decide) (by decide)]
      rw [em]
      generalize hm : (lo + (d + lo)) / 2 = mid
      have mb : mid ≤ 1000000001 := by omega
      have sqb : mid * mid < 2 ^ 63 := Nat.lt_of_le_of_lt (Nat.mul_le_mul mb mb) (by decide)
      rw [lN_mul]
      unfold f_M_rootOf_41 f_M_rootOf_54 f_M_rootOf_67
      by_cases c : x < mid * mid
      · rw [if_pos ((pk_lLT (by omega) sqb).mpr c), if_pos rfl]
        exact ih f lo mid (by omega) (by omega) (by omega) h3 c
      · rw [if_neg (fun q => c ((pk_lLT (by omega) sqb).mp q)), if_neg (by decide)]
        exact ih f mid (d + lo) (by omega) (by omega) (by omega) (by omega) h4
theorem M_root {x : Nat} (hx : x ≤ 1000000000000000000) : ∃ r, f_M_rootOf (lN x) = some (lN r) ∧ isR x r := by
  have := M_root_loop (x := x) (by omega) 30 (FU - 31) 0 1000000001 (by decide) (by decide) (by decide) (by omega) (by omega)
  exact this
theorem roots {x : Nat} (hx : x ≤ 1000000000000000000) : ∃ r, f_Y_wholeRoot (lN x) = some (lN r) ∧ f_M_rootOf (lN x) = some (lN r) := by
  obtain ⟨r, a, b⟩ := Y_root (x := x) (by omega)
  obtain ⟨s, c, d⟩ := M_root hx
  rw [isR_uq d b] at c
  exact ⟨r, a, c⟩
