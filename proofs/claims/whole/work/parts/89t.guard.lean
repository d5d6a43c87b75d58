/-! ===== what both sides refuse ===== -/
theorem one_ne : ((1 : Int32) = 0) = False := by decide
theorem l64_lt0 (x : Int32) : x.toInt64 < 0 ↔ x < 0 := by
  rw [Int64.lt_iff_toInt_lt, Int32.lt_iff_toInt_lt, Int32.toInt_toInt64]
  rfl
theorem l64_gt (x : Int32) {n : Nat} (hn : n < 2 ^ 31) : lN n < x.toInt64 ↔ nI n < x := by
  rw [Int64.lt_iff_toInt_lt, Int32.lt_iff_toInt_lt, Int32.toInt_toInt64, pk_lT (by omega), nI_toInt hn]
theorem M_in_out {x : Int32} {n : Nat} (hn : n < 2 ^ 31) (h : x < 0 ∨ nI n < x) : f_M_in x.toInt64 0 (lN n) = some 0 := by
  unfold f_M_in
  rcases h with h | h
  · rw [if_pos ((l64_lt0 x).mpr h)]
  · by_cases c : x.toInt64 < 0
    · rw [if_pos c]
    · rw [if_neg c, if_pos ((l64_gt x hn).mpr h)]
theorem M_in_in {j n : Nat} (hn : n < 2 ^ 31) (h : j ≤ n) : f_M_in (nI j).toInt64 0 (lN n) = some 1 := by
  unfold f_M_in
  rw [if_neg (fun c => nI_pos (show j < 2 ^ 31 by omega) ((l64_lt0 _).mp c)), if_neg (fun c => nI_nlt h hn ((l64_gt _ hn).mp c))]
theorem rng (x : Int32) (n : Nat) (hn : n + 1 < 2 ^ 31) : (∃ j, j ≤ n ∧ x = nI j) ∨ x < 0 ∨ (¬ x < 0 ∧ nI n < x) := by
  rcases pk_ix x (n := n + 1) hn with h | h | ⟨j, hj, e⟩
  · exact Or.inr (Or.inl h)
  · refine Or.inr (Or.inr ⟨?_, ?_⟩)
    · rw [Int32.le_iff_toInt_le, nI_toInt (by omega)] at h
      rw [Int32.lt_iff_toInt_lt]
      have : (0 : Int32).toInt = 0 := rfl
      omega
    · rw [Int32.le_iff_toInt_le, nI_toInt (by omega)] at h
      rw [Int32.lt_iff_toInt_lt, nI_toInt (by omega)]
      omega
  · exact Or.inl ⟨j, by omega, e⟩
theorem nlt_le {x y : Int32} (h : x < y) : ¬ y ≤ x := by
  rw [Int32.lt_iff_toInt_lt] at h
  rw [Int32.le_iff_toInt_le]
  omega
/-- a value from 0 to n -/
theorem Z_in (x : Int32) (n : Nat) (hn : n + 1 < 2 ^ 31) : (∃ j, j ≤ n ∧ x = nI j ∧ f_M_in x.toInt64 0 (lN n) = some 1) ∨ (f_M_in x.toInt64 0 (lN n) = some 0 ∧ (x < 0 ∨ (¬ x < 0 ∧ ¬ x ≤ nI n))) := by
  rcases rng x n hn with ⟨j, hj, rfl⟩ | h | ⟨h1, h2⟩
  · exact Or.inl ⟨j, hj, rfl, M_in_in (by omega) hj⟩
  · exact Or.inr ⟨M_in_out (by omega) (Or.inl h), Or.inl h⟩
  · exact Or.inr ⟨M_in_out (by omega) (Or.inr h2), Or.inr ⟨h1, nlt_le h2⟩⟩
theorem Z_year (x : Int32) : (∃ j, j < 8 ∧ x = nI j ∧ f_Y_isNoYear x = some 0 ∧ f_M_isYear x = some 1) ∨ (f_Y_isNoYear x = some 1 ∧ f_M_isYear x = some 0) := by
  unfold f_M_isYear f_Y_isNoYear
  rcases Z_in x 7 (by decide) with ⟨j, hj, rfl, e⟩ | ⟨e, h⟩
  · refine Or.inl ⟨j, by omega, rfl, ?_, ?_⟩
    · rw [if_neg (nI_pos (by omega)), if_pos (show nI j < (8 : Int32) from nI_lt (b := 8) (by omega) (by decide))]
    · rw [show (7 : Int64) = lN 7 from rfl, e]; rfl
  · refine Or.inr ⟨?_, ?_⟩
    · rcases h with h | ⟨h1, h2⟩
      · rw [if_pos h]
      · rw [if_neg h1, if_neg]
        intro c
        refine h2 ?_
        rw [Int32.lt_iff_toInt_lt] at c
        rw [Int32.le_iff_toInt_le, nI_toInt (by decide)]
        have : (8 : Int32).toInt = 8 := rfl
        omega
    · rw [show (7 : Int64) = lN 7 from rfl, e]; rfl
theorem Z_good (x : Int32) : (∃ j, j < 5 ∧ x = nI j ∧ f_Y_isNoGood x = some 0 ∧ f_M_isGood x = some 1) ∨ (f_Y_isNoGood x = some 1 ∧ f_M_isGood x = some 0) := by
  unfold f_M_isGood f_Y_isNoGood
  rcases Z_in x 4 (by decide) with ⟨j, hj, rfl, e⟩ | ⟨e, h⟩
  · refine Or.inl ⟨j, by omega, rfl, ?_, ?_⟩
    · rw [if_neg (nI_pos (by omega)), if_pos (show nI j < (5 : Int32) from nI_lt (b := 5) (by omega) (by decide))]
    · rw [show (4 : Int64) = lN 4 from rfl, e]; rfl
  · refine Or.inr ⟨?_, ?_⟩
    · rcases h with h | ⟨h1, h2⟩
      · rw [if_pos h]
      · rw [if_neg h1, if_neg]
        intro c
        refine h2 ?_
        rw [Int32.lt_iff_toInt_lt] at c
        rw [Int32.le_iff_toInt_le, nI_toInt (by decide)]
        have : (5 : Int32).toInt = 5 := rfl
        omega
    · rw [show (4 : Int64) = lN 4 from rfl, e]; rfl
theorem Z_who (x : Int32) : (∃ j, j < 4 ∧ x = nI j ∧ f_Y_isNoWho x = some 0 ∧ f_M_isWho x = some 1) ∨ (f_Y_isNoWho x = some 1 ∧ f_M_isWho x = some 0) := by
  unfold f_M_isWho f_Y_isNoWho
  rcases Z_in x 3 (by decide) with ⟨j, hj, rfl, e⟩ | ⟨e, h⟩
  · refine Or.inl ⟨j, by omega, rfl, ?_, ?_⟩
    · rw [if_neg (nI_pos (by omega)), if_pos (show nI j < (4 : Int32) from nI_lt (b := 4) (by omega) (by decide))]
    · rw [show (3 : Int64) = lN 3 from rfl, e]; rfl
  · refine Or.inr ⟨?_, ?_⟩
    · rcases h with h | ⟨h1, h2⟩
      · rw [if_pos h]
      · rw [if_neg h1, if_neg]
        intro c
        refine h2 ?_
        rw [Int32.lt_iff_toInt_lt] at c
        rw [Int32.le_iff_toInt_le, nI_toInt (by decide)]
        have : (4 : Int32).toInt = 4 := rfl
        omega
    · rw [show (3 : Int64) = lN 3 from rfl, e]; rfl
theorem Z_person (x : Int32) : (∃ j, j < 3 ∧ x = nI j ∧ f_Y_isNoPerson x = some 0 ∧ f_M_in x.toInt64 0 2 = some 1) ∨ (f_Y_isNoPerson x = some 1 ∧ f_M_in x.toInt64 0 2 = some 0) := by
  unfold f_Y_isNoPerson
  rcases Z_in x 2 (by decide) with ⟨j, hj, rfl, e⟩ | ⟨e, h⟩
  · refine Or.inl ⟨j, by omega, rfl, ?_, e⟩
    rw [if_neg (nI_pos (by omega)), if_pos (show nI j < (3 : Int32) from nI_lt (b := 3) (by omega) (by decide))]
  · refine Or.inr ⟨?_, e⟩
    rcases h with h | ⟨h1, h2⟩
    · rw [if_pos h]
    · rw [if_neg h1, if_neg]
      intro c
      refine h2 ?_
      rw [Int32.lt_iff_toInt_lt] at c
      rw [Int32.le_iff_toInt_le, nI_toInt (by decide)]
      have : (3 : Int32).toInt = 3 := rfl
      omega
theorem Z_law (x : Int32) : (∃ j, j < 7 ∧ x = nI j ∧ f_Y_isNoLaw x = some 0 ∧ f_M_isLaw x = some 1) ∨ (f_Y_isNoLaw x = some 1 ∧ f_M_isLaw x = some 0) := by
  unfold f_M_isLaw f_Y_isNoLaw
  rcases Z_in x 6 (by decide) with ⟨j, hj, rfl, e⟩ | ⟨e, h⟩
  · refine Or.inl ⟨j, by omega, rfl, ?_, ?_⟩
    · rw [if_neg (nI_pos (by omega)), if_pos (show nI j < (7 : Int32) from nI_lt (b := 7) (by omega) (by decide))]
    · rw [show (6 : Int64) = lN 6 from rfl, e]; rfl
  · refine Or.inr ⟨?_, ?_⟩
    · rcases h with h | ⟨h1, h2⟩
      · rw [if_pos h]
      · rw [if_neg h1, if_neg]
        intro c
        refine h2 ?_
        rw [Int32.lt_iff_toInt_lt] at c
        rw [Int32.le_iff_toInt_le, nI_toInt (by decide)]
        have : (7 : Int32).toInt = 7 := rfl
        omega
    · rw [show (6 : Int64) = lN 6 from rfl, e]; rfl
