/-! ===== sims: part ===== -/
theorem nneg_i {k : Nat} (hk : k < 2 ^ 31) : (- nI k).toInt = -(k : Int) := by
  rw [Int32.toInt_neg, nI_toInt hk]
  exact Int.bmod_eq_of_le (by omega) (by omega)
theorem nneg_l {k : Nat} (hk : k < 2 ^ 31) : (- nI k).toInt64 = - lN k := by
  apply Int64.toInt_inj.mp
  rw [Int32.toInt_toInt64, nneg_i hk, Int64.toInt_neg, pk_lT (by omega)]
  exact (Int.bmod_eq_of_le (by omega) (by omega)).symm
theorem M_gcdn {x : Int32} {k L : Nat} (hk : k ≤ 60000) (hL : L ≤ 60000) (hx : x = nI k ∨ (0 < k ∧ x = - nI k)) : f_M_gcd x.toInt64 (nI L).toInt64 = some (lN (Nat.gcd k L)) := by
  rcases hx with rfl | ⟨h0, rfl⟩
  · rw [nI_l (by omega), nI_l (by omega), zgcd (by omega) (by omega)]
  · rw [nneg_l (by omega), nI_l (by omega)]
    unfold f_M_gcd
    rw [if_neg]
    · rw [Int64.neg_neg]
      unfold f_M_gcd_12
      exact zg17 63 FU k L (by omega) (by omega) (by omega) (FU_ge (by decide))
    · rw [Int64.le_iff_toInt_le, ← nneg_l (by omega), Int32.toInt_toInt64, nneg_i (by omega)]
      have : (0 : Int64).toInt = 0 := rfl
      omega
theorem Y_least {x : Int32} {k L : Nat} {j : Int32} (hk : k ≤ 60000) (hL : L ≤ 60000) (h0 : 0 < L) (hx : x = nI k ∨ (0 < k ∧ x = - nI k)) : f_Y_inLeastTerms x (nI L) j = (if j = 0 then some (x / nI (Nat.gcd k L)) else some (nI L / nI (Nat.gcd k L))) := by
  have gp : 0 < Nat.gcd k L := Nat.gcd_pos_of_pos_right _ h0
  have gl : Nat.gcd k L ≤ L := Nat.gcd_le_right _ h0
  have ab : (if 0 ≤ x then x else 0 - x) = nI k := by
    rcases hx with rfl | ⟨k0, rfl⟩
    · rw [if_pos (nI_pos' (by omega))]
    · rw [if_neg]
      · rw [Int32.zero_sub, Int32.neg_neg]
      · rw [Int32.le_iff_toInt_le, nneg_i (by omega)]
        have : (0 : Int32).toInt = 0 := rfl
        omega
  unfold f_Y_inLeastTerms
  rw [ab, nI_l (by omega), nI_l (by omega), zcd (by omega) (by omega), Option.bind_some, gd_of (Or.inr h0), lN_i, if_pos (show (1 : Int32) ≤ nI (Nat.gcd k L) from nI_le (a := 1) (by omega) (by omega)), if_neg (nI_ne0 gp (by omega)), if_neg (nI_ne0 gp (by omega))]
section
variable {S : Nat}
theorem sim_part : Sim_part (zInv S) S := by
  intro h x1 x2 x3 x4 x5 I
  obtain ⟨mk, T, p, q, pr, br, tx, len, lf, F, hm, B, Z0, C, Mi⟩ := I
  obtain ⟨a0, -⟩ := C.a
  have mb := Mi.2.1
  unfold f_Y_part f_M_part
  rw [if_pos C.o, if_pos Mi.o]
  rcases (Z_who x1).symm with ⟨Y1, M1⟩ | ⟨w, hw, rfl, Y1, M1⟩
  · simp only [Y1, M1, Option.bind_some, one_ne, eq_self, if_true, if_false]
    exact ⟨_, rfl, rfl⟩
  simp only [Y1, M1, Option.bind_some, one_ne, eq_self, if_true, if_false]
  rcases (Z_good x2).symm with ⟨Y2, M2⟩ | ⟨g, hg, rfl, Y2, M2⟩
  · simp only [Y2, M2, Option.bind_some, one_ne, eq_self, if_true, if_false]
    exact ⟨_, rfl, rfl⟩
  simp only [Y2, M2, Option.bind_some, one_ne, eq_self, if_true, if_false]
  rcases (Z_year x3).symm with ⟨Y3, M3⟩ | ⟨a, ha, rfl, Y3, M3⟩
  · simp only [Y3, M3, Option.bind_some, one_ne, eq_self, if_true, if_false]
    exact ⟨_, rfl, rfl⟩
  simp only [Y3, M3, Option.bind_some, one_ne, eq_self, if_true, if_false]
  rcases (Z_year x4).symm with ⟨Y4, M4⟩ | ⟨b, hb, rfl, Y4, M4⟩
  · simp only [Y4, M4, Option.bind_some, one_ne, eq_self, if_true, if_false]
    exact ⟨_, rfl, rfl⟩
  simp only [Y4, M4, Option.bind_some, one_ne, eq_self, if_true, if_false, a0, show (1 : Int64) = lN 1 from rfl]
  rcases (Z_in x5 1 (by decide)).symm with ⟨M5, h5⟩ | ⟨j, hj, rfl, M5⟩
  · simp only [M5, Option.bind_some, eq_self, if_true]
    rcases h5 with h1 | ⟨h1, h2⟩
    · rw [if_pos h1]
      exact ⟨_, rfl, rfl⟩
    · rw [if_neg h1, if_neg (show ¬ x5 ≤ (1 : Int32) from h2)]
      exact ⟨_, rfl, rfl⟩
  simp only [M5, Option.bind_some, one_ne, if_false]
  have am := B.2.1 w a g hw ha hg
  have aml : bam br w a g ≤ 54 := bam_le mb hw (by omega) hg
  have pa := B.2.2.1 (a * 5 + g) (by omega)
  have pb := B.2.2.1 (b * 5 + g) (by omega)
  rw [if_neg (nI_pos (by omega)), if_pos (show nI j ≤ (1 : Int32) from nI_le (b := 1) hj (by decide)), show (31 : Int32) = nI 31 from rfl, B_costOver C.bk hw ha ha (by decide), M_costOf mb hw (by omega) (by omega) (by decide), B.cost hw ha ha, M_buying mb hw (by omega) hg, B_amountOf C.bk hw ha hg, show q ((w * 8 + a) * 5 + g) = bam br w a g from am, B_priceOf C.bk ha hg, B_priceOf C.bk hb hg, B.price ha hg, B.price hb hg]
  simp only [Option.bind_some]
  generalize bam br w a g = c at *
  have e109 : ∀ L : Nat, 0 < L → L ≤ 53460 → f_M_part_109 (S + 59) h (nI g) (nI a) (nI b) (nI j) (nI L) (nI c) = f_Y_inLeastTerms ((nI (pr (b * 5 + g)) - nI (pr (a * 5 + g))) * nI c) (nI L) (nI j) := by
    intro L h0 hL
    obtain ⟨k, hk, hx⟩ := dif_cs (a := pr (b * 5 + g)) (b := pr (a * 5 + g)) (c := c) (by omega) (by omega) aml
    have gp : 0 < Nat.gcd k L := Nat.gcd_pos_of_pos_right _ h0
    have gl : Nat.gcd k L ≤ L := Nat.gcd_le_right _ h0
    unfold f_M_part_109
    rw [mb.g0]
    simp only [Option.bind_some]
    rw [M_price mb (by omega) hg, M_price mb (by omega) hg]
    simp only [Option.bind_some]
    rw [Y_least (by omega) (by omega) h0 hx, M_gcdn (by omega) (by omega) hx]
    simp only [Option.bind_some]
    rw [lN_i, if_neg (nI_ne0 gp (by omega)), if_neg (nI_ne0 gp (by omega))]
  rcases cI_cs (mb.cost_le (set := 31) hw (show a < 10 by omega) (show a < 10 by omega)) with e | ⟨u, e, hu⟩
  · rw [e, if_neg (show ¬ 0 < cI none by decide), if_pos (show cI none ≤ 0 by decide)]
    exact ⟨_, rfl, rfl⟩
  · rw [e]
    by_cases u0 : u = 0
    · rw [u0, if_neg (show ¬ 0 < cI (some 0) by decide), if_pos (show cI (some 0) ≤ 0 by decide)]
      exact ⟨_, rfl, rfl⟩
    · rw [if_pos (show 0 < cI (some u) from nI_lt (a := 0) (by omega) (by omega)), if_neg (show ¬ cI (some u) ≤ 0 from nI_nle (by omega) (by omega))]
      by_cases c0 : c = 0
      · rw [if_pos ((nI_eq0 (by omega)).mpr c0), if_pos ((nI_le0 (by omega)).mpr c0), show cI (some u) = nI u from rfl, e109 u (by omega) hu, c0, show (nI 0 : Int32) = 0 from rfl, Int32.mul_zero]
        have : f_Y_inLeastTerms 0 (nI u) (nI j) = _ := Y_least (k := 0) (by omega) (by omega) (by omega) (Or.inl rfl)
        rw [this, Nat.gcd_zero_left]
        rcases (by omega : j = 0 ∨ j = 1) with rfl | rfl
        · rw [if_pos (show nI 0 = (0 : Int32) from rfl)]
          exact ⟨_, rfl, by rw [Int32.zero_div]; rfl⟩
        · rw [if_neg (by decide)]
          refine ⟨_, rfl, ?_⟩
          have e1 : nI u / nI u = nI 1 := by
            have : ∀ u, u ≤ 53460 → 0 < u → nI u / nI u = nI 1 := fun u hu h0 => by
              apply Int32.toInt_inj.mp
              rw [Int32.toInt_div_of_ne_left, nI_toInt (by omega), nI_toInt (by decide)]
              · exact Int.tdiv_self (by omega)
              · intro c
                have : (nI u).toInt = Int32.minValue.toInt := by rw [c]
                rw [nI_toInt (by omega)] at this
                have e : Int32.minValue.toInt = -2147483648 := by decide
                omega
            exact this u hu (by omega)
          rw [e1]
      · rw [if_neg (fun e => c0 ((nI_eq0 (by omega)).mp e)), if_neg (fun e => c0 ((nI_le0 (by omega)).mp e)), mb.g0]
        simp only [Option.bind_some]
        rw [M_price mb (by omega) hg, M_price mb (by omega) hg]
        simp only [Option.bind_some]
        by_cases p1 : nI (pr (a * 5 + g)) = 0
        · rw [if_pos p1, if_pos p1]
          exact ⟨_, rfl, rfl⟩
        · rw [if_neg p1, if_neg p1]
          by_cases p2 : nI (pr (b * 5 + g)) = 0
          · rw [if_pos p2, if_pos p2]
            exact ⟨_, rfl, rfl⟩
          · rw [if_neg p2, if_neg p2, show cI (some u) = nI u from rfl, e109 u (by omega) hu]
            obtain ⟨k, hk, hx⟩ := dif_cs (a := pr (b * 5 + g)) (b := pr (a * 5 + g)) (c := c) (by omega) (by omega) aml
            rw [Y_least (by omega) (by omega) (by omega) hx]
            by_cases j0 : nI j = 0
            · rw [if_pos j0]
              exact ⟨_, rfl, rfl⟩
            · rw [if_neg j0]
              exact ⟨_, rfl, rfl⟩
end
