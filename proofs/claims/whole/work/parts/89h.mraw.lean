/-! ===== the reference: an order against a pair of prices ===== -/
/-- two prices as a share -/
def rat (v n : Nat) : Nat × Nat × Bool := (v / Nat.gcd v n, n / Nat.gcd v n, false)
theorem rat_ok {v n : Nat} (hn : 0 < n) (h1 : v ≤ 198) (h2 : n ≤ 198) : qok (.ok (rat v n)) := by
  have := qmk_ok (u := v) hn false
  unfold qmk at this
  have a : v / Nat.gcd v n ≤ qM := Nat.le_trans (Nat.div_le_self _ _) (by rw [qM_eq]; omega)
  have b : n / Nat.gcd v n ≤ qM := Nat.le_trans (Nat.div_le_self _ _) (by rw [qM_eq]; omega)
  rw [if_pos ⟨a, b⟩] at this
  exact this
theorem rat_mk {v n : Nat} (h1 : v ≤ 198) (h2 : n ≤ 198) : qmk v n false = .ok (rat v n) := by
  have a : v / Nat.gcd v n ≤ qM := Nat.le_trans (Nat.div_le_self _ _) (by rw [qM_eq]; omega)
  have b : n / Nat.gcd v n ≤ qM := Nat.le_trans (Nat.div_le_self _ _) (by rw [qM_eq]; omega)
  unfold qmk
  rw [if_pos ⟨a, b⟩]
  rfl
theorem M_mulraw {h : Hp} {m v n : Nat} (hv : 0 < v) (hn : 0 < n) (h1 : v ≤ 198) (h2 : n ≤ 198) : f_M_multiply m (lN v) (lN n) (lN v) (lN n) 0 h = f_M_multiply m (lN (rat v n).1) (lN (rat v n).2.1) (lN (rat v n).1) (lN (rat v n).2.1) 0 h := by
  have gp : 0 < Nat.gcd v n := Nat.gcd_pos_of_pos_left _ hv
  have gl : Nat.gcd v n ≤ v := Nat.gcd_le_left _ hv
  have b1 : v / Nat.gcd v n ≤ v := Nat.div_le_self _ _
  have b2 : n / Nat.gcd v n ≤ n := Nat.div_le_self _ _
  have c1 : Nat.gcd (v / Nat.gcd v n) (n / Nat.gcd v n) = 1 := Nat.gcd_div_gcd_div_gcd_of_pos_right hn
  have z : ¬ lN (Nat.gcd v n) = 0 := fun q => by have := (lN_eq0 (by omega)).mp q; omega
  have z1 : ¬ lN 1 = 0 := by decide
  unfold rat
  dsimp only
  unfold f_M_multiply
  rw [zgcd (by omega) (by omega), zgcd (by omega) (by omega), c1]
  simp only [Option.bind_some]
  rw [if_neg z, if_neg (show ¬ lN 1 = (0 : Int64) by decide)]
  have dv : ∀ x y : Nat, x ≤ 198 → 0 < y → y ≤ 198 → lN x / lN y = lN (x / y) := fun x y a b c => pk_lDiv (by omega) b (by omega)
  unfold f_M_multiply_30
  rw [if_neg z, if_neg z, if_neg z1, if_neg (show ¬ lN 1 = (0 : Int64) by decide), dv _ _ h1 gp (by omega), dv _ _ (by omega) (by decide) (by decide), Nat.div_one]
  unfold f_M_multiply_48
  rw [if_neg z, if_neg z, if_neg z1, if_neg (show ¬ lN 1 = (0 : Int64) by decide), dv _ _ h1 gp (by omega), dv _ _ (by omega) (by decide) (by decide), Nat.div_one]
  unfold f_M_multiply_65
  rw [if_neg z, if_neg z, if_neg z1, if_neg (show ¬ lN 1 = (0 : Int64) by decide), dv _ _ h2 gp (by omega), dv _ _ (by omega) (by decide) (by decide), Nat.div_one]
  unfold f_M_multiply_83
  rw [if_neg z, if_neg z1, dv _ _ h2 gp (by omega), dv _ _ (by omega) (by decide) (by decide), Nat.div_one]
theorem rat_cmp {u l v n : Nat} (hv : 0 < v) : cmp3 (u * n) (v * l) = cmp3 (u * (n / Nat.gcd v n)) (v / Nat.gcd v n * l) := by
  have gp : 0 < Nat.gcd v n := Nat.gcd_pos_of_pos_left _ hv
  have e1 : Nat.gcd v n * (n / Nat.gcd v n) = n := Nat.mul_div_cancel' (Nat.gcd_dvd_right v n)
  have e2 : Nat.gcd v n * (v / Nat.gcd v n) = v := Nat.mul_div_cancel' (Nat.gcd_dvd_left v n)
  generalize Nat.gcd v n = g at *
  generalize n / g = n' at *
  generalize v / g = v' at *
  subst e1 e2
  rw [show u * (g * n') = g * (u * n') from Nat.mul_left_comm _ _ _, Nat.mul_assoc]
  unfold cmp3
  have a : g * (u * n') < g * (v' * l) ↔ u * n' < v' * l := Nat.mul_lt_mul_left gp
  have b : g * (u * n') = g * (v' * l) ↔ u * n' = v' * l := Nat.mul_right_inj (Nat.pos_iff_ne_zero.mp gp)
  by_cases c : u * n' < v' * l
  · rw [if_pos c, if_pos (a.mpr c)]
  · rw [if_neg c, if_neg (fun x => c (a.mp x))]
    by_cases d : u * n' = v' * l
    · rw [if_pos d, if_pos (b.mpr d)]
    · rw [if_neg d, if_neg (fun x => d (b.mp x))]
theorem M_orderRaw {h : Hp} {m v n : Nat} {p : Nat × Nat × Bool} {F : Nat → Value} (H : h m = some (ocell 8 40 F)) (k1 : qok (.ok p)) (hv : 0 < v) (hn : 0 < n) (h1 : v ≤ 198) (h2 : n ≤ 198) : f_M_orderOf m (lN p.1) (lN p.2.1) (bI p.2.2) (lN v) (lN n) 0 h = f_M_orderOf m (lN p.1) (lN p.2.1) (bI p.2.2) (lN (rat v n).1) (lN (rat v n).2.1) (bI (rat v n).2.2) h := by
  obtain ⟨u, l, t⟩ := p
  obtain ⟨bu, bl, lp, mu, ml, hcop⟩ := qok_b k1
  have kr := rat_ok (v := v) hn h1 h2
  have gp : 0 < Nat.gcd v n := Nat.gcd_pos_of_pos_left _ hv
  have gl : Nat.gcd v n ≤ n := Nat.gcd_le_right _ hn
  have b1 : v / Nat.gcd v n ≤ v := Nat.div_le_self _ _
  have b2 : n / Nat.gcd v n ≤ n := Nat.div_le_self _ _
  have np : 0 < n / Nat.gcd v n := Nat.div_pos gl gp
  unfold f_M_orderOf
  rw [if_pos (oc_o H), if_pos (oc_o H)]
  show (if bI t = 0 then _ else _) = (if bI t = 0 then _ else if bI false = 0 then _ else _)
  by_cases c : bI t = 0
  · rw [if_pos c, if_pos c]
    unfold f_M_orderOf_59
    rw [if_pos rfl, if_pos (show bI (rat v n).2.2 = 0 from rfl)]
    show f_M_orderOf_100 m (lN u) (lN l) (lN v) (lN n) h = f_M_orderOf_100 m (lN u) (lN l) (lN (v / Nat.gcd v n)) (lN (n / Nat.gcd v n)) h
    rw [M_ord100 H lp hn bu bl (by omega) (by omega), M_ord100 H lp np bu bl (by omega) (by omega), rat_cmp hv]
  · rw [if_neg c, if_neg c, if_pos (show bI false = 0 from rfl), M_mulraw hv hn h1 h2]
    rfl
