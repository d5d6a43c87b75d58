/-! ===== sims: wage ===== -/
theorem M_in1n (x : Int32) (n : Nat) (hn : n + 1 < 2 ^ 31) : (∃ j, 1 ≤ j ∧ j ≤ n ∧ x = nI j ∧ f_M_in x.toInt64 1 (lN n) = some 1) ∨ (f_M_in x.toInt64 1 (lN n) = some 0 ∧ (x < 1 ∨ (¬ x < 1 ∧ nI n < x))) := by
  have e1 : x.toInt64 < 1 ↔ x < 1 := by
    rw [Int64.lt_iff_toInt_lt, Int32.lt_iff_toInt_lt, Int32.toInt_toInt64]
    rfl
  unfold f_M_in
  rcases rng x n hn with ⟨j, hj, rfl⟩ | h | ⟨h1, h2⟩
  · rcases Nat.eq_zero_or_pos j with rfl | h
    · exact Or.inr ⟨by rw [if_pos (by decide)], Or.inl (by decide)⟩
    · refine Or.inl ⟨j, h, hj, rfl, ?_⟩
      have n1 : ¬ nI j < 1 := nI_nlt (b := 1) h (by omega)
      rw [if_neg (fun c => n1 (e1.mp c)), if_neg (fun c => nI_nlt hj (by omega) ((l64_gt _ (by omega)).mp c))]
  · have : x < 1 := by
      rw [Int32.lt_iff_toInt_lt] at h ⊢
      have a : (0 : Int32).toInt = 0 := rfl
      have b : (1 : Int32).toInt = 1 := rfl
      omega
    exact Or.inr ⟨by rw [if_pos (e1.mpr this)], Or.inl this⟩
  · refine Or.inr ⟨?_, ?_⟩
    · split
      · rfl
      · rw [if_pos ((l64_gt x (by omega)).mpr h2)]
    · by_cases c : x < 1
      · exact Or.inl c
      · exact Or.inr ⟨c, h2⟩
theorem l18 : (1000000000000000000 : Int64) = lN 1000000000000000000 := rfl
section
variable {h : Hp} {S mk : Nat} {T : Nt} {p q pr br tx : Nat → Nat} {len : Nat} {lf : Int32} {F : Nat → Value}
/-- what is answered: t times u shared by l, its root where it is one -/
def wgI (t u l : Nat) (r : Bool) : Int64 → Prop := fun v => if 1000000000000000000 / t < u then v = -1005 else if r then (∃ z, v = lN z ∧ isR (t * u / l) z) else v = lN (t * u / l)
theorem wg_big {t u l : Nat} {r : Bool} (c : 1000000000000000000 / t < u) : wgI t u l r (-1005) := by
  unfold wgI
  rw [if_pos c]
theorem wg_pl {t u l : Nat} (c : ¬ 1000000000000000000 / t < u) : wgI t u l false (lN (t * u / l)) := by
  unfold wgI
  rw [if_neg c]
  rfl
theorem wg_rt {t u l z : Nat} (c : ¬ 1000000000000000000 / t < u) (h : isR (t * u / l) z) : wgI t u l true (lN z) := by
  unfold wgI
  rw [if_neg c, if_pos rfl]
  exact ⟨z, rfl, h⟩
theorem wg_b {t u : Nat} (h0 : 0 < t) (h : ¬ 1000000000000000000 / t < u) : t * u ≤ 1000000000000000000 := by
  have h : u ≤ 1000000000000000000 / t := by omega
  have := (Nat.le_div_iff_mul_le h0).mp h
  rw [Nat.mul_comm]
  exact this
theorem Y_wage114 (C : CI h S mk T p q pr br tx len lf) {t u l : Nat} {r : Bool} (R : FR h (S + 57) (.ok (u, l, r))) (k : qok (.ok (u, l, r))) (h0 : 0 < t) (ht : t < 2 ^ 63) : ∃ v, f_Y_wage_114 S (lN t) h = some (v, h) ∧ wgI t u l r v := by
  obtain ⟨-, -, -, -, -, -, -, a7, -⟩ := C.a
  obtain ⟨z0, z1, zt, -, -⟩ := fo_g (fr_ok R)
  obtain ⟨bu, bl, lp, mu, ml, hcop⟩ := qok_b k
  have hd : 1000000000000000000 / t < 2 ^ 63 := Nat.lt_of_le_of_lt (Nat.div_le_self _ _) (by decide)
  unfold f_Y_wage_114
  rw [a7]
  simp only [Option.bind_some]
  rw [z0, z1, zt]
  simp only [Option.bind_some]
  unfold f_F_exceeds
  rw [if_neg (fun q => by have := (lN_le0 ht).mp q; omega), if_neg (fun q => by have := (lN_eq0 ht).mp q; omega), l18, pk_lDiv (by decide) h0 ht]
  by_cases c : 1000000000000000000 / t < u
  · rw [if_neg (fun q => by have := (pk_lLE bu hd).mp q; omega), Option.bind_some, if_neg (by decide)]
    exact ⟨_, rfl, wg_big c⟩
  · have tb := wg_b h0 c
    have db : t * u / l ≤ 1000000000000000000 := Nat.le_trans (Nat.div_le_self _ _) tb
    rw [if_pos ((pk_lLE bu hd).mpr (by omega)), Option.bind_some, if_pos rfl, if_pos (show (1 : Int64) ≤ lN l from (pk_lLE (a := 1) (by decide) bl).mpr lp), if_neg (fun q => by have := (lN_eq0 bl).mp q; omega), lN_mul, pk_lDiv (by omega) lp bl]
    cases r with
    | false =>
      rw [if_pos (show bI false = 0 from rfl)]
      exact ⟨_, rfl, wg_pl c⟩
    | true =>
      obtain ⟨z, y1, y2⟩ := Y_root (x := t * u / l) (by omega)
      rw [if_neg (show ¬ bI true = 0 by decide), y1]
      exact ⟨lN z, rfl, wg_rt c y2⟩
theorem M_wage92 {m base n : Nat} {p b W M : Nat → Nat} {s : St} (X : MX h m base n p b W M s) {t u l : Nat} {r : Bool} (e : hnd s.1 (u, l, r)) (k : qok (.ok (u, l, r))) (h0 : 0 < t) (ht : t < 2 ^ 63) : ∃ v, f_M_wage_92 m (lN t) h = some (v, h) ∧ wgI t u l r v := by
  obtain ⟨bu, bl, lp, mu, ml, hcop⟩ := qok_b k
  have hd : 1000000000000000000 / t < 2 ^ 63 := Nat.lt_of_le_of_lt (Nat.div_le_self _ _) (by decide)
  unfold f_M_wage_92
  rw [X.h14 e, X.h15 e, X.h16 e]
  simp only [Option.bind_some]
  rw [if_neg (fun q => by have := (lN_eq0 ht).mp q; omega), l18, pk_lDiv (by decide) h0 ht]
  by_cases c : 1000000000000000000 / t < u
  · rw [if_neg (fun q => by have := (pk_lLE bu hd).mp q; omega)]
    exact ⟨_, rfl, wg_big c⟩
  · have tb := wg_b h0 c
    have db : t * u / l ≤ 1000000000000000000 := Nat.le_trans (Nat.div_le_self _ _) tb
    have zl : ¬ lN l = 0 := fun q => by have := (lN_eq0 bl).mp q; omega
    rw [if_pos ((pk_lLE bu hd).mpr (by omega)), if_neg zl, if_neg zl, lN_mul, pk_lDiv (by omega) lp bl]
    cases r with
    | false =>
      rw [if_pos (show bI false = 0 from rfl)]
      exact ⟨_, rfl, wg_pl c⟩
    | true =>
      obtain ⟨z, y1, y2⟩ := M_root (x := t * u / l) db
      rw [if_neg (show ¬ bI true = 0 by decide), y1]
      exact ⟨lN z, rfl, wg_rt c y2⟩
theorem wg_uq {t u l : Nat} {r : Bool} {v w : Int64} (a : wgI t u l r v) (b : wgI t u l r w) : v = w := by
  unfold wgI at a b
  by_cases c : 1000000000000000000 / t < u
  · rw [if_pos c] at a b
    rw [a, b]
  · rw [if_neg c] at a b
    cases r with
    | false => rw [if_neg (by decide)] at a b; rw [a, b]
    | true =>
      rw [if_pos rfl] at a b
      obtain ⟨x, rfl, a⟩ := a
      obtain ⟨y, rfl, b⟩ := b
      rw [isR_uq a b]
end
theorem sim_wage {S : Nat} : Sim_wage (zInv S) S := by
  intro h x1 x2 x3 x4 x5 I
  have I0 := I
  obtain ⟨mk, T, p, q, pr, br, tx, len, lf, F, hm, B, Z0, C, Mi⟩ := I
  obtain ⟨a0, a1, a2, a3, a4, a5, a6, a7, a8, a9, a10⟩ := C.a
  unfold f_Y_wage
  rw [if_pos C.o]
  rcases (num_cs x1 mk hm).symm with ho | ⟨n, hn, rfl⟩
  · rw [Y_num_out C hm ho, Option.bind_some, if_neg (by decide)]
    refine ⟨_, h, h, rfl, ?_, I0⟩
    unfold f_M_wage
    rw [if_pos Mi.o, M_num_out Mi hm ho]
    rfl
  obtain ⟨yn, yp⟩ := Y_num_in C hm hn
  rw [yn, Option.bind_some, if_pos rfl, yp]
  rcases (Z_who x2).symm with ⟨Y2, M2⟩ | ⟨w, hw, rfl, Y2, M2⟩
  · rw [Y2, Option.bind_some, if_neg (by decide)]
    refine ⟨_, h, h, rfl, ?_, I0⟩
    unfold f_M_wage
    rw [if_pos Mi.o, M_num_in Mi hm hn, M2]
    rfl
  rw [Y2, Option.bind_some, if_pos rfl]
  rcases (Z_year x4).symm with ⟨Y3, M3⟩ | ⟨a, ha, rfl, Y3, M3⟩
  · rw [Y3, Option.bind_some, if_neg (by decide)]
    refine ⟨_, h, h, rfl, ?_, I0⟩
    unfold f_M_wage
    rw [if_pos Mi.o, M_num_in Mi hm hn, M2, M3]
    rfl
  rw [Y3, Option.bind_some, if_pos rfl]
  rcases (Z_year x5).symm with ⟨Y4, M4⟩ | ⟨b, hb, rfl, Y4, M4⟩
  · rw [Y4, Option.bind_some, if_neg (by decide)]
    refine ⟨_, h, h, rfl, ?_, I0⟩
    unfold f_M_wage
    rw [if_pos Mi.o, M_num_in Mi hm hn, M2, M3, M4]
    rfl
  rw [Y4, Option.bind_some, if_pos rfl]
  rcases (M_in1n x3 99999 (by decide)).symm with ⟨M5, h5⟩ | ⟨j, h1j, hj, rfl, M5⟩
  · have mo : f_M_wage (S + 59) (nI n) (nI w) x3 (nI a) (nI b) h = some (-1002, h) := by
      unfold f_M_wage
      rw [if_pos Mi.o, M_num_in Mi hm hn, M2, M3, M4, show (99999 : Int64) = lN 99999 from rfl, M5]
      rfl
    rcases h5 with h1 | ⟨h1, h2⟩
    · rw [if_pos h1]
      exact ⟨_, h, h, rfl, mo, I0⟩
    · rw [if_neg h1, if_neg (show ¬ x3 ≤ (99999 : Int32) from nlt_le h2)]
      exact ⟨_, h, h, rfl, mo, I0⟩
  obtain ⟨h1, E1, R1, C1, L1⟩ := Y_tell C B hm hn hw ha hb (Or.inl rfl)
  have Mi1 : MI h1 (S + 59) mk T pr br tx len lf F := Mi.cong fun c _ _ => L1 c (by omega) (by omega)
  obtain ⟨-, -, -, -, -, -, -, b7, -⟩ := C1.a
  obtain ⟨gd1, gl1⟩ := C.good hn
  obtain ⟨s, u, l, r, eF, K, A, X⟩ := Mi1.mx
  subst eF
  obtain ⟨h2, s2, E2, X2, Q2, V2⟩ := M_find (X n hn) gd1 gl1 (a := a) (z := b) hw ha hb
  have K2 : MK h2 (S + 59) s2.1 u l r := K.cong (fun c x y => Q2.2.2 c (by omega) (by omega)) Q2.1
  have A2 : MWas h2 (S + 59) s2.1 := A.cong (fun c x y => Q2.2.2 c (by omega) (by omega)) Q2.1
  have fin : zInv S h2 := zfin (n := n) hm B Z0 C1 Mi1 ⟨s2, u, l, r, rfl, X2, K2, A2⟩ Q2.1.e3 (fun c hc => Q2.2.2 c (by omega) (by omega))
  have k := evw_ok (nW T n) (nM T n) pr (bam br w) a b
  rw [if_neg (show ¬ nI j < (1 : Int32) from nI_nlt (b := 1) h1j (by omega)), if_pos (show nI j ≤ (99999 : Int32) from nI_le (b := 99999) hj (by decide)), a4, a0, a7]
  simp only [Option.bind_some]
  rw [E1]
  simp only [Option.bind_some]
  rw [b7]
  simp only [Option.bind_some]
  have Mst : f_M_wage (S + 59) (nI n) (nI w) (nI j) (nI a) (nI b) h1 = zb2 (f_M_find (S + 59) (nI (40 * n)) (nI w) (nI a) (nI b) h1) fun i31 h32 =>
  if 0 ≤ i31 then
    (gI h32 (S + 59) 8 16).bind fun i33 =>
    if i33 = 0 then
      f_M_wage_92 (S + 59) (nI j).toInt64 h32
    else
    f_M_wage_92 (S + 59) ((nI j).toInt64 * (nI j).toInt64) h32
  else
  some ((i31).toInt64, h32) := by
    unfold f_M_wage
    rw [if_pos Mi1.o, M_num_in Mi1 hm hn, M2, M3, M4, show (99999 : Int64) = lN 99999 from rfl, M5, show (40 : Int32) * nI n = nI (40 * n) from pk_mul 40 n]
    rfl
  cases hv : evw (nW T n) (nM T n) pr (bam br w) a b with
  | error e =>
    rw [hv] at R1 k E2
    obtain ⟨-, -, -, z2, -⟩ := fo_g (fr_err R1)
    rw [z2]
    simp only [Option.bind_some]
    rw [if_neg (err_ne k)]
    refine ⟨_, h1, h2, rfl, ?_, fin⟩
    rw [Mst, E2, zb2_s, if_neg (show ¬ (0 : Int32) ≤ mcode (.error e) from qneg k)]
    rfl
  | ok x =>
    obtain ⟨ux, lx, tx'⟩ := x
    rw [hv] at R1 k E2
    obtain ⟨z0, z1, zt, z2, -⟩ := fo_g (fr_ok R1)
    have v := V2 _ hv
    have tb : j * j ≤ 99999 * 99999 := Nat.mul_le_mul hj hj
    rw [z2, zt]
    simp only [Option.bind_some]
    rw [if_pos trivial, nI_l (by omega), lN_mul]
    have Mst2 : f_M_wage (S + 59) (nI n) (nI w) (nI j) (nI a) (nI b) h1 = if bI tx' = 0 then f_M_wage_92 (S + 59) (lN j) h2 else f_M_wage_92 (S + 59) (lN (j * j)) h2 := by
      rw [Mst, E2, zb2_s, if_pos (show (0 : Int32) ≤ mcode (.ok (ux, lx, tx')) from (by decide : (0 : Int32) ≤ 0)), X2.h16 v, Option.bind_some, nI_l (by omega), lN_mul]
    cases tx' with
    | false =>
      obtain ⟨v1, e1, w1⟩ := Y_wage114 C1 (t := j) R1 k (by omega) (by omega)
      obtain ⟨v2, e2, w2⟩ := M_wage92 X2 v k (t := j) (by omega) (by omega)
      refine ⟨v1, h1, h2, ?_, ?_, fin⟩
      · rw [if_pos (show bI false = 0 from rfl)]
        exact e1
      · rw [Mst2, if_pos (show bI false = 0 from rfl), e2, wg_uq w1 w2]
    | true =>
      have j2 : 0 < j * j := Nat.mul_pos (by omega) (by omega)
      obtain ⟨v1, e1, w1⟩ := Y_wage114 C1 (t := j * j) R1 k j2 (by omega)
      obtain ⟨v2, e2, w2⟩ := M_wage92 X2 v k (t := j * j) j2 (by omega)
      refine ⟨v1, h1, h2, ?_, ?_, fin⟩
      · rw [if_neg (show ¬ bI true = 0 by decide)]
        exact e1
      · rw [Mst2, if_neg (show ¬ bI true = 0 by decide), e2, wg_uq w1 w2]
