/-! ===== sims: cost, goods, fault, chosen, part ===== -/
theorem RB.cost {p q pr br : Nat → Nat} (B : RB p q pr br) {w y z set : Nat} (hw : w < 4) (hy : y < 8) (hz : z < 8) : cst (fun g => p (y * 5 + g)) (msk set fun g => q ((w * 8 + z) * 5 + g)) = cst (fun g => pr (y * 5 + g)) (msk set (bam br w z)) := cst_cong fun g hg => ⟨B.1 _ (by omega), by
  have e : q ((w * 8 + z) * 5 + g) = bam br w z g := B.2.1 w z g hw hz hg
  unfold msk
  dsimp only
  rw [e]⟩
theorem RB.price {p q pr br : Nat → Nat} (B : RB p q pr br) {y g : Nat} (hy : y < 8) (hg : g < 5) : p (y * 5 + g) = pr (y * 5 + g) := B.1 _ (by omega)
theorem RB.pmk {p q pr br : Nat → Nat} (B : RB p q pr br) {y : Nat} (hy : y < 8) : pmk (fun g => p (y * 5 + g)) = pmk fun g => pr (y * 5 + g) := pmk_cong fun g hg => B.price hy hg
theorem cI_cs {x : Option Nat} (hx : ∀ u, x = some u → u ≤ 53460) : x = none ∨ ∃ u, x = some u ∧ u ≤ 53460 := by
  cases x with
  | none => exact Or.inl rfl
  | some u => exact Or.inr ⟨u, rfl, hx u rfl⟩
section
variable {S : Nat}
theorem sim_cost : Sim_cost (zInv S) S := by
  intro h x1 x2 x3 I
  obtain ⟨mk, T, p, q, pr, br, tx, len, lf, F, hm, B, Z0, C, Mi⟩ := I
  obtain ⟨a0, -⟩ := C.a
  have mb := Mi.2.1
  unfold f_Y_cost f_M_cost
  rw [if_pos C.o, if_pos Mi.o]
  rcases (Z_who x1).symm with ⟨Y1, M1⟩ | ⟨w, hw, rfl, Y1, M1⟩
  · simp only [Y1, M1, Option.bind_some, one_ne, eq_self, if_true, if_false]
    exact ⟨_, rfl, rfl⟩
  simp only [Y1, M1, Option.bind_some, one_ne, eq_self, if_true, if_false]
  rcases (Z_year x2).symm with ⟨Y2, M2⟩ | ⟨y, hy, rfl, Y2, M2⟩
  · simp only [Y2, M2, Option.bind_some, one_ne, eq_self, if_true, if_false]
    exact ⟨_, rfl, rfl⟩
  simp only [Y2, M2, Option.bind_some, one_ne, eq_self, if_true, if_false]
  rcases (Z_year x3).symm with ⟨Y3, M3⟩ | ⟨z, hz, rfl, Y3, M3⟩
  · simp only [Y3, M3, Option.bind_some, one_ne, eq_self, if_true, if_false]
    exact ⟨_, rfl, rfl⟩
  simp only [Y3, M3, Option.bind_some, one_ne, eq_self, if_true, if_false, a0]
  rw [show (31 : Int32) = nI 31 from rfl, B_costOver C.bk hw hy hz (by decide), M_costOf mb hw (by omega) (by omega) (by decide), B.cost hw hy hz]
  simp only [Option.bind_some]
  rcases cI_cs (mb.cost_le (set := 31) hw (show y < 10 by omega) (show z < 10 by omega)) with e | ⟨u, e, hu⟩
  · rw [e]
    exact ⟨_, rfl, rfl⟩
  · rw [e]
    show ∃ r, (if nI u = -1 then _ else _) = some r ∧ (if 0 ≤ nI u then _ else _) = some r
    rw [if_neg (nI_m1 (by omega)), if_pos (nI_pos' (by omega))]
    exact ⟨_, rfl, rfl⟩
theorem sim_fault : Sim_fault (zInv S) S := by
  intro h I
  obtain ⟨mk, T, p, q, pr, br, tx, len, lf, F, hm, B, Z0, C, Mi⟩ := I
  obtain ⟨-, -, -, -, -, -, -, -, -, -, a10⟩ := C.a
  unfold f_Y_fault f_M_fault
  rw [if_pos C.o, if_pos Mi.o, a10, oc_i Mi.1.1 (by decide) Mi.2.2.2.2.2.2.2.2.1]
  exact ⟨_, rfl, rfl⟩
theorem sim_goods : Sim_goods (zInv S) S := by
  intro h x1 x2 x3 I
  obtain ⟨mk, T, p, q, pr, br, tx, len, lf, F, hm, B, Z0, C, Mi⟩ := I
  obtain ⟨a0, -⟩ := C.a
  have mb := Mi.2.1
  unfold f_Y_goods f_M_goods
  rw [if_pos C.o, if_pos Mi.o]
  rcases (Z_year x1).symm with ⟨Y1, M1⟩ | ⟨y, hy, rfl, Y1, M1⟩
  · simp only [Y1, M1, Option.bind_some, one_ne, eq_self, if_true, if_false]
    exact ⟨_, rfl, rfl⟩
  simp only [Y1, M1, Option.bind_some, one_ne, eq_self, if_true, if_false]
  rcases (Z_year x2).symm with ⟨Y2, M2⟩ | ⟨z, hz, rfl, Y2, M2⟩
  · simp only [Y2, M2, Option.bind_some, one_ne, eq_self, if_true, if_false]
    exact ⟨_, rfl, rfl⟩
  simp only [Y2, M2, Option.bind_some, one_ne, eq_self, if_true, if_false, a0, show (2 : Int64) = lN 2 from rfl, show (2 : Int32) = nI 2 from rfl]
  rcases Z_in x3 2 (by decide) with ⟨j, hj, rfl, M3⟩ | ⟨M3, h1 | ⟨h1, h2⟩⟩
  · simp only [M3, Option.bind_some, one_ne, if_false]
    rw [if_neg (nI_pos (by omega)), if_pos (nI_le hj (by decide)), B_goodsThere C.bk, B_goodsPricedIn C.bk hy, B_goodsPricedIn C.bk hz, M_priced mb (show y < 10 by omega), M_priced mb (show z < 10 by omega), M_allGoods mb, B.amk_eq, B.pmk hy, B.pmk hz]
    simp only [Option.bind_some]
    rcases (by omega : j = 0 ∨ j = 1 ∨ j = 2) with rfl | rfl | rfl
    · exact ⟨_, rfl, rfl⟩
    · exact ⟨_, rfl, rfl⟩
    · exact ⟨_, rfl, rfl⟩
  · simp only [M3, Option.bind_some, eq_self, if_true]
    rw [if_pos h1]
    exact ⟨_, rfl, rfl⟩
  · simp only [M3, Option.bind_some, eq_self, if_true]
    rw [if_neg h1, if_neg h2]
    exact ⟨_, rfl, rfl⟩
/-- what is chosen ahead -/
def chz (c1 c2 : Option Nat) : Nat := match c1, c2 with
  | some u, some v => if u < v then 0 else if v < u then 2 else 1
  | _, _ => 0
/-- COST (y, z) of w -/
def cs0 (p : Nat → Nat) (am : Nat → Nat → Nat) (y z : Nat) : Option Nat := cst (fun g => p (y * 5 + g)) (msk 31 (am z))
theorem chz_ri {u v : Nat} (hu : u ≤ 53460) (hv : v ≤ 53460) : (if nI v ≤ nI u then if nI u ≤ nI v then some (1 : Int32) else some 2 else some 0) = some (nI (chz (some u) (some v))) := by
  unfold chz
  dsimp only
  by_cases c : v ≤ u
  · rw [if_pos (nI_le c (by omega)), if_neg (show ¬ u < v by omega)]
    by_cases d : u ≤ v
    · rw [if_pos (nI_le d (by omega)), if_neg (by omega)]; rfl
    · rw [if_neg (nI_ge (by omega) (by omega)), if_pos (by omega)]; rfl
  · rw [if_neg (nI_ge (by omega) (by omega)), if_pos (by omega)]; rfl
theorem K_choice {h : Hp} {p q : Nat → Nat} (K : KI h S) (Bk : BK h (S + 1) p q) {w y z : Nat} (hw : w < 4) (hy : y < 8) (hz : z < 8) : f_K_choice (S + 53) h (nI w) (nI y) (nI z) = some (nI (chz (cs0 p (amq q w) y y) (cs0 p (amq q w) y z))) := by
  have o : isO h (S + 53) 3 = true := by simp [isO, K.1]
  have g0 : gA h (S + 53) 3 0 = some (some (S + 1)) := by simp [gA, gV, K.1]
  unfold f_K_choice
  rw [if_pos o, g0, Option.bind_some]
  simp only [zm]
  rw [Option.bind_some, Option.bind_some, show (31 : Int32) = nI 31 from rfl, B_costOver Bk hw hy hy (by decide), Option.bind_some]
  unfold f_K_choice_23
  rw [g0, Option.bind_some]
  simp only [zm]
  rw [Option.bind_some, Option.bind_some, show (31 : Int32) = nI 31 from rfl, B_costOver Bk hw hy hz (by decide), Option.bind_some]
  have l1 : ∀ u, cs0 p (amq q w) y y = some u → u ≤ 53460 := Bk.cost_le hw hy hy
  have l2 : ∀ u, cs0 p (amq q w) y z = some u → u ≤ 53460 := Bk.cost_le hw hy hz
  show f_K_choice_48 (S + 53) h (cI (cs0 p (amq q w) y z)) (cI (cs0 p (amq q w) y y)) = _
  unfold f_K_choice_48
  rcases cI_cs l1 with e | ⟨u, e, hu⟩
  · rw [e, if_pos (show cI none = (-1 : Int32) from rfl)]
    rfl
  · rw [e, if_neg (show ¬ cI (some u) = (-1 : Int32) from nI_m1 (by omega))]
    rcases cI_cs l2 with e2 | ⟨v, e2, hv⟩
    · rw [e2, if_pos (show cI none = (-1 : Int32) from rfl)]
      rfl
    · rw [e2, if_neg (show ¬ cI (some v) = (-1 : Int32) from nI_m1 (by omega))]
      exact chz_ri hu hv
theorem M_ahead {h : Hp} {m : Nat} {p b : Nat → Nat} (H : MB h m p b) {w y z : Nat} (hw : w < 4) (hy : y < 8) (hz : z < 8) : f_M_chosenAhead m h (nI w) (nI y) (nI z) = some (nI (chz (cs0 p (bam b w) y y) (cs0 p (bam b w) y z))) := by
  unfold f_M_chosenAhead
  rw [if_pos H.o, show (31 : Int32) = nI 31 from rfl, M_costOf H hw (by omega) (by omega) (by decide), M_costOf H hw (by omega) (by omega) (by decide)]
  simp only [Option.bind_some]
  have l1 : ∀ u, cs0 p (bam b w) y y = some u → u ≤ 53460 := H.cost_le hw (by omega) (by omega)
  have l2 : ∀ u, cs0 p (bam b w) y z = some u → u ≤ 53460 := H.cost_le hw (by omega) (by omega)
  show (if cI (cs0 p (bam b w) y y) < 0 then _ else if cI (cs0 p (bam b w) y z) < 0 then _ else _) = _
  rcases cI_cs l1 with e | ⟨u, e, hu⟩
  · rw [e, if_pos (show cI none < (0 : Int32) by decide)]
    rfl
  · rw [e, if_neg (show ¬ cI (some u) < (0 : Int32) from nI_pos (by omega))]
    rcases cI_cs l2 with e2 | ⟨v, e2, hv⟩
    · rw [e2, if_pos (show cI none < (0 : Int32) by decide)]
      rfl
    · rw [e2, if_neg (show ¬ cI (some v) < (0 : Int32) from nI_pos (by omega))]
      have hh := chz_ri hu hv
      have e1 : cst (fun g => p (y * 5 + g)) (msk 31 (bam b w y)) = some u := e
      have e3 : cst (fun g => p (y * 5 + g)) (msk 31 (bam b w z)) = some v := e2
      rw [e1, e3]
      exact hh
theorem RB.cs0 {p q pr br : Nat → Nat} (B : RB p q pr br) {w y z : Nat} (hw : w < 4) (hy : y < 8) (hz : z < 8) : cs0 p (amq q w) y z = cs0 pr (bam br w) y z := B.cost hw hy hz
theorem sim_chosen : Sim_chosen (zInv S) S := by
  intro h x1 x2 x3 I
  obtain ⟨mk, T, p, q, pr, br, tx, len, lf, F, hm, B, Z0, C, Mi⟩ := I
  obtain ⟨a0, a1, a2, a3, a4, a5, a6, -⟩ := C.a
  unfold f_Y_chosen f_M_chosen
  rw [if_pos C.o, if_pos Mi.o]
  rcases (Z_who x1).symm with ⟨Y1, M1⟩ | ⟨w, hw, rfl, Y1, M1⟩
  · simp only [Y1, M1, Option.bind_some, one_ne, eq_self, if_true, if_false]
    exact ⟨_, rfl, rfl⟩
  simp only [Y1, M1, Option.bind_some, one_ne, eq_self, if_true, if_false]
  rcases (Z_year x2).symm with ⟨Y2, M2⟩ | ⟨y, hy, rfl, Y2, M2⟩
  · simp only [Y2, M2, Option.bind_some, one_ne, eq_self, if_true, if_false]
    exact ⟨_, rfl, rfl⟩
  simp only [Y2, M2, Option.bind_some, one_ne, eq_self, if_true, if_false]
  rcases (Z_year x3).symm with ⟨Y3, M3⟩ | ⟨z, hz, rfl, Y3, M3⟩
  · simp only [Y3, M3, Option.bind_some, one_ne, eq_self, if_true, if_false]
    exact ⟨_, rfl, rfl⟩
  simp only [Y3, M3, Option.bind_some, one_ne, eq_self, if_true, if_false, a6]
  rw [K_choice C.2.2.2.2.2.2.1 C.bk hw hy hz, M_ahead Mi.2.1 hw hy hz, B.cs0 hw hy hy, B.cs0 hw hy hz]
  exact ⟨_, rfl, rfl⟩
/-- a difference times an amount: what it is apart from its sign -/
theorem dif_cs {a b c : Nat} (ha : a ≤ 198) (hb : b ≤ 198) (hc : c ≤ 54) : ∃ k, k ≤ 10692 ∧ (((nI a - nI b) * nI c = nI k) ∨ (0 < k ∧ (nI a - nI b) * nI c = - nI k)) := by
  by_cases h : b ≤ a
  · obtain ⟨d, rfl⟩ : ∃ d, a = d + b := ⟨a - b, by omega⟩
    have e : d * c ≤ 198 * 54 := Nat.mul_le_mul (by omega) hc
    refine ⟨d * c, e, Or.inl ?_⟩
    rw [← nI_add, Int32.add_sub_cancel, pk_mul]
  · obtain ⟨d, rfl⟩ : ∃ d, b = d + a := ⟨b - a, by omega⟩
    have e : d * c ≤ 198 * 54 := Nat.mul_le_mul (by omega) hc
    have e1 : nI a - nI (d + a) = - nI d := by
      rw [← nI_add]
      apply Int32.toBitVec_inj.mp
      simp only [Int32.toBitVec_sub, Int32.toBitVec_add, Int32.toBitVec_neg]
      generalize (nI a).toBitVec = x
      generalize (nI d).toBitVec = y
      rw [BitVec.sub_eq_add_neg, BitVec.neg_add, BitVec.add_comm, BitVec.sub_eq_add_neg, BitVec.add_assoc, BitVec.add_left_neg, BitVec.add_zero]
    rw [e1, Int32.neg_mul, pk_mul]
    by_cases z : d * c = 0
    · exact ⟨0, by omega, Or.inl (by rw [z]; rfl)⟩
    · exact ⟨d * c, e, Or.inr ⟨by omega, rfl⟩⟩
end
