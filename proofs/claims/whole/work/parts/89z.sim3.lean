/-! ===== sims: order, keeps, breach ===== -/
theorem sc_some {α : Type} {f : Nat → Option α} {x : α} : ∀ (k i : Nat), sc f k i = some x → ∃ j, i ≤ j ∧ j < i + k ∧ f j = some x := by
  intro k
  induction k with
  | zero => intro i h; cases h
  | succ k ih =>
    intro i h
    unfold sc at h
    cases hf : f i with
    | none =>
      rw [hf] at h
      obtain ⟨j, a, b, c⟩ := ih (i + 1) h
      exact ⟨j, by omega, by omega, c⟩
    | some y =>
      rw [hf] at h
      exact ⟨i, by omega, by omega, by rw [hf]; exact h⟩
theorem brk_b {bad : Nat → Nat → Nat → Bool} {law all : Nat} {t : Nat × Nat × Nat} (h : brk bad law all = some t) : t.1 < 8 ∧ t.2.1 < 8 ∧ t.2.2 < lmost law := by
  obtain ⟨a, -, ha, h1⟩ := sc_some _ _ h
  obtain ⟨z, -, hz, h2⟩ := sc_some _ _ h1
  unfold brkB at h2
  split at h2
  · cases h2
  · obtain ⟨c, -, hc, h3⟩ := sc_some _ _ h2
    unfold brkC at h3
    split at h3
    · cases h3
      exact ⟨show a < 8 by omega, show z < 8 by omega, show c < lmost law by omega⟩
    · cases h3
theorem cd_tab : ∀ a, a < 8 → ∀ z, z < 8 → ∀ t, t < 9 → f_L_partOfBreach (nI (2 + (a * 8 + z) * 9 + t)) 0 = some (nI a) ∧ f_L_partOfBreach (nI (2 + (a * 8 + z) * 9 + t)) 1 = some (nI z) ∧ f_L_partOfBreach (nI (2 + (a * 8 + z) * 9 + t)) 2 = some (nI t - 1) := by decide +kernel
theorem cd_lt {law : Nat} {t : Nat × Nat × Nat} (h : t.1 < 8 ∧ t.2.1 < 8 ∧ t.2.2 < lmost law) : 2 ≤ cdB law t ∧ cdB law t < 1000 := by
  have := lmost_b law
  unfold cdB
  split <;> omega
section
variable {S : Nat}
theorem sim_order : Sim_order (zInv S) S := by
  intro h x1 x2 x3 x4 x5 I
  have I0 := I
  obtain ⟨mk, T, p, q, pr, br, tx, len, lf, F, hm, B, Z0, C, Mi⟩ := I
  obtain ⟨a0, a1, a2, a3, a4, a5, a6, a7, a8, a9, a10⟩ := C.a
  unfold f_Y_order
  rw [if_pos C.o]
  rcases (num_cs x1 mk hm).symm with ho | ⟨n, hn, rfl⟩
  · rw [Y_num_out C hm ho, Option.bind_some, if_neg (by decide)]
    refine ⟨_, h, h, rfl, ?_, I0⟩
    unfold f_M_order
    rw [if_pos Mi.o, M_num_out Mi hm ho]
    rfl
  obtain ⟨yn, yp⟩ := Y_num_in C hm hn
  rw [yn, Option.bind_some, if_pos rfl, yp]
  rcases (num_cs x2 mk hm).symm with ho | ⟨n2, hn2, rfl⟩
  · rw [Y_num_out C hm ho, Option.bind_some, if_neg (by decide)]
    refine ⟨_, h, h, rfl, ?_, I0⟩
    unfold f_M_order
    rw [if_pos Mi.o, M_num_in Mi hm hn, M_num_out Mi hm ho]
    rfl
  rw [(Y_num_in C hm hn2).1, Option.bind_some, if_pos rfl]
  rcases (Z_who x3).symm with ⟨Y2, M2⟩ | ⟨w, hw, rfl, Y2, M2⟩
  · rw [Y2, Option.bind_some, if_neg (by decide)]
    refine ⟨_, h, h, rfl, ?_, I0⟩
    unfold f_M_order
    rw [if_pos Mi.o, M_num_in Mi hm hn, M_num_in Mi hm hn2, M2]
    rfl
  rw [Y2, Option.bind_some, if_pos rfl]
  rcases (Z_year x4).symm with ⟨Y3, M3⟩ | ⟨a, ha, rfl, Y3, M3⟩
  · rw [Y3, Option.bind_some, if_neg (by decide)]
    refine ⟨_, h, h, rfl, ?_, I0⟩
    unfold f_M_order
    rw [if_pos Mi.o, M_num_in Mi hm hn, M_num_in Mi hm hn2, M2, M3]
    rfl
  rw [Y3, Option.bind_some, if_pos rfl]
  rcases (Z_year x5).symm with ⟨Y4, M4⟩ | ⟨b, hb, rfl, Y4, M4⟩
  · rw [Y4, Option.bind_some, if_neg (by decide)]
    refine ⟨_, h, h, rfl, ?_, I0⟩
    unfold f_M_order
    rw [if_pos Mi.o, M_num_in Mi hm hn, M_num_in Mi hm hn2, M2, M3, M4]
    rfl
  rw [Y4, Option.bind_some, if_pos rfl]
  obtain ⟨gd1, gl1⟩ := C.good hn
  obtain ⟨gd2, gl2⟩ := C.good hn2
  have k1 := evw_ok (nW T n) (nM T n) pr (bam br w) a b
  have k2 := evw_ok (nW T n2) (nM T n2) pr (bam br w) a b
  -- the class
  obtain ⟨h1, E1, R1, C1, L1⟩ := Y_tell C B hm hn hw ha hb (Or.inl rfl)
  obtain ⟨b0, -, -, -, b4, -, -, b7, b8, -⟩ := C1.a
  rw [a4, a0, a7]
  simp only [Option.bind_some]
  rw [E1]
  simp only [Option.bind_some]
  rw [b7]
  simp only [Option.bind_some]
  -- the reference
  have Mst : ∀ {g : Hp} {G : Nat → Value}, MI g (S + 59) mk T pr br tx len lf G → f_M_order (S + 59) (nI n) (nI n2) (nI w) (nI a) (nI b) g = zb2 (f_M_findKept (S + 59) (nI n) (nI w) (nI a) (nI b) (0 : Int32) g) fun i19 h20 =>
    if 0 ≤ i19 then
      zb2 (f_M_findKept (S + 59) (nI n2) (nI w) (nI a) (nI b) (1 : Int32) h20) fun i22 h23 =>
      f_M_order_77 (S + 59) i22 h23
    else
    f_M_order_77 (S + 59) i19 h20 := by
    intro g G Mg
    unfold f_M_order
    rw [if_pos Mg.o, M_num_in Mg hm hn, M_num_in Mg hm hn2, M2, M3, M4]
    rfl
  have err : ∀ {g : Hp} {e : Int32}, qok (.error e) → f_M_order_77 (S + 59) e g = some (e, g) := by
    intro g e k
    unfold f_M_order_77 f_M_order_95
    rw [if_neg (qneg k), if_neg (qneg k)]
  have first : ∀ {g : Hp}, CI g S mk T p q pr br tx len lf → (∀ c, S + 59 ≤ c → g c = h c) → ∃ g1 s1 u l r, f_M_findKept (S + 59) (nI n) (nI w) (nI a) (nI b) (0 : Int32) g = some (mcode (evw (nW T n) (nM T n) pr (bam br w) a b), g1) ∧ MX g1 (S + 59) (40 * n) (nl T n) pr br (nW T n) (nM T n) s1 ∧ MK g1 (S + 59) s1.1 u l r ∧ MWas g1 (S + 59) s1.1 ∧ (∀ x, evw (nW T n) (nM T n) pr (bam br w) a b = .ok x → kpt u l r 0 x) ∧ MEq F s1.1 ∧ MFs g g1 (S + 59) ∧ MI g (S + 59) mk T pr br tx len lf F := by
    intro g Cg eg
    have Mg : MI g (S + 59) mk T pr br tx len lf F := Mi.cong fun c x _ => eg c x
    obtain ⟨s, u, l, r, eF, K, A, X⟩ := Mg.mx
    obtain ⟨g1, s1, u1, l1, r1, G1, X1, K1, V1, J1, e1, f1⟩ := M_findKept (k := 0) (X n hn) (by rw [eF]; exact K) gd1 gl1 hw ha hb (by decide)
    rw [eF] at e1
    exact ⟨g1, s1, u1, l1, r1, G1, X1, K1, A.cong (fun c x y => f1 c (by omega)) e1, V1, e1, fun c hc => f1 c (by omega), Mg⟩
  cases hv : evw (nW T n) (nM T n) pr (bam br w) a b with
  | error e =>
    rw [hv] at R1 k1 first
    obtain ⟨-, -, -, z2, -⟩ := fo_g (fr_err R1)
    rw [z2]
    simp only [Option.bind_some]
    rw [if_neg (err_ne k1)]
    obtain ⟨g1, s1, u, l, r, G1, X1, K1, A1, -, e1, f1, Mg⟩ := first C1 (fun c hc => L1 c (by omega) (by omega))
    refine ⟨e, h1, g1, rfl, ?_, zfin (n := n) hm B Z0 C1 Mg ⟨s1, u, l, r, rfl, X1, K1, A1⟩ e1.e3 f1⟩
    rw [Mst Mg, G1, zb2_s, if_neg (show ¬ (0 : Int32) ≤ mcode (.error e) from qneg k1)]
    exact err k1
  | ok x =>
    rw [hv] at R1 k1 first
    obtain ⟨-, -, -, z2, -⟩ := fo_g (fr_ok R1)
    rw [z2]
    simp only [Option.bind_some]
    rw [if_pos trivial, b4, (Y_num_in C1 hm hn2).2, b0, b8]
    simp only [Option.bind_some]
    obtain ⟨h2, E2, R2, C2, L2⟩ := Y_tell C1 B hm hn2 hw ha hb (Or.inr rfl)
    obtain ⟨-, -, -, -, -, -, -, c7, c8, -⟩ := C2.a
    rw [E2]
    simp only [Option.bind_some]
    rw [c8, c7]
    simp only [Option.bind_some]
    have R1' : FR h2 (S + 57) (.ok x) := (L2 (S + 57) (by omega) (by omega)).trans R1
    obtain ⟨g1, s1, u, l, r, G1, X1, K1, A1, V1, e1, f1, Mg⟩ := first C2 (fun c hc => by rw [L2 c (by omega) (by omega), L1 c (by omega) (by omega)])
    have N2 : MN g1 (S + 59) (40 * n2) (nl T n2) (nW T n2) (nM T n2) := by
      obtain ⟨y0, KF, MF, y1, y2, y3⟩ := Mg.mn hn2
      exact ⟨y0, KF, MF, by rw [f1 _ (by omega)]; exact y1, by rw [f1 _ (by omega)]; exact y2, y3⟩
    obtain ⟨g2, s2, u2, l2, r2, G2, X2, K2, V2, J2, e2, f2⟩ := M_findKept (k := 1) (X1.num N2) K1 gd2 gl2 hw ha hb (by decide)
    have A2 : MWas g2 (S + 59) s2.1 := A1.cong (fun c x y => f2 c (by omega)) e2
    have f12 : MFs h2 g2 (S + 59) := MFs.trans f1 fun c hc => f2 c (by omega)
    have G1' : f_M_order (S + 59) (nI n) (nI n2) (nI w) (nI a) (nI b) h2 = f_M_order_77 (S + 59) (mcode (evw (nW T n2) (nM T n2) pr (bam br w) a b)) g2 := by
      rw [Mst Mg, G1, zb2_s, if_pos (show (0 : Int32) ≤ mcode (.ok x) from (by decide : (0 : Int32) ≤ 0)), show f_M_findKept (S + 59) (nI n2) (nI w) (nI a) (nI b) (1 : Int32) g1 = _ from G2, zb2_s]
    cases hv2 : evw (nW T n2) (nM T n2) pr (bam br w) a b with
    | error e =>
      rw [hv2] at R2 k2 G1'
      obtain ⟨-, -, -, z3, -⟩ := fo_g (fr_err R2)
      rw [z3]
      simp only [Option.bind_some]
      rw [if_neg (err_ne k2)]
      refine ⟨e, h2, g2, rfl, ?_, zfin (n := n2) hm B Z0 C2 Mg ⟨s2, u2, l2, r2, rfl, X2, K2, A2⟩ (e1.trans e2).e3 f12⟩
      rw [G1']
      exact err k2
    | ok y =>
      rw [hv2] at R2 k2 G1'
      obtain ⟨-, -, -, z3, -⟩ := fo_g (fr_ok R2)
      rw [z3]
      simp only [Option.bind_some]
      rw [if_pos trivial, F_orderOf R1' R2 k1 k2]
      simp only [Option.bind_some]
      have x0 := V1 x rfl
      have j := J2 0 (by decide)
      have x0' : kpt u2 l2 r2 0 x := ⟨j.1.trans x0.1, j.2.1.trans x0.2.1, j.2.2.trans x0.2.2⟩
      obtain ⟨g3, s3, G3, X3, K3, z17, e3, f3⟩ := M_alike X2 K2 x0' (V2 y hv2) k1 k2
      have A3 : MWas g3 (S + 59) s3.1 := A2.cong (fun c x y => f3 c (by omega)) e3
      refine ⟨oI (qord x y), h2, g3, rfl, ?_, zfin (n := n2) hm B Z0 C2 Mg ⟨s3, u2, l2, r2, rfl, X3, K3, A3⟩ ((e1.trans e2).trans e3).e3 (MFs.trans f12 f3.s)⟩
      rw [G1']
      unfold f_M_order_77
      rw [if_pos (show (0 : Int32) ≤ mcode (.ok y) from (by decide : (0 : Int32) ≤ 0)), G3, zb2_s]
      unfold f_M_order_95
      rcases qord_cs x y with c | ⟨i, j, c⟩
      · rw [c, if_neg (by decide)]
        rfl
      · rw [c, if_pos (show (0 : Int32) ≤ ocode (.ok (cmp3 i j)) from (by decide : (0 : Int32) ≤ 0)), oc_i X3.1 (by decide) (z17 _ c)]
        rfl
/-- both look for a breach -/
theorem zbrk {h : Hp} {mk : Nat} {T : Nt} {p q pr br tx : Nat → Nat} {len : Nat} {lf : Int32} {F : Nat → Value} (hm : mk ≤ 8) (B : RB p q pr br) (Z0 : ∀ k, 40 ≤ k → k < 50 → pr k = 0) (C : CI h S mk T p q pr br tx len lf) (Mi : MI h (S + 59) mk T pr br tx len lf F) {n w law : Nat} (hn : n < mk) (hw : w < 4) (hl : law < 7) : ∃ h1 h2 F2, f_L_breachOf (S + 45) (nI n) (S + 8 + 3 * n) (nI w) (nI law) h = some (nI (cdO law (brkQ (nW T n) (nM T n) pr br w law)), h1) ∧ CI h1 S mk T p q pr br tx len lf ∧ MI h1 (S + 59) mk T pr br tx len lf F ∧ f_M_isBroken (S + 59) (nI n) (nI w) (nI law) h1 = some (bI (brkQ (nW T n) (nM T n) pr br w law).isSome, h2) ∧ (∀ a z c, brkQ (nW T n) (nM T n) pr br w law = some (a, z, c) → gI h2 (S + 59) 8 33 = some (nI a) ∧ gI h2 (S + 59) 8 34 = some (nI z) ∧ gI h2 (S + 59) 8 35 = some (if lmost law = 1 then -1 else nI c)) ∧ CI h2 S mk T p q pr br tx len lf ∧ MI h2 (S + 59) mk T pr br tx len lf F2 := by
  obtain ⟨h1, E1, L1, F1⟩ := L_breachOf C.2.2.2.1 B hm hn hw hl
  have C1 := C.la hm L1 F1
  have M1 : MI h1 (S + 59) mk T pr br tx len lf F := Mi.cong fun c _ _ => F1 c (by omega) (by omega) (by omega) (by omega)
  obtain ⟨gd1, gl1⟩ := C.good hn
  obtain ⟨h2, F2, E2, R2, g2, f2, v2⟩ := M_isBroken (M1.ms hn) gd1 gl1 B.2.2.1 B.2.2.2 hw hl
  have M2 := M1.back R2 g2 f2 fun c _ _ => f2 c (by omega)
  exact ⟨h1, h2, F2, E1, C1, M1, E2, fun a z c e => by
    obtain ⟨v33, v34, v35⟩ := v2 a z c e
    exact ⟨oc_i M2.1.1 (by decide) v33, oc_i M2.1.1 (by decide) v34, oc_i M2.1.1 (by decide) v35⟩, C1.cong hm fun c _ _ => f2 c (by omega), M2⟩
theorem cd_1 {law : Nat} {x : Option (Nat × Nat × Nat)} (h : ∀ t, x = some t → t.1 < 8 ∧ t.2.1 < 8 ∧ t.2.2 < lmost law) : nI (cdO law x) = 1 ↔ x = none := by
  cases x with
  | none => exact ⟨fun _ => rfl, fun _ => rfl⟩
  | some t =>
    have := cd_lt (h t rfl)
    refine ⟨fun e => ?_, fun e => (by cases e)⟩
    have := (nI_eq (by unfold cdO; dsimp only; omega) (by decide)).mp (show nI (cdO law (some t)) = nI 1 from e)
    unfold cdO at this
    dsimp only at this
    omega
theorem sim_keeps : Sim_keeps (zInv S) S := by
  intro h x1 x2 x3 I
  have I0 := I
  obtain ⟨mk, T, p, q, pr, br, tx, len, lf, F, hm, B, Z0, C, Mi⟩ := I
  obtain ⟨a0, a1, a2, a3, a4, a5, a6, a7, a8, a9, a10⟩ := C.a
  unfold f_Y_keeps
  rw [if_pos C.o]
  rcases (num_cs x1 mk hm).symm with ho | ⟨n, hn, rfl⟩
  · rw [Y_num_out C hm ho, Option.bind_some, if_neg (by decide)]
    refine ⟨_, h, h, rfl, ?_, I0⟩
    unfold f_M_keeps
    rw [if_pos Mi.o, M_num_out Mi hm ho]
    rfl
  obtain ⟨yn, yp⟩ := Y_num_in C hm hn
  rw [yn, Option.bind_some, if_pos rfl, yp]
  rcases (Z_who x2).symm with ⟨Y2, M2⟩ | ⟨w, hw, rfl, Y2, M2⟩
  · rw [Y2, Option.bind_some, if_neg (by decide)]
    refine ⟨_, h, h, rfl, ?_, I0⟩
    unfold f_M_keeps
    rw [if_pos Mi.o, M_num_in Mi hm hn, M2]
    rfl
  rw [Y2, Option.bind_some, if_pos rfl]
  rcases (Z_law x3).symm with ⟨Y3, M3⟩ | ⟨law, hl, rfl, Y3, M3⟩
  · rw [Y3, Option.bind_some, if_neg (by decide)]
    refine ⟨_, h, h, rfl, ?_, I0⟩
    unfold f_M_keeps
    rw [if_pos Mi.o, M_num_in Mi hm hn, M2, M3]
    rfl
  rw [Y3, Option.bind_some, if_pos rfl, a5]
  simp only [Option.bind_some]
  obtain ⟨h1, h2, F2, E1, C1, M1, E2, -, C2, Mi2⟩ := zbrk hm B Z0 C Mi hn hw hl
  rw [E1, zb2_s]
  have Mst : f_M_keeps (S + 59) (nI n) (nI w) (nI law) h1 = zb2 (f_M_isBroken (S + 59) (nI n) (nI w) (nI law) h1) fun i8 h9 => if i8 = 0 then some ((1 : Int32), h9) else some ((0 : Int32), h9) := by
    unfold f_M_keeps
    rw [if_pos M1.o, M_num_in M1 hm hn, M2, M3]
    rfl
  have c1 := cd_1 (law := law) (x := brkQ (nW T n) (nM T n) pr br w law) (fun t e => brk_b e)
  cases hx : brkQ (nW T n) (nM T n) pr br w law with
  | none =>
    rw [hx] at c1 E2
    rw [if_pos (c1.mpr rfl)]
    refine ⟨1, h1, h2, rfl, ?_, zcls hm B Z0 C2 Mi2⟩
    rw [Mst, E2, zb2_s]
    rfl
  | some t =>
    rw [hx] at c1 E2
    rw [if_neg (fun e => by have := c1.mp e; cases this)]
    refine ⟨0, h1, h2, rfl, ?_, zcls hm B Z0 C2 Mi2⟩
    rw [Mst, E2, zb2_s]
    rfl
theorem sim_breach : Sim_breach (zInv S) S := by
  intro h x1 x2 x3 x4 I
  have I0 := I
  obtain ⟨mk, T, p, q, pr, br, tx, len, lf, F, hm, B, Z0, C, Mi⟩ := I
  obtain ⟨a0, a1, a2, a3, a4, a5, a6, a7, a8, a9, a10⟩ := C.a
  unfold f_Y_breach
  rw [if_pos C.o]
  rcases (num_cs x1 mk hm).symm with ho | ⟨n, hn, rfl⟩
  · rw [Y_num_out C hm ho, Option.bind_some, if_neg (by decide)]
    refine ⟨_, h, h, rfl, ?_, I0⟩
    unfold f_M_breach
    rw [if_pos Mi.o, M_num_out Mi hm ho]
    rfl
  obtain ⟨yn, yp⟩ := Y_num_in C hm hn
  rw [yn, Option.bind_some, if_pos rfl, yp]
  rcases (Z_who x2).symm with ⟨Y2, M2⟩ | ⟨w, hw, rfl, Y2, M2⟩
  · rw [Y2, Option.bind_some, if_neg (by decide)]
    refine ⟨_, h, h, rfl, ?_, I0⟩
    unfold f_M_breach
    rw [if_pos Mi.o, M_num_in Mi hm hn, M2]
    rfl
  rw [Y2, Option.bind_some, if_pos rfl]
  rcases (Z_law x3).symm with ⟨Y3, M3⟩ | ⟨law, hl, rfl, Y3, M3⟩
  · rw [Y3, Option.bind_some, if_neg (by decide)]
    refine ⟨_, h, h, rfl, ?_, I0⟩
    unfold f_M_breach
    rw [if_pos Mi.o, M_num_in Mi hm hn, M2, M3]
    rfl
  rw [Y3, Option.bind_some, if_pos rfl, a5]
  rcases (Z_in x4 2 (by decide)).symm with ⟨M5, h5⟩ | ⟨j, hj, rfl, M5⟩
  · have mo : f_M_breach (S + 59) (nI n) (nI w) (nI law) x4 h = some (-1002, h) := by
      unfold f_M_breach
      rw [if_pos Mi.o, M_num_in Mi hm hn, M2, M3, show (2 : Int64) = lN 2 from rfl, M5]
      rfl
    rcases h5 with h1 | ⟨h1, h2⟩
    · rw [if_pos h1]
      exact ⟨_, h, h, rfl, mo, I0⟩
    · rw [if_neg h1, if_neg (show ¬ x4 ≤ (2 : Int32) from h2)]
      exact ⟨_, h, h, rfl, mo, I0⟩
  rw [if_neg (nI_pos (by omega)), if_pos (show nI j ≤ (2 : Int32) from nI_le (b := 2) hj (by decide))]
  simp only [Option.bind_some]
  obtain ⟨h1, h2, F2, E1, C1, M1, E2, V2, C2, Mi2⟩ := zbrk hm B Z0 C Mi hn hw hl
  rw [E1, zb2_s]
  have Mst : f_M_breach (S + 59) (nI n) (nI w) (nI law) (nI j) h1 = zb2 (f_M_isBroken (S + 59) (nI n) (nI w) (nI law) h1) fun i10 h11 =>
  if i10 = 0 then
    some ((-1 : Int32), h11)
  else
  if nI j = 0 then
    (gI h11 (S + 59) 8 33).bind fun i17 =>
    some (i17, h11)
  else
  if nI j = (1 : Int32) then
    (gI h11 (S + 59) 8 34).bind fun i14 =>
    some (i14, h11)
  else
  (gI h11 (S + 59) 8 35).bind fun i12 =>
  some (i12, h11) := by
    unfold f_M_breach
    rw [if_pos M1.o, M_num_in M1 hm hn, M2, M3, show (2 : Int64) = lN 2 from rfl, M5]
    rfl
  have bb : ∀ t, brkQ (nW T n) (nM T n) pr br w law = some t → t.1 < 8 ∧ t.2.1 < 8 ∧ t.2.2 < lmost law := fun t e => brk_b e
  have c1 := cd_1 (law := law) (x := brkQ (nW T n) (nM T n) pr br w law) bb
  cases hx : brkQ (nW T n) (nM T n) pr br w law with
  | none =>
    rw [hx] at c1 E2
    rw [if_pos (c1.mpr rfl)]
    refine ⟨-1, h1, h2, rfl, ?_, zcls hm B Z0 C2 Mi2⟩
    rw [Mst, E2, zb2_s]
    rfl
  | some t =>
    obtain ⟨b1, b2, b3⟩ := bb t hx
    obtain ⟨a, z, c⟩ := t
    dsimp only at b1 b2 b3
    obtain ⟨v33, v34, v35⟩ := V2 a z c hx
    rw [hx] at c1 E2
    rw [if_neg (fun e => by have := c1.mp e; cases this)]
    have lb := lmost_b law
    obtain ⟨t1, ht1, et1, ev⟩ : ∃ t1, t1 < 9 ∧ cdO law (some (a, z, c)) = 2 + (a * 8 + z) * 9 + t1 ∧ (if lmost law = 1 then -1 else nI c) = nI t1 - 1 := by
      unfold cdO cdB
      dsimp only
      by_cases d : lmost law = 1
      · exact ⟨0, by decide, by rw [if_pos d], by rw [if_pos d]; rfl⟩
      · exact ⟨c + 1, by omega, by rw [if_neg d], by rw [if_neg d, nI_pred]⟩
    obtain ⟨p0, p1, p2⟩ := cd_tab a b1 z b2 t1 ht1
    rw [et1]
    rw [ev] at v35
    rcases (by omega : j = 0 ∨ j = 1 ∨ j = 2) with rfl | rfl | rfl
    · rw [show (nI 0 : Int32) = 0 from rfl, p0]
      refine ⟨nI a, h1, h2, rfl, ?_, zcls hm B Z0 C2 Mi2⟩
      rw [show (nI 0 : Int32) = 0 from rfl] at Mst
      rw [Mst, E2, zb2_s, if_neg (show ¬ bI (some (a, z, c)).isSome = 0 from show ¬ bI true = 0 by decide), if_pos rfl, v33]
      rfl
    · rw [show (nI 1 : Int32) = 1 from rfl, p1]
      refine ⟨nI z, h1, h2, rfl, ?_, zcls hm B Z0 C2 Mi2⟩
      rw [show (nI 1 : Int32) = 1 from rfl] at Mst
      rw [Mst, E2, zb2_s, if_neg (show ¬ bI (some (a, z, c)).isSome = 0 from show ¬ bI true = 0 by decide), if_neg (by decide), if_pos rfl, v34]
      rfl
    · rw [show (nI 2 : Int32) = 2 from rfl, p2]
      refine ⟨nI t1 - 1, h1, h2, rfl, ?_, zcls hm B Z0 C2 Mi2⟩
      rw [show (nI 2 : Int32) = 2 from rfl] at Mst
      rw [Mst, E2, zb2_s, if_neg (show ¬ bI (some (a, z, c)).isSome = 0 from show ¬ bI true = 0 by decide), if_neg (by decide), if_neg (by decide), v35]
      rfl
end
