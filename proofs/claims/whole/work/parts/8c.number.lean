/-! ===== sims: feed, number, whole ===== -/
theorem M_in1 (x : Int32) : (∃ j, 1 ≤ j ∧ j ≤ 8 ∧ x = nI j ∧ f_M_in x.toInt64 1 8 = some 1) ∨ (f_M_in x.toInt64 1 8 = some 0 ∧ (x < 1 ∨ (¬ x < 1 ∧ ¬ x ≤ 8))) := by
  have e1 : x.toInt64 < 1 ↔ x < 1 := by
    rw [Int64.lt_iff_toInt_lt, Int32.lt_iff_toInt_lt, Int32.toInt_toInt64]
    rfl
  unfold f_M_in
  rcases rng x 8 (by decide) with ⟨j, hj, rfl⟩ | h | ⟨h1, h2⟩
  · rcases Nat.eq_zero_or_pos j with rfl | h
    · exact Or.inr ⟨by rw [if_pos (by decide)], Or.inl (by decide)⟩
    · refine Or.inl ⟨j, h, hj, rfl, ?_⟩
      have n1 : ¬ nI j < 1 := nI_nlt (b := 1) h (by omega)
      rw [if_neg (fun c => n1 (e1.mp c)), if_neg (show ¬ (8 : Int64) < (nI j).toInt64 from fun c => nI_nlt hj (by decide) ((l64_gt _ (n := 8) (by decide)).mp c))]
  · have : x < 1 := by
      rw [Int32.lt_iff_toInt_lt] at h ⊢
      have a : (0 : Int32).toInt = 0 := rfl
      have b : (1 : Int32).toInt = 1 := rfl
      omega
    exact Or.inr ⟨by rw [if_pos (e1.mpr this)], Or.inl this⟩
  · refine Or.inr ⟨?_, ?_⟩
    · split
      · rfl
      · rw [if_pos (show (8 : Int64) < x.toInt64 from (l64_gt x (n := 8) (by decide)).mpr h2)]
    · by_cases c : x < 1
      · exact Or.inl c
      · exact Or.inr ⟨c, nlt_le h2⟩
section
variable {S : Nat}
theorem sim_feed : Sim_feed (zInv S) S := by
  intro h x1 x2 I
  have I0 := I
  obtain ⟨mk, T, p, q, pr, br, tx, len, lf, F, hm, B, Z0, C, Mi⟩ := I
  obtain ⟨a0, a1, a2, a3, a4, a5, a6, a7, a8, a9, a10⟩ := C.a
  obtain ⟨t, mr⟩ := Mi.2.2.2.2.2.2.1
  have hl : len ≤ 60 := mr.2.2.2.1
  obtain ⟨y2, y3, y4, y5, r0⟩ := C.2.2.2.2.1.1
  unfold f_Y_feed
  rw [if_pos C.o]
  rcases M_in1 x1 with ⟨j, h1, hj, rfl, M1⟩ | ⟨M1, c⟩
  · have gr : gI h (S + 32) 5 1 = some (nI len) := by simp [gI, gV, r0]
    have g6 : gI h (S + 59) 8 6 = some (nI len) := oc_i Mi.1.1 (by decide) mr.2.1.2.2.2.2.2
    have Mst : ∀ {g : Hp} {G : Nat → Value}, MI g (S + 59) mk T pr br tx len lf G → f_M_feed (S + 59) (nI j) x2 g = if nI (len + j) ≤ (60 : Int32) then f_M_feed_36 (S + 59) FU x2 (nI j - 1) g else some (-1004, g) := by
      intro g G Mg
      obtain ⟨t, mr⟩ := Mg.2.2.2.2.2.2.1
      unfold f_M_feed
      rw [if_pos Mg.o, M1, oc_i Mg.1.1 (by decide) mr.2.1.2.2.2.2.2]
      simp only [Option.bind_some]
      rw [if_neg (by decide), nI_add]
    rw [if_neg (show ¬ nI j < (1 : Int32) from nI_nlt (b := 1) h1 (by omega)), if_pos (show nI j ≤ (8 : Int32) from nI_le (b := 8) hj (by decide)), a3]
    simp only [Option.bind_some]
    rw [gr]
    simp only [Option.bind_some]
    rw [nI_add]
    by_cases c : len + j ≤ 60
    · have cc : nI (len + j) ≤ (60 : Int32) := nI_le (b := 60) c (by decide)
      rw [if_pos cc]
      obtain ⟨h', tx', E1, C1, fr, mm⟩ := Y_feed_loop hm x2 j (FU - j - 1) h tx len hj c C
      have fu : FU - j - 1 + j + 1 = FU := by unfold FU; omega
      rw [fu] at E1 mm
      have Mi1 : MI h' (S + 59) mk T pr br tx len lf F := Mi.cong fun c x _ => fr c x
      obtain ⟨g', F', G1, G2, G3⟩ := mm h' F (S + 59) Mi1
      refine ⟨nI (len + j), h', g', E1, ?_, zcls hm B Z0 (C1.cong hm fun c _ _ => G3 c (by omega)) G2⟩
      rw [Mst Mi1, if_pos cc, G1]
    · have cc : ¬ nI (len + j) ≤ (60 : Int32) := nI_ge (a := 60) (by omega) (by omega)
      rw [if_neg cc]
      exact ⟨_, h, h, rfl, by rw [Mst Mi, if_neg cc], I0⟩
  · have mo : f_M_feed (S + 59) x1 x2 h = some (-1002, h) := by
      unfold f_M_feed
      rw [if_pos Mi.o, M1]
      rfl
    rcases c with c | ⟨c1, c2⟩
    · rw [if_pos c]
      exact ⟨_, h, h, rfl, mo, I0⟩
    · rw [if_neg c1, if_neg c2]
      exact ⟨_, h, h, rfl, mo, I0⟩
def nup3 (T : Nt) (n : Nat) (x : Nat × (Nat → Nat) × (Nat → Nat)) : Nt := fun k => if k = n then x else T k
theorem nup3_n {T : Nt} {n k : Nat} {x : Nat × (Nat → Nat) × (Nat → Nat)} (h : k ≠ n) : nup3 T n x k = T k := by simp [nup3, h]
theorem nup3_s {T : Nt} {n : Nat} {x : Nat × (Nat → Nat) × (Nat → Nat)} : nup3 T n x n = x := by simp [nup3]
/-- the model's number, its new state -/
theorem M_numI {g : Hp} {m mk : Nat} {T : Nt} {pr br tx : Nat → Nat} {len : Nat} {lf : Int32} {F : Nat → Value} (H : MI g m mk T pr br tx len lf F) (hk : mk < 8) (hT : ∀ n, n < mk → nl T n ≤ 20) : ∃ g', (∀ c, c < m → g' c = g c) ∧ (∀ r, pt tx len = .ok r → f_M_number m g = some (nI mk, g') ∧ ∃ F', MI g' m (mk + 1) (nup3 T mk r.2) pr br tx 0 (-1) F') ∧ ∀ e, pt tx len = .error e → f_M_number m g = some ((-10 : Int32) - nI e.1, g') ∧ ∃ F', MI g' m mk T pr br tx 0 (nI e.2) F' := by
  obtain ⟨⟨y0, y1, y2, y3⟩, b, c, ⟨s, d1, d2⟩, ⟨u, l, r, kk⟩, w, ⟨t, mr⟩, f2, f7, xx⟩ := H
  obtain ⟨g', F', t', R', Q, P, J, ok, er⟩ := M_number mr hk f2
  have g0 : g' m = some (ocell 8 40 F') := R'.1
  have o : ∀ c, c ≠ m → c ≠ m + 3 → c ≠ m + 4 → c ≠ m + 6 → c ≠ m + 7 → g' c = g c := P
  have q : ∀ k, k ≠ 2 → k ≠ 6 → k ≠ 7 → k ≠ 8 → k ≠ 9 → k ≠ 12 → k ≠ 13 → F' k = F k := Q
  have yR : mRef F' m := ⟨by rw [q 0 (by decide) (by decide) (by decide) (by decide) (by decide) (by decide) (by decide)]; exact y1.1, by rw [q 1 (by decide) (by decide) (by decide) (by decide) (by decide) (by decide) (by decide)]; exact y1.2.1, R'.2.1.1, R'.2.1.2.1, fun k hk => by rw [q (18 + k) (by omega) (by omega) (by omega) (by omega) (by omega) (by omega) (by omega)]; exact y1.2.2.2.2 k hk⟩
  obtain ⟨⟨ka, kb, kc⟩, kd, ke, kf⟩ := kk
  obtain ⟨wa, wb, p0, b0, ⟨W1, wc, wd⟩, ⟨W2, we, wf⟩⟩ := w
  have yT : mTy F' := by
    obtain ⟨U, L, tt, z1, z2, z3⟩ := y2
    exact ⟨U, L, tt, by rw [q 14 (by decide) (by decide) (by decide) (by decide) (by decide) (by decide) (by decide)]; exact z1, by rw [q 15 (by decide) (by decide) (by decide) (by decide) (by decide) (by decide) (by decide)]; exact z2, by rw [q 16 (by decide) (by decide) (by decide) (by decide) (by decide) (by decide) (by decide)]; exact z3⟩
  have rest : ∀ (mk' : Nat) (T' : Nt) (lf' : Int32), F' 2 = .int (nI mk') → F' 7 = .int lf' → (∀ n, n < mk' → MN g' m (40 * n) (nl T' n) (nW T' n) (nM T' n)) → MI g' m mk' T' pr br tx 0 lf' F' := by
    intro mk' T' lf' e2 e7 mn
    refine ⟨⟨g0, yR, yT, by rw [q 17 (by decide) (by decide) (by decide) (by decide) (by decide) (by decide) (by decide)]; exact y3⟩, MB.of g0 yR (b.2.1.cong (o _ (by omega) (by omega) (by omega) (by omega) (by omega))) (b.2.2.1.cong (o _ (by omega) (by omega) (by omega) (by omega) (by omega))) b.2.2.2.1 b.2.2.2.2, mn, ⟨(F', s.2), rfl, d2.cong fun c _ _ => o c (by omega) (by omega) (by omega) (by omega) (by omega)⟩, ⟨u, l, r, ⟨by rw [q 28 (by decide) (by decide) (by decide) (by decide) (by decide) (by decide) (by decide)]; exact ka, by rw [q 29 (by decide) (by decide) (by decide) (by decide) (by decide) (by decide) (by decide)]; exact kb, by rw [q 30 (by decide) (by decide) (by decide) (by decide) (by decide) (by decide) (by decide)]; exact kc⟩, by rw [o _ (by omega) (by omega) (by omega) (by omega) (by omega)]; exact kd, by rw [o _ (by omega) (by omega) (by omega) (by omega) (by omega)]; exact ke, by rw [o _ (by omega) (by omega) (by omega) (by omega) (by omega)]; exact kf⟩, ⟨by rw [q 31 (by decide) (by decide) (by decide) (by decide) (by decide) (by decide) (by decide)]; exact wa, by rw [q 32 (by decide) (by decide) (by decide) (by decide) (by decide) (by decide) (by decide)]; exact wb, p0, b0, ⟨W1, by rw [o _ (by omega) (by omega) (by omega) (by omega) (by omega)]; exact wc, wd⟩, ⟨W2, by rw [o _ (by omega) (by omega) (by omega) (by omega) (by omega)]; exact we, wf⟩⟩, ⟨t', R'⟩, e2, e7, xx.cong (fun c _ _ => o c (by omega) (by omega) (by omega) (by omega) (by omega)) (fun k _ _ => q k (by omega) (by omega) (by omega) (by omega) (by omega) (by omega) (by omega))⟩
  have old : ∀ n, n < mk → MN g' m (40 * n) (nl T n) (nW T n) (nM T n) := by
    intro n hn
    have h20 := hT n hn
    obtain ⟨z0, KF, MF, z1, z2, z3⟩ := c n hn
    obtain ⟨-, -, -, -, -, i3, i4, -, -⟩ := mr
    obtain ⟨-, -, -, -, -, j3, j4, -, -⟩ := R'
    have k1 : KF = t.1 := by
      have := z1.symm.trans i3
      injection this with this
      injection this with this
      injection this with _ this
      injection this with _ this
      injection this
    have k2 : MF = t.2.1 := by
      have := z2.symm.trans i4
      injection this with this
      injection this with this
      injection this with _ this
      injection this with _ this
      injection this
    subst k1 k2
    exact ⟨z0, t'.1, t'.2.1, j3, j4, fun i hi => by
      rw [(J _ (by omega)).1, (J _ (by omega)).2]
      exact z3 i hi⟩
  refine ⟨g', fun c hc => o c (by omega) (by omega) (by omega) (by omega) (by omega), fun r hr => ?_, fun e he => ?_⟩
  · obtain ⟨E, e2, e7, mn⟩ := ok r hr
    refine ⟨E, F', rest (mk + 1) _ (-1) e2 e7 fun n hn => ?_⟩
    by_cases cn : n = mk
    · subst cn
      unfold nl nW nM
      rw [nup3_s]
      exact mn
    · unfold nl nW nM
      rw [nup3_n cn]
      exact old n (by omega)
  · obtain ⟨E, e2, e7⟩ := er e he
    exact ⟨E, F', rest mk T _ e2 e7 old⟩
theorem sim_number : Sim_number (zInv S) S := by
  intro h I
  have I0 := I
  obtain ⟨mk, T, p, q, pr, br, tx, len, lf, F, hm, B, Z0, C, Mi⟩ := I
  obtain ⟨a0, a1, a2, a3, a4, a5, a6, a7, a8, a9, a10⟩ := C.a
  unfold f_Y_number
  rw [if_pos C.o, a9, Option.bind_some]
  rcases Nat.lt_or_ge mk 8 with hk | hk
  · rw [if_neg (show ¬ (8 : Int32) ≤ nI mk from nI_ge (b := 8) hk (by decide)), a2]
    simp only [Option.bind_some]
    obtain ⟨c0, ⟨PF, b1, b2⟩, cp, ⟨pl, w, t, rc, FF, V, F49, oF, oT, P⟩, f, ⟨g1, g2⟩, i, A, j⟩ := C
    have e4 : aA h 4 (S + 7) (nI mk) = some (some (S + 8 + 3 * mk)) := by
      unfold aA
      rw [b1]
      simp only []
      rw [if_pos ⟨trivial, nI_in hk (by decide)⟩, nI_clamp (by omega), b2 mk hk]
    rw [e4, Option.bind_some]
    unfold f_Y_number_22
    simp only [zm]
    rw [a3]
    simp only [Option.bind_some]
    obtain ⟨s, WF, MF, X⟩ := cp mk hk
    obtain ⟨h1, E1, fr1, ok1, er1⟩ := R_read (R := S + 32) (Or.inr (by omega)) f X
    rw [E1]
    simp only [Option.bind_some]
    have o1 : ∀ c, c ≠ S + 32 → c ≠ S + 8 + 3 * mk → c ≠ S + 8 + 3 * mk + 1 → c ≠ S + 8 + 3 * mk + 2 → h1 c = h c := fr1
    have hY1 : h1 S = some (YC S mk lf) := by rw [o1 _ (by omega) (by omega) (by omega) (by omega)]; exact c0
    have hT : ∀ n, n < mk → nl T n ≤ 20 := fun n hn => (P n hn).1.2.1
    -- the class's new state
    have fin : ∀ {h3 : Hp} {mk' : Nat} {T' : Nt} {lf' : Int32}, mk' ≤ 8 → h3 S = some (YC S mk' lf') → RZ h3 (S + 32) tx 0 → (∃ s WF MF, PX h3 (S + 8 + 3 * mk) s WF MF) → (∀ c, c ≠ S → c ≠ S + 32 → c ≠ S + 8 + 3 * mk → c ≠ S + 8 + 3 * mk + 1 → c ≠ S + 8 + 3 * mk + 2 → h3 c = h c) → okF FF mk' T' pr br → okT t rc mk' T' p q → PLs h3 S mk' T' → CI h3 S mk' T' p q pr br tx 0 lf' := by
      intro h3 mk' T' lf' hm' y rz px o3 k1 k2 k3
      have e' : ∀ c, (S + 1 ≤ c ∧ c < S + 8) ∨ (S + 33 ≤ c) → h3 c = h c := fun c hc => o3 c (by omega) (by omega) (by omega) (by omega) (by omega)
      obtain ⟨vb, ⟨pt, qt, tr⟩, z, l, u, v, k, x, y'⟩ := V
      exact ⟨y, ⟨PF, by rw [e' _ (by omega)]; exact b1, b2⟩, fun k hk => by
        by_cases ck : k = mk
        · subst ck; exact px
        · obtain ⟨s, WF, MF, X⟩ := cp k hk
          exact ⟨s, WF, MF, X.cong fun c _ _ => o3 c (by omega) (by omega) (by omega) (by omega) (by omega)⟩, ⟨pl, w, t, rc, FF, ⟨vb.cong fun c _ _ => e' c (by omega), ⟨pt, qt, tr.cong fun c _ _ => e' c (by omega)⟩, z.cong fun c _ _ => e' c (by omega), by rw [e' _ (by omega)]; exact l, by rw [e' _ (by omega)]; exact u, by rw [e' _ (by omega)]; exact v, by rw [e' _ (by omega)]; exact k, x.cong (e' _ (by omega)), y'.cong (e' _ (by omega))⟩, by rw [e' _ (by omega)]; exact F49, k1, k2, k3⟩, rz, ⟨g1.cong (e' _ (by omega)), g2.cong (e' _ (by omega))⟩, i.cong fun c _ _ => e' c (by omega), A, by rw [e' _ (by omega)]; exact j⟩
    have rz0 : ∀ {g : Hp}, RZ g (S + 32) tx len → ∃ e, pV g (S + 32) 5 1 (.int 0) = some (hup g (S + 32) e) ∧ RZ (hup g (S + 32) e) (S + 32) tx 0 ∧ gI (hup g (S + 32) e) (S + 32) 5 3 = gI g (S + 32) 5 3 ∧ gI (hup g (S + 32) e) (S + 32) 5 4 = gI g (S + 32) 5 4 := by
      rintro g ⟨⟨x2, x3, x4, x5, a⟩, b, c, d⟩
      refine ⟨.inr (5, [.ref (S + 32 + 1), .int 0, .int x2, .int x3, .int x4, x5]), by simp [pV, a], ⟨⟨x2, x3, x4, x5, hup_s⟩, b.up (by omega), by omega, fun j hj => absurd hj (by omega)⟩, ?_, ?_⟩
      · simp [gI, gV, a, hup_s]
      · simp [gI, gV, a, hup_s]
    have a3' : ∀ {g : Hp} {mk : Nat} {lf : Int32}, g S = some (YC S mk lf) → gA g S 7 3 = some (some (S + 32)) ∧ gI g S 7 9 = some (nI mk) ∧ (∀ x, pV g S 7 10 (.int x) = some (hup g S (YC S mk x))) ∧ (∀ x, pV g S 7 9 (.int (nI x)) = some (hup g S (YC S x lf))) := by
      intro g mk lf e
      exact ⟨by simp [gA, gV, e, YC], by simp [gI, gV, e, YC], fun x => by simp [pV, e, YC], fun x => by simp [pV, e, YC]⟩
    rw [(a3' hY1).1]
    simp only [Option.bind_some]
    cases hp : pt tx len with
    | ok r =>
      obtain ⟨z3, rz, PLn⟩ := ok1 r hp
      obtain ⟨n20, gd, -⟩ := pt_ok hp f.2.2.1
      obtain ⟨e, E2, rz2, k3, -⟩ := rz0 rz
      have hY2 : (hup h1 (S + 32) e) S = some (YC S mk lf) := by rw [hup_n (by omega)]; exact hY1
      have P2 : PL (hup h1 (S + 32) e) (S + 8 + 3 * mk) r.2.1 r.2.2.1 r.2.2.2 := PLn.cong fun c _ _ => hup_n (by omega)
      have o2 : ∀ c, c ≠ S + 32 → c ≠ S + 8 + 3 * mk → c ≠ S + 8 + 3 * mk + 1 → c ≠ S + 8 + 3 * mk + 2 → (hup h1 (S + 32) e) c = h c := fun c x y z w => by rw [hup_n x, o1 c x y z w]
      rw [E2]
      simp only [Option.bind_some]
      rw [(a3' hY2).1]
      simp only [Option.bind_some]
      rw [k3, z3]
      simp only [Option.bind_some]
      rw [if_pos trivial, (a3' hY2).2.2.1 (-1)]
      simp only [Option.bind_some]
      rw [(a3' (hup_s (h := hup h1 (S + 32) e) (a := S) (e := YC S mk (-1)))).2.1]
      simp only [Option.bind_some]
      rw [nI_1, (a3' (hup_s (h := hup h1 (S + 32) e) (a := S) (e := YC S mk (-1)))).2.2.2 (mk + 1), hup_u]
      simp only [Option.bind_some]
      rw [(a3' (hup_s (h := hup h1 (S + 32) e) (a := S) (e := YC S (mk + 1) (-1)))).2.1]
      simp only [Option.bind_some]
      rw [nI_pred]
      have Cn : CI (hup (hup h1 (S + 32) e) S (YC S (mk + 1) (-1))) S (mk + 1) (nup3 T mk r.2) p q pr br tx 0 (-1) := by
        refine fin (by omega) hup_s (rz2.cong fun c _ _ => hup_n (by omega)) ?_ (fun c x y z w v => by rw [hup_n x, o2 c y z w v]) ?_ ?_ ?_
        · obtain ⟨y0, -, WF, MF, y1, y2, -⟩ := P2
          exact ⟨_, WF, MF, by rw [hup_n (by omega)]; exact y0, by rw [hup_n (by omega)]; exact y1, by rw [hup_n (by omega)]; exact y2⟩
        · intro n w law hn hw hl
          rcases oF n w law hn hw hl with z | ⟨nm, z⟩
          · exact Or.inl z
          · refine Or.inr ⟨by omega, ?_⟩
            unfold nW nM
            rw [nup3_n (by omega)]
            exact z
        · rcases oT with z | ⟨n, w, nm, hw, z, R⟩
          · exact Or.inl z
          · refine Or.inr ⟨n, w, by omega, hw, z, ?_⟩
            unfold nW nM
            rw [nup3_n (by omega)]
            exact R
        · intro n hn
          by_cases cn : n = mk
          · subst cn
            unfold nl nW nM
            rw [nup3_s]
            exact ⟨P2.cong fun c _ _ => hup_n (by omega), gd⟩
          · obtain ⟨pn, gn⟩ := P n (by omega)
            unfold nl nW nM
            rw [nup3_n cn]
            exact ⟨pn.cong fun c _ _ => by rw [hup_n (by omega), o2 c (by omega) (by omega) (by omega) (by omega)], gn⟩
      have Mi1 : MI (hup (hup h1 (S + 32) e) S (YC S (mk + 1) (-1))) (S + 59) mk T pr br tx len lf F := Mi.cong fun c _ _ => by rw [hup_n (by omega), o2 c (by omega) (by omega) (by omega) (by omega)]
      obtain ⟨g', lo, okm, -⟩ := M_numI Mi1 hk hT
      obtain ⟨G, F', M'⟩ := okm r hp
      exact ⟨nI mk, _, g', rfl, G, zcls (by omega) B Z0 (Cn.cong (by omega) fun c _ _ => lo c (by omega)) M'⟩
    | error er =>
      obtain ⟨e12, z3, z4, rz, n', WF', MF', -, X'⟩ := er1 er hp
      obtain ⟨e, E2, rz2, k3, k4⟩ := rz0 rz
      have hY2 : (hup h1 (S + 32) e) S = some (YC S mk lf) := by rw [hup_n (by omega)]; exact hY1
      have o2 : ∀ c, c ≠ S + 32 → c ≠ S + 8 + 3 * mk → c ≠ S + 8 + 3 * mk + 1 → c ≠ S + 8 + 3 * mk + 2 → (hup h1 (S + 32) e) c = h c := fun c x y z w => by rw [hup_n x, o1 c x y z w]
      have X2 : PX (hup h1 (S + 32) e) (S + 8 + 3 * mk) n' WF' MF' := X'.cong fun c _ _ => hup_n (by omega)
      rw [E2]
      simp only [Option.bind_some]
      rw [(a3' hY2).1]
      simp only [Option.bind_some]
      rw [k3, z3]
      simp only [Option.bind_some]
      rw [if_neg (show ¬ nI er.1 = 0 from nI_ne0 (by omega) (by omega)), k4, z4]
      simp only [Option.bind_some]
      rw [(a3' hY2).2.2.1 (nI er.2)]
      simp only [Option.bind_some]
      rw [(a3' (hup_s (h := hup h1 (S + 32) e) (a := S) (e := YC S mk (nI er.2)))).1]
      simp only [Option.bind_some]
      have k5 : gI (hup (hup h1 (S + 32) e) S (YC S mk (nI er.2))) (S + 32) 5 3 = some (nI er.1) := by
        rw [← z3, ← k3]
        unfold gI gV
        rw [hup_n (by omega)]
      rw [k5]
      simp only [Option.bind_some]
      have Cn : CI (hup (hup h1 (S + 32) e) S (YC S mk (nI er.2))) S mk T p q pr br tx 0 (nI er.2) := by
        refine fin hm hup_s (rz2.cong fun c _ _ => hup_n (by omega)) ⟨n', WF', MF', X2.cong fun c _ _ => hup_n (by omega)⟩ (fun c x y z w v => by rw [hup_n x, o2 c y z w v]) oF oT (fun n hn => ⟨(P n hn).1.cong fun c _ _ => by rw [hup_n (by omega), o2 c (by omega) (by omega) (by omega) (by omega)], (P n hn).2⟩)
      have Mi1 : MI (hup (hup h1 (S + 32) e) S (YC S mk (nI er.2))) (S + 59) mk T pr br tx len lf F := Mi.cong fun c _ _ => by rw [hup_n (by omega), o2 c (by omega) (by omega) (by omega) (by omega)]
      obtain ⟨g', lo, -, erm⟩ := M_numI Mi1 hk hT
      obtain ⟨G, F', M'⟩ := erm er hp
      exact ⟨(-10 : Int32) - nI er.1, _, g', rfl, G, zcls hm B Z0 (Cn.cong hm fun c _ _ => lo c (by omega)) M'⟩
  · have e8 : mk = 8 := by omega
    subst e8
    rw [if_pos (by decide)]
    refine ⟨-1004, h, h, rfl, ?_, I0⟩
    unfold f_M_number
    rw [if_pos Mi.o, oc_i Mi.1.1 (by decide) Mi.2.2.2.2.2.2.2.1]
    rfl
end
