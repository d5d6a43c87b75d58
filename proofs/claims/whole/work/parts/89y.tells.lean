/-! ===== both sides tell a number ===== -/
section
variable {h h' : Hp} {S m mk : Nat} {T : Nt} {p q pr br tx : Nat → Nat} {len : Nat} {lf : Int32} {F F' : Nat → Value}
theorem CI.la (H : CI h S mk T p q pr br tx len lf) (hm : mk ≤ 8) (L : LA h' S mk T p q pr br) (e : LF2 h h' S) : CI h' S mk T p q pr br tx len lf := by
  obtain ⟨a, ⟨PF, b1, b2⟩, c, d, f, ⟨g1, g2⟩, i, A, j⟩ := H
  have e' : ∀ c, (c = S ∨ (S + 7 ≤ c ∧ c < S + 34) ∨ c = S + 50 ∨ (S + 53 ≤ c)) → h' c = h c := fun c hc => e c (by omega) (by omega) (by omega) (by omega)
  exact ⟨by rw [e' _ (by omega)]; exact a, ⟨PF, by rw [e' _ (by omega)]; exact b1, b2⟩, fun k hk => by
    obtain ⟨s, WF, MF, X⟩ := c k hk
    exact ⟨s, WF, MF, X.cong fun c _ _ => e' c (by omega)⟩, L, f.cong fun c _ _ => e' c (by omega), ⟨g1.cong (e' _ (by omega)), g2.cong (e' _ (by omega))⟩, i.cong fun c _ _ => e' c (by omega), A, by rw [e' _ (by omega)]; exact j⟩
/-- the class's own two fractions -/
theorem CI.fx (H : CI h S mk T p q pr br tx len lf) {a : Nat} (ha : a = S + 57 ∨ a = S + 58) : FX h a := by
  rcases ha with rfl | rfl
  · exact H.2.2.2.2.2.1.1
  · exact H.2.2.2.2.2.1.2
theorem CI.fr (H : CI h S mk T p q pr br tx len lf) (hm : mk ≤ 8) {a : Nat} (ha : a = S + 57 ∨ a = S + 58) {r : QR} : CI (hup h a (frE r)) S mk T p q pr br tx len lf := by
  obtain ⟨x, ⟨PF, b1, b2⟩, c, d, f, ⟨g1, g2⟩, i, A, j⟩ := H
  have e' : ∀ c, S ≤ c → c < S + 57 → (hup h a (frE r)) c = h c := fun c _ _ => hup_n (by omega)
  refine ⟨by rw [e' _ (by omega) (by omega)]; exact x, ⟨PF, by rw [e' _ (by omega) (by omega)]; exact b1, b2⟩, fun k hk => by
    obtain ⟨s, WF, MF, X⟩ := c k hk
    exact ⟨s, WF, MF, X.cong fun c _ _ => e' c (by omega) (by omega)⟩, d.cong hm fun c _ _ => e' c (by omega) (by omega), f.cong fun c _ _ => e' c (by omega) (by omega), ?_, i.cong fun c _ _ => e' c (by omega) (by omega), A, by rw [e' _ (by omega) (by omega)]; exact j⟩
  rcases ha with rfl | rfl
  · exact ⟨FX.fe, g2.hp (by omega)⟩
  · exact ⟨g1.hp (by omega), FX.fe⟩
theorem LV.tell {pl : Value} {w t : Int32} {c : Rc} {out : Nat} (H : LV h S p q pl w t c) (ho : out = S + 57 ∨ out = S + 58) (G : TG h h' (S + 34) out) : LV h' S p q pl w t c := by
  obtain ⟨b, ⟨pt, qt, tr⟩, z, l, u, v, k, x, y⟩ := H
  obtain ⟨g1, g2, g3⟩ := G
  exact ⟨b.cong fun c _ _ => g1 c (by omega) (by omega), ⟨pt, qt, tr.cong fun c _ _ => g1 c (by omega) (by omega)⟩, g3, by rw [g1 _ (by omega) (by omega)]; exact l, by rw [g1 _ (by omega) (by omega)]; exact u, by rw [g1 _ (by omega) (by omega)]; exact v, by rw [g1 _ (by omega) (by omega)]; exact k, g2 _ x, g2 _ y⟩
theorem CI.tell {out : Nat} (H : CI h S mk T p q pr br tx len lf) (hm : mk ≤ 8) (ho : out = S + 57 ∨ out = S + 58) (G : TG h h' (S + 34) out) : CI h' S mk T p q pr br tx len lf := by
  obtain ⟨a, ⟨PF, b1, b2⟩, c, ⟨pl, w, t, rc, FF, V, F49, oF, oT, P⟩, f, ⟨g1, g2⟩, i, A, j⟩ := H
  have e' : ∀ c, c ≠ out → ¬ (S + 34 ≤ c ∧ c < S + 45) → h' c = h c := fun c x y => G.1 c x (by omega)
  exact ⟨by rw [e' _ (by omega) (by omega)]; exact a, ⟨PF, by rw [e' _ (by omega) (by omega)]; exact b1, b2⟩, fun k hk => by
    obtain ⟨s, WF, MF, X⟩ := c k hk
    exact ⟨s, WF, MF, X.cong fun c _ _ => e' c (by omega) (by omega)⟩, ⟨pl, w, t, rc, FF, V.tell ho G, by rw [e' _ (by omega) (by omega)]; exact F49, oF, oT, P.cong hm fun c _ _ => e' c (by omega) (by omega)⟩, f.cong fun c _ _ => e' c (by omega) (by omega), ⟨G.2.1 _ g1, G.2.1 _ g2⟩, i.cong fun c _ _ => e' c (by omega) (by omega), A, by rw [e' _ (by omega) (by omega)]; exact j⟩
/-- the class tells number n into one of its fractions -/
theorem Y_tell (H : CI h S mk T p q pr br tx len lf) (B : RB p q pr br) (hm : mk ≤ 8) {n w a b out : Nat} (hn : n < mk) (hw : w < 4) (ha : a < 8) (hb : b < 8) (ho : out = S + 57 ∨ out = S + 58) : ∃ h', f_T_tell (S + 34) (S + 8 + 3 * n) (S + 1) (nI w) (nI a) (nI b) out h = some h' ∧ FR h' out (evw (nW T n) (nM T n) pr (bam br w) a b) ∧ CI h' S mk T p q pr br tx len lf ∧ ∀ c, c ≠ out → ¬ (S + 34 ≤ c ∧ c < S + 45) → h' c = h c := by
  have fx := H.fx ho
  have H0 := H
  obtain ⟨-, -, -, ⟨pl, w0, t, rc, FF, V, F49, oF, oT, P⟩, -⟩ := H
  obtain ⟨h', E, R, G⟩ := T_tell V.2.2.1 V.1 (P n hn).1 hw (fun c _ _ => by omega) (fun c _ _ => by omega) (P n hn).2 ha hb fx (by omega)
  rw [B.ev (P n hn).2 hw ha hb] at R
  exact ⟨h', E, R, H0.tell hm ho G, fun c x y => G.1 c x (by omega)⟩
theorem RB.evl {p q pr br W M : Nat → Nat} (B : RB p q pr br) {n w a b : Nat} (hg : good W M 8 0 n) (hw : w < 4) (ha : a < 8) (hb : b < 8) : evl W M p (amq q w) a b = evl W M pr (bam br w) a b := evl_cong hg B.1 (fun z g hz hg => B.2.1 w z g hw hz hg) ha hb
theorem Y_tellL (H : CI h S mk T p q pr br tx len lf) (B : RB p q pr br) (hm : mk ≤ 8) {n w a b out : Nat} (hn : n < mk) (hw : w < 4) (ha : a < 8) (hb : b < 8) (ho : out = S + 57 ∨ out = S + 58) : ∃ h', f_T_tellLinked (S + 34) (S + 8 + 3 * n) (S + 1) (nI w) (nI a) (nI b) out h = some h' ∧ FR h' out (evl (nW T n) (nM T n) pr (bam br w) a b) ∧ CI h' S mk T p q pr br tx len lf ∧ ∀ c, c ≠ out → ¬ (S + 34 ≤ c ∧ c < S + 45) → h' c = h c := by
  have fx := H.fx ho
  have H0 := H
  obtain ⟨-, -, -, ⟨pl, w0, t, rc, FF, V, F49, oF, oT, P⟩, -⟩ := H
  obtain ⟨h', E, R, G⟩ := T_tellLinked V.2.2.1 V.1 (P n hn).1 hw (fun c _ _ => by omega) (fun c _ _ => by omega) (P n hn).2 ha hb fx (by omega)
  rw [B.evl (P n hn).2 hw ha hb] at R
  exact ⟨h', E, R, H0.tell hm ho G, fun c x y => G.1 c x (by omega)⟩
theorem CI.good (H : CI h S mk T p q pr br tx len lf) {n : Nat} (hn : n < mk) : good (nW T n) (nM T n) 8 0 (nl T n) ∧ nl T n ≤ 20 := by
  obtain ⟨-, -, -, ⟨pl, w0, t, rc, FF, V, F49, oF, oT, P⟩, -⟩ := H
  exact ⟨(P n hn).2, (P n hn).1.2.1⟩
/-- another number -/
theorem MX.num {base n base' n' : Nat} {b W M W' M' : Nat → Nat} {s : St} (X : MX h m base n p b W M s) (N : MN h m base' n' W' M') : MX h m base' n' p b W' M' s := ⟨X.1, X.2.1, X.2.2.1, X.2.2.2.1, X.2.2.2.2.1, N, X.2.2.2.2.2.2⟩
theorem MI.mx (H : MI h m mk T pr br tx len lf F) : ∃ s u l r, s.1 = F ∧ MK h m F u l r ∧ MWas h m F ∧ ∀ n, n < mk → MX h m (40 * n) (nl T n) pr br (nW T n) (nM T n) s := by
  obtain ⟨⟨a0, a1, a2, a3⟩, b, c, ⟨s, d1, d2⟩, ⟨u, l, r, k⟩, w, ⟨t, mr⟩, f2, f7, x⟩ := H
  subst d1
  exact ⟨s, u, l, r, rfl, k, w, fun n hn => ⟨a0, a1, a2, a3, b, c n hn, d2⟩⟩
theorem MI.mn (H : MI h m mk T pr br tx len lf F) {n : Nat} (hn : n < mk) : MN h m (40 * n) (nl T n) (nW T n) (nM T n) := H.2.2.1 n hn
/-- both at rest again -/
theorem zfin {n : Nat} (hm : mk ≤ 8) (B : RB p q pr br) (Z0 : ∀ k, 40 ≤ k → k < 50 → pr k = 0) (C : CI h S mk T p q pr br tx len lf) (Mi : MI h (S + 59) mk T pr br tx len lf F) (R : MS h' (S + 59) (40 * n) (nl T n) pr br (nW T n) (nM T n) F') (g : MEq3 F F') (e : MFs h h' (S + 59)) : zInv S h' := ⟨mk, T, p, q, pr, br, tx, len, lf, F', hm, B, Z0, C.cong hm fun c _ _ => e c (by omega), Mi.back R g e fun c _ _ => e c (by omega)⟩
/-- the class alone has worked -/
theorem zcls (hm : mk ≤ 8) (B : RB p q pr br) (Z0 : ∀ k, 40 ≤ k → k < 50 → pr k = 0) (C : CI h S mk T p q pr br tx len lf) (Mi : MI h (S + 59) mk T pr br tx len lf F) : zInv S h := ⟨mk, T, p, q, pr, br, tx, len, lf, F, hm, B, Z0, C, Mi⟩
end
theorem code64 {e : Int32} (h : e = eNOT ∨ e = eLARGE) : ¬ e = 0 := err_ne h
section
variable {S : Nat}
theorem sim_worth : Sim_worth (zInv S) S := by
  intro h x1 x2 x3 x4 x5 I
  have I0 := I
  obtain ⟨mk, T, p, q, pr, br, tx, len, lf, F, hm, B, Z0, C, Mi⟩ := I
  obtain ⟨a0, a1, a2, a3, a4, a5, a6, a7, a8, a9, a10⟩ := C.a
  unfold f_Y_worth
  rw [if_pos C.o]
  rcases (num_cs x1 mk hm).symm with ho | ⟨n, hn, rfl⟩
  · rw [Y_num_out C hm ho, Option.bind_some, if_neg (by decide)]
    refine ⟨_, h, h, rfl, ?_, I0⟩
    unfold f_M_worth
    rw [if_pos Mi.o, M_num_out Mi hm ho]
    rfl
  obtain ⟨yn, yp⟩ := Y_num_in C hm hn
  rw [yn, Option.bind_some, if_pos rfl, yp]
  rcases (Z_who x2).symm with ⟨Y2, M2⟩ | ⟨w, hw, rfl, Y2, M2⟩
  · rw [Y2, Option.bind_some, if_neg (by decide)]
    refine ⟨_, h, h, rfl, ?_, I0⟩
    unfold f_M_worth
    rw [if_pos Mi.o, M_num_in Mi hm hn, M2]
    rfl
  rw [Y2, Option.bind_some, if_pos rfl]
  rcases (Z_year x3).symm with ⟨Y3, M3⟩ | ⟨a, ha, rfl, Y3, M3⟩
  · rw [Y3, Option.bind_some, if_neg (by decide)]
    refine ⟨_, h, h, rfl, ?_, I0⟩
    unfold f_M_worth
    rw [if_pos Mi.o, M_num_in Mi hm hn, M2, M3]
    rfl
  rw [Y3, Option.bind_some, if_pos rfl]
  rcases (Z_year x4).symm with ⟨Y4, M4⟩ | ⟨b, hb, rfl, Y4, M4⟩
  · rw [Y4, Option.bind_some, if_neg (by decide)]
    refine ⟨_, h, h, rfl, ?_, I0⟩
    unfold f_M_worth
    rw [if_pos Mi.o, M_num_in Mi hm hn, M2, M3, M4]
    rfl
  rw [Y4, Option.bind_some, if_pos rfl]
  rcases (Z_in x5 2 (by decide)).symm with ⟨M5, h5⟩ | ⟨j, hj, rfl, M5⟩
  · have mo : f_M_worth (S + 59) (nI n) (nI w) (nI a) (nI b) x5 h = some (-1002, h) := by
      unfold f_M_worth
      rw [if_pos Mi.o, M_num_in Mi hm hn, M2, M3, M4, show (2 : Int64) = lN 2 from rfl, M5]
      rfl
    rcases h5 with h1 | ⟨h1, h2⟩
    · rw [if_pos h1]
      exact ⟨_, h, h, rfl, mo, I0⟩
    · rw [if_neg h1, if_neg (show ¬ x5 ≤ (2 : Int32) from h2)]
      exact ⟨_, h, h, rfl, mo, I0⟩
  obtain ⟨h1, E1, R1, C1, L1⟩ := Y_tell C B hm hn hw ha hb (Or.inl rfl)
  have Mi1 : MI h1 (S + 59) mk T pr br tx len lf F := Mi.cong fun c _ _ => L1 c (by omega) (by omega)
  obtain ⟨-, -, -, -, -, -, -, b7, -⟩ := C1.a
  obtain ⟨gd1, gl1⟩ := C.good hn
  obtain ⟨s, u, l, r, eF, K, A, X⟩ := Mi1.mx
  subst eF
  obtain ⟨h2, s2, E2, X2, Q2, V2⟩ := M_find (X n hn) gd1 gl1 (a := a) (z := b) hw ha hb
  have K2 : MK h2 (S + 59) s2.1 u l r := K.cong (fun c x y => Q2.2.2 c (by omega) (by omega)) Q2.1
  have A2 : MWas h2 (S + 59) s2.1 := A.cong (fun c x y => Q2.2.2 c (by omega) (by omega)) Q2.1
  have fin : zInv S h2 := zfin (n := n) hm B Z0 C1 Mi1 ⟨s2, u, l, r, rfl, X2, K2, A2⟩ Q2.1.e3 (fun c hc => Q2.2.2 c (by omega) (by omega))
  have k := evw_ok (nW T n) (nM T n) pr (bam br w) a b
  rw [if_neg (nI_pos (by omega)), if_pos (show nI j ≤ (2 : Int32) from nI_le (b := 2) hj (by decide)), a4, a0, a7]
  simp only [Option.bind_some]
  rw [E1]
  simp only [Option.bind_some]
  rw [b7]
  simp only [Option.bind_some]
  have Mst : f_M_worth (S + 59) (nI n) (nI w) (nI a) (nI b) (nI j) h1 = zb2 (f_M_find (S + 59) (nI (40 * n)) (nI w) (nI a) (nI b) h1) fun i12 h13 => if 0 ≤ i12 then
    if nI j = 0 then
      (gL h13 (S + 59) 8 14).bind fun l20 =>
      some (l20, h13)
    else
    if nI j = (1 : Int32) then
      (gL h13 (S + 59) 8 15).bind fun l17 =>
      some (l17, h13)
    else
    (gI h13 (S + 59) 8 16).bind fun i14 =>
    if i14 = 0 then
      some ((0 : Int64), h13)
    else
    some ((1 : Int64), h13)
  else
  some ((i12).toInt64, h13) := by
    unfold f_M_worth
    rw [if_pos Mi1.o, M_num_in Mi1 hm hn, M2, M3, M4, show (2 : Int64) = lN 2 from rfl, M5, show (40 : Int32) * nI n = nI (40 * n) from pk_mul 40 n]
    rfl
  cases hv : evw (nW T n) (nM T n) pr (bam br w) a b with
  | error e =>
    rw [hv] at R1 k E2
    obtain ⟨-, -, -, z2, -⟩ := fo_g (fr_err R1)
    rw [z2]
    simp only [Option.bind_some]
    rw [if_neg (err_ne k)]
    refine ⟨_, h1, h2, rfl, ?_, fin⟩
    rw [Mst, E2, zb2_s, if_neg (show ¬ (0 : Int32) ≤ mcode (.error e) from qneg k)]
    rfl
  | ok x =>
    rw [hv] at R1 k E2
    obtain ⟨z0, z1, zt, z2, -⟩ := fo_g (fr_ok R1)
    have v := V2 x hv
    rw [z2, z0, z1, zt]
    simp only [Option.bind_some]
    rw [if_pos trivial]
    rcases (by omega : j = 0 ∨ j = 1 ∨ j = 2) with rfl | rfl | rfl
    · refine ⟨lN x.1, h1, h2, rfl, ?_, fin⟩
      rw [Mst, E2, zb2_s, if_pos (show (0 : Int32) ≤ mcode (.ok x) from (by decide : (0 : Int32) ≤ 0)), if_pos (show nI 0 = (0 : Int32) from rfl), X2.h14 v]
      rfl
    · refine ⟨lN x.2.1, h1, h2, rfl, ?_, fin⟩
      rw [Mst, E2, zb2_s, if_pos (show (0 : Int32) ≤ mcode (.ok x) from (by decide : (0 : Int32) ≤ 0)), if_neg (show ¬ nI 1 = (0 : Int32) by decide), if_pos (show nI 1 = (1 : Int32) from rfl), X2.h15 v]
      rfl
    · rw [if_pos (show nI 2 = (2 : Int32) from rfl)]
      refine ⟨if bI x.2.2 = 0 then 0 else 1, h1, h2, ?_, ?_, fin⟩
      · split <;> rfl
      · rw [Mst, E2, zb2_s, if_pos (show (0 : Int32) ≤ mcode (.ok x) from (by decide : (0 : Int32) ≤ 0)), if_neg (show ¬ nI 2 = (0 : Int32) by decide), if_neg (show ¬ nI 2 = (1 : Int32) by decide), X2.h16 v, Option.bind_some]
        split <;> rfl
end
