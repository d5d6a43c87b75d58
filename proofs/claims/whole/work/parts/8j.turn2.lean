/-! ===== sims: turn, whole ===== -/
theorem sim_turn {S : Nat} : Sim_turn (zInv S) S := by
  intro h x1 x2 x3 x4 x5 x6 x7 x8 I
  have I0 := I
  obtain ⟨mk, T, p, q, pr, br, tx, len, lf, F, hm, B, Z0, C, Mi⟩ := I
  obtain ⟨a0, a1, a2, a3, a4, a5, a6, a7, a8, a9, a10⟩ := C.a
  unfold f_Y_turn
  rw [if_pos C.o]
  rcases (num_cs x1 mk hm).symm with ho | ⟨n, hn, rfl⟩
  · rw [Y_num_out C hm ho, Option.bind_some, if_neg (by decide)]
    refine ⟨_, h, h, rfl, ?_, I0⟩
    unfold f_M_turn
    rw [if_pos Mi.o, M_num_out Mi hm ho]
    rfl
  rw [(Y_num_in C hm hn).1, Option.bind_some, if_pos rfl]
  rcases (Z_who x2).symm with ⟨Y2, M2⟩ | ⟨w, hw, rfl, Y2, M2⟩
  · rw [Y2, Option.bind_some, if_neg (by decide)]
    refine ⟨_, h, h, rfl, ?_, I0⟩
    unfold f_M_turn
    rw [if_pos Mi.o, M_num_in Mi hm hn, M2]
    rfl
  rw [Y2, Option.bind_some, if_pos rfl]
  rcases (Z_year x3).symm with ⟨Y3, M3⟩ | ⟨a, ha, rfl, Y3, M3⟩
  · rw [Y3, Option.bind_some, if_neg (by decide)]
    refine ⟨_, h, h, rfl, ?_, I0⟩
    unfold f_M_turn
    rw [if_pos Mi.o, M_num_in Mi hm hn, M2, M3]
    rfl
  rw [Y3, Option.bind_some, if_pos rfl]
  rcases (Z_year x4).symm with ⟨Y4, M4⟩ | ⟨b, hb, rfl, Y4, M4⟩
  · rw [Y4, Option.bind_some, if_neg (by decide)]
    refine ⟨_, h, h, rfl, ?_, I0⟩
    unfold f_M_turn
    rw [if_pos Mi.o, M_num_in Mi hm hn, M2, M3, M4]
    rfl
  rw [Y4, Option.bind_some, if_pos rfl]
  rcases (Z_year x5).symm with ⟨Y5, M5⟩ | ⟨y, hy, rfl, Y5, M5⟩
  · rw [Y5, Option.bind_some, if_neg (by decide)]
    refine ⟨_, h, h, rfl, ?_, I0⟩
    unfold f_M_turn
    rw [if_pos Mi.o, M_num_in Mi hm hn, M2, M3, M4, M5]
    rfl
  rw [Y5, Option.bind_some, if_pos rfl]
  rcases (Z_good x6).symm with ⟨Y6, M6⟩ | ⟨g, hg, rfl, Y6, M6⟩
  · rw [Y6, Option.bind_some, if_neg (by decide)]
    refine ⟨_, h, h, rfl, ?_, I0⟩
    unfold f_M_turn
    rw [if_pos Mi.o, M_num_in Mi hm hn, M2, M3, M4, M5, M6]
    rfl
  rw [Y6, Option.bind_some, if_pos rfl]
  rcases (M_in1n x7 9999 (by decide)).symm with ⟨M7, h7⟩ | ⟨u, h1u, hu, rfl, M7⟩
  · have mo : f_M_turn (S + 59) (nI n) (nI w) (nI a) (nI b) (nI y) (nI g) x7 x8 h = some (-1002, h) := by
      unfold f_M_turn
      rw [if_pos Mi.o, M_num_in Mi hm hn, M2, M3, M4, M5, M6, show (9999 : Int64) = lN 9999 from rfl, M7]
      rfl
    rcases h7 with h1 | ⟨h1, h2⟩
    · rw [if_pos h1]
      exact ⟨_, h, h, rfl, mo, I0⟩
    · rw [if_neg h1, if_pos (show (9999 : Int32) < x7 from h2)]
      exact ⟨_, h, h, rfl, mo, I0⟩
  rw [if_neg (show ¬ nI u < (1 : Int32) from nI_nlt (b := 1) h1u (by omega)), if_neg (show ¬ (9999 : Int32) < nI u from nI_nlt (a := 9999) hu (by decide))]
  rcases (M_in1n x8 9999 (by decide)).symm with ⟨M8, h8⟩ | ⟨l, h1l, hl, rfl, M8⟩
  · have mo : f_M_turn (S + 59) (nI n) (nI w) (nI a) (nI b) (nI y) (nI g) (nI u) x8 h = some (-1002, h) := by
      unfold f_M_turn
      rw [if_pos Mi.o, M_num_in Mi hm hn, M2, M3, M4, M5, M6, show (9999 : Int64) = lN 9999 from rfl, M7, M8]
      rfl
    rcases h8 with h1 | ⟨h1, h2⟩
    · rw [if_pos h1]
      exact ⟨_, h, h, rfl, mo, I0⟩
    · rw [if_neg h1, if_neg (show ¬ x8 ≤ (9999 : Int32) from nlt_le h2)]
      exact ⟨_, h, h, rfl, mo, I0⟩
  rw [if_neg (show ¬ nI l < (1 : Int32) from nI_nlt (b := 1) h1l (by omega)), if_pos (show nI l ≤ (9999 : Int32) from nI_le (b := 9999) hl (by decide)), a8]
  simp only [Option.bind_some]
  rw [nI_l (by omega), nI_l (by omega), F_put (C.fx (Or.inr rfl)) (by omega) (by omega) (by omega), ratL_mk hu hl]
  simp only [Option.bind_some]
  have C1 := C.fr hm (a := S + 58) (Or.inr rfl) (r := .ok (rat u l))
  have R1 : FR (hup h (S + 58) (frE (.ok (rat u l)))) (S + 58) (.ok (rat u l)) := hup_s
  have o1 : ∀ c, S + 59 ≤ c → (hup h (S + 58) (frE (.ok (rat u l)))) c = h c := fun c hc => hup_n (by omega)
  generalize hup h (S + 58) (frE (.ok (rat u l))) = h1 at *
  obtain ⟨b0, b1, -⟩ := C1.a
  rw [b1, b0]
  simp only [Option.bind_some]
  obtain ⟨pt, qt, Bt⟩ : ∃ pt qt, BK h1 (S + 4) pt qt := by
    obtain ⟨-, -, -, ⟨pl, w0, t, rc, FF, V, -⟩, -⟩ := C1
    exact V.2.1
  obtain ⟨h2, E2, Bt2, -, f2⟩ := B_copyFrom Bt C1.bk (Or.inl (by omega))
  have C2 := C1.tr hm (fun c x y => f2 c (by omega) (by omega)) Bt2
  have R2 : FR h2 (S + 58) (.ok (rat u l)) := (f2 _ (by omega) (by omega)).trans R1
  rw [E2]
  simp only [Option.bind_some]
  obtain ⟨h3, E3, C3, f3⟩ := Y_turn_loop (a := a) (z := b) B hm hn hw ha hb hy hg hu hl (by omega) 99 (FU - 100) 1 h2 p rfl C2 Bt2 (fun _ _ _ => rfl) R2
  have fr : ∀ c, S + 59 ≤ c → h3 c = h c := fun c hc => by rw [f3 c hc, f2 c (by omega) (by omega), o1 c hc]
  have Mi1 : MI h3 (S + 59) mk T pr br tx len lf F := Mi.cong fun c x _ => fr c x
  obtain ⟨gd1, gl1⟩ := C.good hn
  obtain ⟨s, uu, ll, rr, eF, K, A, X⟩ := Mi1.mx
  subst eF
  have p99 := B.2.2.1 (y * 5 + g) (by omega)
  have X0 : MX h3 (S + 59) (40 * n) (nl T n) (nup pr (y * 5 + g) (pr (y * 5 + g))) br (nW T n) (nM T n) s := by
    have e : nup pr (y * 5 + g) (pr (y * 5 + g)) = pr := by
      funext j
      unfold nup
      split
      · rename_i c; rw [c]
      · rfl
    rw [e]
    exact X n hn
  obtain ⟨h4, s4, u4, l4, r4, E4, X4, K4, A4, e4, f4⟩ := M_turn_loop (p := pr) (a := a) (z := b) gd1 gl1 hw ha hb hy hg (show 0 < u by omega) hu hl (by omega) (show pr (y * 5 + g) ≤ 198 by omega) 99 (FU - 100) 1 h3 s _ uu ll rr rfl X0 K A
  refine ⟨_, h3, h4, E3, ?_, zfin (n := n) hm B Z0 C3 Mi1 ⟨s4, u4, l4, r4, rfl, X4, K4, A4⟩ e4.e3 f4⟩
  unfold f_M_turn
  rw [if_pos Mi1.o, M_num_in Mi1 hm hn, M2, M3, M4, M5, M6, show (9999 : Int64) = lN 9999 from rfl, M7, M8, Mi1.2.1.g0]
  simp only [Option.bind_some]
  rw [if_neg (by decide), if_neg (by decide), if_neg (by decide), if_neg (by decide), if_neg (by decide), if_neg (by decide), if_neg (by decide), if_neg (by decide), M_price Mi1.2.1 (by omega) hg]
  simp only [Option.bind_some]
  exact E4
