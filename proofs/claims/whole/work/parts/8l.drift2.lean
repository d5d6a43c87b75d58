/-! ===== sims: drift, whole ===== -/
theorem sim_drift {S : Nat} : Sim_drift (zInv S) S := by
  intro h x1 x2 x3 x4 x5 I
  have I0 := I
  obtain ⟨mk, T, p, q, pr, br, tx, len, lf, F, hm, B, Z0, C, Mi⟩ := I
  obtain ⟨a0, a1, a2, a3, a4, a5, a6, a7, a8, a9, a10⟩ := C.a
  unfold f_Y_drift
  rw [if_pos C.o]
  rcases (num_cs x1 mk hm).symm with ho | ⟨n, hn, rfl⟩
  · rw [Y_num_out C hm ho, Option.bind_some, if_neg (by decide)]
    refine ⟨_, h, h, rfl, ?_, I0⟩
    unfold f_M_drift
    rw [if_pos Mi.o, M_num_out Mi hm ho]
    rfl
  obtain ⟨yn, yp⟩ := Y_num_in C hm hn
  rw [yn, Option.bind_some, if_pos rfl, yp]
  rcases (Z_who x2).symm with ⟨Y2, M2⟩ | ⟨w, hw, rfl, Y2, M2⟩
  · rw [Y2, Option.bind_some, if_neg (by decide)]
    refine ⟨_, h, h, rfl, ?_, I0⟩
    unfold f_M_drift
    rw [if_pos Mi.o, M_num_in Mi hm hn, M2]
    rfl
  rw [Y2, Option.bind_some, if_pos rfl]
  rcases (Z_year x3).symm with ⟨Y3, M3⟩ | ⟨a, ha, rfl, Y3, M3⟩
  · rw [Y3, Option.bind_some, if_neg (by decide)]
    refine ⟨_, h, h, rfl, ?_, I0⟩
    unfold f_M_drift
    rw [if_pos Mi.o, M_num_in Mi hm hn, M2, M3]
    rfl
  rw [Y3, Option.bind_some, if_pos rfl]
  rcases (Z_year x4).symm with ⟨Y4, M4⟩ | ⟨b, hb, rfl, Y4, M4⟩
  · rw [Y4, Option.bind_some, if_neg (by decide)]
    refine ⟨_, h, h, rfl, ?_, I0⟩
    unfold f_M_drift
    rw [if_pos Mi.o, M_num_in Mi hm hn, M2, M3, M4]
    rfl
  rw [Y4, Option.bind_some, if_pos rfl]
  rcases (Z_in x5 1 (by decide)).symm with ⟨M5, h5⟩ | ⟨j, hj, rfl, M5⟩
  · have mo : f_M_drift (S + 59) (nI n) (nI w) (nI a) (nI b) x5 h = some (-1002, h) := by
      unfold f_M_drift
      rw [if_pos Mi.o, M_num_in Mi hm hn, M2, M3, M4, show f_M_in x5.toInt64 (0 : Int64) (1 : Int64) = some 0 from M5]
      rfl
    rcases h5 with h1 | ⟨h1, h2⟩
    · rw [if_pos h1]
      exact ⟨_, h, h, rfl, mo, I0⟩
    · rw [if_neg h1, if_neg (show ¬ x5 ≤ (1 : Int32) from h2)]
      exact ⟨_, h, h, rfl, mo, I0⟩
  obtain ⟨gd1, gl1⟩ := C.good hn
  have k1 := (evl_ok (nW T n) (nM T n) pr (bam br w) a b)
  have k2 := (evw_ok (nW T n) (nM T n) pr (bam br w) a b)
  -- the reference, from any heap with its own cells
  have ref : ∀ {g : Hp}, CI g S mk T p q pr br tx len lf → (∀ c, S + 59 ≤ c → g c = h c) → ∃ g', f_M_drift (S + 59) (nI n) (nI w) (nI a) (nI b) (nI j) g = some (two (dfq (evl (nW T n) (nM T n) pr (bam br w) a b) (evw (nW T n) (nM T n) pr (bam br w) a b)) j, g') ∧ zInv S g' := by
    intro g Cg eg
    have Mg : MI g (S + 59) mk T pr br tx len lf F := Mi.cong fun c x _ => eg c x
    obtain ⟨s, u, l, r, eF, K, A, X⟩ := Mg.mx
    subst eF
    obtain ⟨F', E, R'⟩ := M_take (u := 1) (l := 1) (t := false) (X n hn).1 (by decide) (by decide) (by decide)
    rw [show qmk 1 1 false = .ok (1, 1, false) by unfold qmk; rw [if_pos (by decide)]; rfl] at E R'
    have mh := R'.mh (X n hn).2.2.2.1
    obtain ⟨X1, -⟩ := (X n hn).res mh
    have K1 : MK (hup g (S + 59) (ocell 8 40 F')) (S + 59) F' u l r := K.cong (fun c _ _ => hup_n (by omega)) mh.meq
    have A1 : MWas (hup g (S + 59) (ocell 8 40 F')) (S + 59) F' := A.cong (fun c _ _ => hup_n (by omega)) mh.meq
    obtain ⟨g2, u2, l2, r2, E2, X2, K2, V2, f2⟩ := M_keep0 X1 K1
    have A2 : MWas g2 (S + 59) F' := A1.cong (fun c _ _ => f2 c (by omega)) (fun _ _ _ _ _ _ _ => rfl)
    obtain ⟨g3, s3, u3, l3, r3, E3, X3, K3, V3, e3, f3⟩ := M_dall gd1 gl1 hw ha hb (nI j) X2 K2 (V2 _ (mh.2.2.2 _ rfl))
    have A3 : MWas g3 (S + 59) s3.1 := A2.cong (fun c _ _ => f3 c (by omega)) e3
    obtain ⟨g4, s4, u4, l4, r4, E4, X4, K4, A4, e4, f4⟩ := M_d236 gd1 gl1 hw ha hb hj X3 K3 A3 k1 V3
    refine ⟨g4, ?_, zfin (n := n) hm B Z0 Cg Mg ⟨s4, u4, l4, r4, rfl, X4, K4, A4⟩ ((mh.meq.trans e3).trans e4).e3 (fun c hc => by rw [f4 c (by omega), f3 c (by omega), f2 c (by omega), hup_n (by omega)])⟩
    unfold f_M_drift
    rw [if_pos Mg.o, M_num_in Mg hm hn, M2, M3, M4, show f_M_in (nI j).toInt64 (0 : Int64) (1 : Int64) = some 1 from M5]
    simp only [Option.bind_some]
    rw [if_neg (by decide), if_neg (by decide), if_neg (by decide), if_neg (by decide), if_neg (by decide), show f_M_take (S + 59) (1 : Int64) (1 : Int64) (0 : Int32) g = _ from E, zb2_s, E2, Option.bind_some]
    show f_M_drift_66 (S + 59) FU (nI n) (nI w) (nI a) (nI b) (nI j) 0 (nI a) g2 = _
    rw [E3, E4]
  rw [if_neg (nI_pos (by omega)), if_pos (show nI j ≤ (1 : Int32) from nI_le (b := 1) hj (by decide)), a4, a0, a7]
  simp only [Option.bind_some]
  obtain ⟨h1, E1, R1, C1, L1⟩ := Y_tellL C B hm hn hw ha hb (Or.inl rfl)
  obtain ⟨b0, b1, b2, b3, b4, b5, b6, b7, b8, b9, b10⟩ := C1.a
  rw [E1]
  simp only [Option.bind_some]
  rw [b7]
  simp only [Option.bind_some]
  cases hx : evl (nW T n) (nM T n) pr (bam br w) a b with
  | error e =>
    rw [hx] at R1 k1 ref
    obtain ⟨-, -, -, z2, -⟩ := fo_g (fr_err R1)
    obtain ⟨g', G, J⟩ := ref C1 (fun c hc => L1 c (by omega) (by omega))
    rw [z2]
    simp only [Option.bind_some]
    rw [if_neg (err_ne k1)]
    exact ⟨_, h1, g', rfl, G, J⟩
  | ok x =>
    rw [hx] at R1 k1 ref
    obtain ⟨-, -, -, z2, -⟩ := fo_g (fr_ok R1)
    rw [z2]
    simp only [Option.bind_some]
    rw [if_pos trivial, b4, (Y_num_in C1 hm hn).2, b0, b8]
    simp only [Option.bind_some]
    obtain ⟨h2, E2, R2, C2, L2⟩ := Y_tell C1 B hm hn hw ha hb (Or.inr rfl)
    obtain ⟨c0, c1, c2, c3, c4, c5, c6, c7, c8, c9, c10⟩ := C2.a
    have R1' : FR h2 (S + 57) (.ok x) := (L2 (S + 57) (by omega) (by omega)).trans R1
    have fr2 : ∀ c, S + 59 ≤ c → h2 c = h c := fun c hc => by rw [L2 c (by omega) (by omega), L1 c (by omega) (by omega)]
    rw [E2]
    simp only [Option.bind_some]
    rw [c8]
    simp only [Option.bind_some]
    cases hv : evw (nW T n) (nM T n) pr (bam br w) a b with
    | error e =>
      rw [hv] at R2 k2 ref
      obtain ⟨-, -, -, z3, -⟩ := fo_g (fr_err R2)
      obtain ⟨g', G, J⟩ := ref C2 fr2
      rw [z3]
      simp only [Option.bind_some]
      rw [if_neg (err_ne k2)]
      exact ⟨_, h2, g', rfl, G, J⟩
    | ok v =>
      rw [hv] at R2 k2 ref
      obtain ⟨-, -, zt2, z3, -⟩ := fo_g (fr_ok R2)
      obtain ⟨-, -, zt1, -, -⟩ := fo_g (fr_ok R1')
      rw [z3]
      simp only [Option.bind_some]
      rw [if_pos trivial, c7]
      simp only [Option.bind_some]
      rw [zt1, zt2]
      simp only [Option.bind_some]
      have dd : dfq (.ok x) (.ok v) = if x.2.2 = true ∨ v.2.2 = true then .error eNOT else qmul (.ok x) (qinv (.ok v)) := rfl
      by_cases c : x.2.2 = true
      · rw [dd, if_pos (Or.inl c)] at ref
        obtain ⟨g', G, J⟩ := ref C2 fr2
        rw [if_neg (show ¬ bI x.2.2 = 0 by rw [c]; decide)]
        exact ⟨_, h2, g', rfl, G, J⟩
      · have c' : x.2.2 = false := by simpa using c
        rw [if_pos (show bI x.2.2 = 0 by rw [c']; rfl)]
        by_cases d : v.2.2 = true
        · rw [dd, if_pos (Or.inr d)] at ref
          obtain ⟨g', G, J⟩ := ref C2 fr2
          rw [if_neg (show ¬ bI v.2.2 = 0 by rw [d]; decide)]
          exact ⟨_, h2, g', rfl, G, J⟩
        · have d' : v.2.2 = false := by simpa using d
          rw [dd, if_neg (fun z => z.elim c d)] at ref
          rw [if_pos (show bI v.2.2 = 0 by rw [d']; rfl), F_turnOver R2 k2]
          simp only [Option.bind_some]
          have ki := qinv_ok k2
          have C3 := C2.fr hm (a := S + 58) (Or.inr rfl) (r := qinv (.ok v))
          have R3 : FR (hup h2 (S + 58) (frE (qinv (.ok v)))) (S + 58) (qinv (.ok v)) := hup_s
          have R1'' : FR (hup h2 (S + 58) (frE (qinv (.ok v)))) (S + 57) (.ok x) := (hup_n (by omega)).trans R1'
          have fr3 : ∀ c, S + 59 ≤ c → (hup h2 (S + 58) (frE (qinv (.ok v)))) c = h c := fun c hc => by rw [hup_n (by omega), fr2 c hc]
          generalize hup h2 (S + 58) (frE (qinv (.ok v))) = h3 at *
          obtain ⟨-, -, -, -, -, -, -, d7, d8, -⟩ := C3.a
          rw [d7, d8]
          simp only [Option.bind_some]
          rw [F_multiply R1'' R3 k1 ki]
          simp only [Option.bind_some]
          have kp := qmul_ok k1 ki
          have C4 := C3.fr hm (a := S + 57) (Or.inl rfl) (r := qmul (.ok x) (qinv (.ok v)))
          have R4 : FR (hup h3 (S + 57) (frE (qmul (.ok x) (qinv (.ok v))))) (S + 57) (qmul (.ok x) (qinv (.ok v))) := hup_s
          have fr4 : ∀ c, S + 59 ≤ c → (hup h3 (S + 57) (frE (qmul (.ok x) (qinv (.ok v))))) c = h c := fun c hc => by rw [hup_n (by omega), fr3 c hc]
          generalize hup h3 (S + 57) (frE (qmul (.ok x) (qinv (.ok v)))) = h4 at *
          obtain ⟨-, -, -, -, -, -, -, e7, -⟩ := C4.a
          obtain ⟨g', G, J⟩ := ref C4 fr4
          rw [e7]
          simp only [Option.bind_some]
          cases hq : qmul (.ok x) (qinv (.ok v)) with
          | error e =>
            rw [hq] at R4 kp G
            obtain ⟨-, -, -, z4, -⟩ := fo_g (fr_err R4)
            rw [z4]
            simp only [Option.bind_some]
            rw [if_neg (err_ne kp)]
            exact ⟨_, h4, g', rfl, G, J⟩
          | ok y =>
            rw [hq] at R4 kp G
            obtain ⟨y0, y1, -, z4, -⟩ := fo_g (fr_ok R4)
            rw [z4, y0, y1]
            simp only [Option.bind_some]
            rw [if_pos trivial]
            rcases (by omega : j = 0 ∨ j = 1) with rfl | rfl
            · exact ⟨lN y.1, h4, g', rfl, G, J⟩
            · exact ⟨lN y.2.1, h4, g', rfl, G, J⟩
