/-! ===== the reference: reading every E ===== -/
theorem cls_next {m base c c' fuel o : Nat} {h h' : Hp} (E : f_M_close_13 m c (nI base) 1 h = f_M_close_13 m c' (nI base) (bI (decide (0 < o))) h') : CLS m base c fuel (o + 1) h = CLS m base c' fuel o h' := by
  unfold CLS
  rw [decide_eq_true (Nat.succ_pos o), show bI true = 1 from rfl, E]
theorem M_term {m len base : Nat} {tx : Nat → Nat} (hb : base + 20 ≤ 320) : ∀ (d o i n : Nat) (W M : Nat → Nat) (h : Hp) (F : Nat → Value) (t : Pt), o + d = 8 → MP h m F tx len i o n t → 3 * n ≤ i → (∀ r, pz tx len d i n W M = .ok r → ∃ h', NOk h' m base d o n F h tx len t r) ∧ ∀ e, pz tx len d i n W M = .error e → NErr m base d F h tx len t e := by
  intro d
  induction d with
  | zero =>
    intro o i n W M h F t ho H hn
    unfold pz
    cases hw : wd tx (sk tx len i) (lt tx len (sk tx len i)) with
    | none => exact ⟨fun r hr => (by cases hr), fun e he => (by cases he; exact NErr.flt (M_wordF H 1 (Or.inl ⟨hw, rfl⟩)))⟩
    | some k => exact ⟨fun r hr => (by cases hr), fun e he => (by cases he; exact NErr.flt (M_wordF H 2 (Or.inr ⟨⟨k, hw⟩, by omega, rfl⟩)))⟩
  | succ d ih =>
    intro o i n W M h F t ho H hn
    have l60 := H.1.2.2.2.2.2.1
    have s0 := sk_ge (tx := tx) (len := len) (len - i) i (Nat.le_refl _)
    have l0 := lt_le (tx := tx) (len := len) (len - sk tx len i) (sk tx len i) (Nat.le_refl _)
    unfold pz
    cases hw : wd tx (sk tx len i) (lt tx len (sk tx len i)) with
    | none => exact ⟨fun r hr => (by cases hr), fun e he => (by cases he; exact NErr.flt (M_wordF H 1 (Or.inl ⟨hw, rfl⟩)))⟩
    | some k =>
      obtain ⟨k13, -, t2, t5, t3⟩ := wd_some hw
      have n20 : n < 20 := by omega
      have hbn : base + n < 320 := by omega
      dsimp only
      by_cases k3 : k = 3
      · rw [if_pos k3]
        have A := M_nodeA (base := base) H (by omega) hbn hw k3 rfl
        by_cases g : sk tx len (sk tx len i + lt tx len (sk tx len i)) < len ∧ 48 ≤ tx (sk tx len (sk tx len i + lt tx len (sk tx len i))) ∧ tx (sk tx len (sk tx len i + lt tx len (sk tx len i))) ≤ 55
        · rw [if_pos g]
          obtain ⟨h1, F1, E1, H1, p1, q1, r1⟩ := A.1 g
          refine ⟨fun r hr => ?_, fun e he => (by cases he)⟩
          cases hr
          refine ⟨h1, F1, _, FU, H1, p1, q1, r1, fun j h1 h2 => ?_, fun j hj => ⟨pk_un (by omega), pk_un (by omega)⟩, fun _ _ => ⟨rfl, rfl⟩, by omega, fun fuel => ?_⟩
          · have : j = n := by dsimp only at h2; omega
            subst this
            refine ⟨by dsimp only; rw [pk_us, nup_s], fun _ => by dsimp only; rw [pk_us, nup_s], fun x => ?_⟩
            dsimp only at x
            rw [nup_s] at x
            omega
          · rw [show n + 1 - n = 1 by omega]
            exact it_leaf H1 (by omega) hbn (k := k) pk_us (by omega) E1
        · rw [if_neg g]
          exact ⟨fun r hr => (by cases hr), fun e he => (by cases he; exact NErr.flt (A.2 g))⟩
      · rw [if_neg k3]
        have w3 := t3 k3
        by_cases k6 : k < 6
        · rw [if_pos k6]
          obtain ⟨h1, F1, E1, H1, p1, q1, r1⟩ := M_nodeL (base := base) H (by omega) hbn hw k6 k3
          refine ⟨fun r hr => ?_, fun e he => (by cases he)⟩
          cases hr
          refine ⟨h1, F1, _, FU, H1, p1, q1, r1, fun j h1 h2 => ?_, fun j hj => ⟨pk_un (by omega), rfl⟩, fun _ _ => ⟨rfl, rfl⟩, by omega, fun fuel => ?_⟩
          · have : j = n := by dsimp only at h2; omega
            subst this
            refine ⟨by dsimp only; rw [pk_us, nup_s], fun x => ?_, fun x => ?_⟩
            · dsimp only at x; rw [nup_s] at x; omega
            · dsimp only at x; rw [nup_s] at x; omega
          · rw [show n + 1 - n = 1 by omega]
            exact it_leaf H1 (by omega) hbn pk_us k6 E1
        · rw [if_neg k6]
          have P := M_nodeP (base := base) H (by omega) hbn hw (by omega) rfl
          generalize hi1 : sk tx len i + lt tx len (sk tx len i) = i1 at *
          by_cases k10 : k < 10
          · rw [if_pos k10]
            cases hs1 : sgn tx len 40 i1 with
            | error er => exact ⟨fun r hr => (by cases hr), fun e he => (by cases he; exact NErr.flt ((P.2 k10).2 er hs1))⟩
            | ok i2 =>
              rw [eb_k]
              have so1 := sgn_ok hs1
              obtain ⟨h1, F1, E1, H1, p1, q1, r1⟩ := (P.2 k10).1 i2 hs1
              have I1 := ih (o + 1) i2 (n + 1) (nup W n k) M h1 F1 _ (by omega) H1 (by omega)
              have open1 : ∀ fuel, f_M_number_45 m (fuel + 1) (nI base) 0 1 h = f_M_number_45 m fuel (nI base) 0 1 h1 := fun fuel => it_open H1 (by omega) hbn pk_us (by omega) k13 E1
              cases hp1 : pz tx len d i2 (n + 1) (nup W n k) M with
              | error er =>
                refine ⟨fun r hr => (by cases hr), fun e he => ?_⟩
                cases he
                obtain ⟨a, h2, F2, o2, n2, t2', b1, b2, b3, b4, b5, b6, bk, b7⟩ := I1.2 er hp1
                exact ⟨a + 1, h2, F2, o2, n2, t2', by omega, b2, b3, p1.trans b4, q1.trans b5, b6, fun j hj => ⟨(bk j hj).1.trans (pk_un (by omega)), (bk j hj).2⟩, fun fuel => by rw [show fuel + (a + 1) + 1 = fuel + a + 1 + 1 by omega, open1, b7]⟩
              | ok a =>
                rw [eb_k]
                obtain ⟨a1, a2, a3, a4, a5, a6⟩ := pz_ok _ _ _ _ _ _ hp1
                obtain ⟨h2, F2, u2, c1, H2, p2, q2, r2, V2, K2, O2, hc1, st2⟩ := I1.1 a hp1
                obtain ⟨c1, rfl⟩ : ∃ c', c1 = c' + 1 := ⟨c1 - 1, by unfold FU at hc1; omega⟩
                have ob2 : u2.2.2.1 o = nI (base + n) := (O2 o (by omega)).1.trans pk_us
                have os2 : u2.2.2.2 o = bI false := (O2 o (by omega)).2.trans pk_us
                have kb2 : u2.1 (base + n) = nI k := (K2 (base + n) (by omega)).1.trans pk_us
                have C2 := (M_closeS (c := c1) H2 (by omega) hbn ob2 kb2 (by omega) k13).2.1 k10 os2
                have st2' : ∀ fuel, f_M_number_45 m (fuel + (a.2.1 - (n + 1) + 1)) (nI base) 0 1 h = CLS m base (c1 + 1) fuel (o + 1) h2 := fun fuel => by
                  rw [← Nat.add_assoc, open1, st2]
                cases hs2 : sgn tx len 44 a.1 with
                | error er => exact ⟨fun r hr => (by cases hr), fun e he => (by cases he; exact NErr.cls st2' (by omega) (p1.trans p2) (q1.trans q2) (fun j hj => ⟨(K2 j (by omega)).1.trans (pk_un (by omega)), (K2 j (by omega)).2⟩) (C2.2 er hs2))⟩
                | ok i4 =>
                  rw [eb_k]
                  have so2 := sgn_ok hs2
                  obtain ⟨h3, F3, E3, H3, p3, q3, r3⟩ := C2.1 i4 hs2
                  have st3 : ∀ fuel, f_M_number_45 m (fuel + (a.2.1 - (n + 1) + 1)) (nI base) 0 1 h = f_M_number_45 m fuel (nI base) 0 1 h3 := fun fuel => by
                    rw [st2']
                    unfold CLS
                    rw [decide_eq_true (Nat.succ_pos o), show bI true = 1 from rfl, E3, zb2_s]
                    exact M_98ok H3 (by omega)
                  have I2 := ih (o + 1) i4 a.2.1 a.2.2.1 (nup a.2.2.2 n a.2.1) h3 F3 _ (by omega) H3 (by omega)
                  have p13 := (p1.trans p2).trans p3
                  have q13 := (q1.trans q2).trans q3
                  cases hp2 : pz tx len d i4 a.2.1 a.2.2.1 (nup a.2.2.2 n a.2.1) with
                  | error er =>
                    refine ⟨fun r hr => (by cases hr), fun e he => ?_⟩
                    cases he
                    obtain ⟨x, h4, F4, o4, n4, t4, b1, b2, b3, b4, b5, b6, bk, b7⟩ := I2.2 er hp2
                    exact ⟨x + (a.2.1 - (n + 1) + 1), h4, F4, o4, n4, t4, by omega, b2, b3, p13.trans b4, q13.trans b5, b6, fun j hj => ⟨(bk j hj).1.trans ((K2 j (by omega)).1.trans (pk_un (by omega))), (bk j hj).2.trans ((pk_un (by omega)).trans (K2 j (by omega)).2)⟩, fun fuel => by rw [show fuel + (x + (a.2.1 - (n + 1) + 1)) + 1 = fuel + x + 1 + (a.2.1 - (n + 1) + 1) by omega, st3, b7]⟩
                  | ok q =>
                    rw [eb_k]
                    obtain ⟨c1', c2', c3', c4', c5', c6'⟩ := pz_ok _ _ _ _ _ _ hp2
                    obtain ⟨h4, F4, u4, c2, H4, p4, q4, r4, V4, K4, O4, hc2, st4⟩ := I2.1 q hp2
                    obtain ⟨c2, rfl⟩ : ∃ c', c2 = c' + 1 := ⟨c2 - 1, by unfold FU at hc2; omega⟩
                    have ob4 : u4.2.2.1 o = nI (base + n) := by rw [(O4 o (by omega)).1]; exact ob2
                    have os4 : u4.2.2.2 o = bI true := by rw [(O4 o (by omega)).2]; exact pk_us
                    have kb4 : u4.1 (base + n) = nI k := by rw [(K4 (base + n) (by omega)).1]; exact kb2
                    have C4 := (M_closeS (c := c2) H4 (by omega) hbn ob4 kb4 (by omega) k13).2.2 k10 os4
                    have st4' : ∀ fuel, f_M_number_45 m (fuel + (q.2.1 - (n + 1) + 1)) (nI base) 0 1 h = CLS m base (c2 + 1) fuel (o + 1) h4 := fun fuel => by
                      rw [show fuel + (q.2.1 - (n + 1) + 1) = fuel + (q.2.1 - a.2.1) + (a.2.1 - (n + 1) + 1) by omega, st3, st4]
                    cases hs3 : sgn tx len 41 q.1 with
                    | error er => exact ⟨fun r hr => (by cases hr), fun e he => (by cases he; exact NErr.cls st4' (by omega) (p13.trans p4) (q13.trans q4) (fun j hj => ⟨(K4 j (by omega)).1.trans ((K2 j (by omega)).1.trans (pk_un (by omega))), (K4 j (by omega)).2.trans ((pk_un (by omega)).trans (K2 j (by omega)).2)⟩) (C4.2 er hs3))⟩
                    | ok i6 =>
                      rw [eb_k]
                      refine ⟨fun r hr => ?_, fun e he => (by cases he)⟩
                      cases hr
                      obtain ⟨h5, F5, E5, H5, p5, q5, r5⟩ := C4.1 i6 hs3
                      refine ⟨h5, F5, u4, c2, H5, (p13.trans p4).trans p5, (q13.trans q4).trans q5, by rw [r5, r4, r3, r2, r1], fun j g1 g2 => ?_, fun j hj => ⟨?_, ?_⟩, fun j hj => ⟨?_, ?_⟩, by omega, fun fuel => ?_⟩
                      · dsimp only at g2 ⊢
                        by_cases j1 : j = n
                        · subst j1
                          have wj : q.2.2.1 j = k := by rw [(c5' j (by omega)).1, (a5 j (by omega)).1, nup_s]
                          refine ⟨by rw [wj]; exact kb4, fun x => by rw [wj] at x; omega, fun _ => ?_⟩
                          rw [(K4 (base + j) (by omega)).2, (c5' j (by omega)).2, nup_s]
                          exact pk_us
                        · by_cases j2 : j < a.2.1
                          · have v := V2 j (by omega) j2
                            have wj : q.2.2.1 j = a.2.2.1 j := (c5' j j2).1
                            have mj : q.2.2.2 j = a.2.2.2 j := by rw [(c5' j j2).2, nup_n j1]
                            have k4 := K4 (base + j) (by omega)
                            have m4 : u4.2.1 (base + j) = u2.2.1 (base + j) := by rw [k4.2]; exact pk_un (by omega)
                            rw [wj, mj, m4, k4.1]
                            exact v
                          · exact V4 j (by omega) g2
                      · rw [(K4 j (by omega)).1]
                        show u2.1 j = t.1 j
                        rw [(K2 j (by omega)).1]
                        exact pk_un (by omega)
                      · rw [(K4 j (by omega)).2]
                        show upd u2.2.1 (base + n) _ j = t.2.1 j
                        rw [pk_un (by omega), (K2 j (by omega)).2]
                      · rw [(O4 j (by omega)).1]
                        show u2.2.2.1 j = _
                        rw [(O2 j (by omega)).1]
                        exact pk_un (by omega)
                      · rw [(O4 j (by omega)).2]
                        show upd u2.2.2.2 o _ j = _
                        rw [pk_un (by omega), (O2 j (by omega)).2]
                        exact pk_un (by omega)
                      · dsimp only
                        rw [show q.2.1 - n = q.2.1 - (n + 1) + 1 by omega, st4']
                        exact cls_next E5
          · rw [if_neg k10]
            obtain ⟨h1, F1, E1, H1, p1, q1, r1⟩ := P.1 (by omega)
            have I1 := ih (o + 1) i1 (n + 1) (nup W n k) M h1 F1 _ (by omega) H1 (by omega)
            have open1 : ∀ fuel, f_M_number_45 m (fuel + 1) (nI base) 0 1 h = f_M_number_45 m fuel (nI base) 0 1 h1 := fun fuel => it_open H1 (by omega) hbn pk_us (by omega) k13 E1
            refine ⟨fun r hr => ?_, fun e he => ?_⟩
            · obtain ⟨a1, a2, a3, a4, a5, a6⟩ := pz_ok _ _ _ _ _ _ hr
              obtain ⟨h2, F2, u2, c1, H2, p2, q2, r2, V2, K2, O2, hc1, st2⟩ := I1.1 r hr
              obtain ⟨c1, rfl⟩ : ∃ c', c1 = c' + 1 := ⟨c1 - 1, by unfold FU at hc1; omega⟩
              have ob2 : u2.2.2.1 o = nI (base + n) := (O2 o (by omega)).1.trans pk_us
              have kb2 : u2.1 (base + n) = nI k := (K2 (base + n) (by omega)).1.trans pk_us
              obtain ⟨h3, F3, E3, H3, p3, q3, r3⟩ := (M_closeS (c := c1) H2 (by omega) hbn ob2 kb2 (by omega) k13).1 (by omega)
              refine ⟨h3, F3, u2, c1, H3, (p1.trans p2).trans p3, (q1.trans q2).trans q3, by rw [r3, r2, r1], fun j g1 g2 => ?_, fun j hj => ⟨?_, ?_⟩, fun j hj => ⟨?_, ?_⟩, by omega, fun fuel => ?_⟩
              · by_cases j1 : j = n
                · subst j1
                  have wj : r.2.2.1 j = k := by rw [(a5 j (by omega)).1, nup_s]
                  refine ⟨by rw [wj]; exact kb2, fun x => by rw [wj] at x; omega, fun x => by rw [wj] at x; omega⟩
                · exact V2 j (by omega) g2
              · rw [(K2 j (by omega)).1]; exact pk_un (by omega)
              · rw [(K2 j (by omega)).2]
              · rw [(O2 j (by omega)).1]; exact pk_un (by omega)
              · rw [(O2 j (by omega)).2]; exact pk_un (by omega)
              · rw [show fuel + (r.2.1 - n) = fuel + (r.2.1 - (n + 1)) + 1 by omega, open1, st2]
                exact cls_next E3
            · obtain ⟨a, h2, F2, o2, n2, t2', b1, b2, b3, b4, b5, b6, bk, b7⟩ := I1.2 e he
              exact ⟨a + 1, h2, F2, o2, n2, t2', by omega, b2, b3, p1.trans b4, q1.trans b5, b6, fun j hj => ⟨(bk j hj).1.trans (pk_un (by omega)), (bk j hj).2⟩, fun fuel => by rw [show fuel + (a + 1) + 1 = fuel + a + 1 + 1 by omega, open1, b7]⟩
