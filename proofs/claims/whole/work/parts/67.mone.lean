/-! ===== the reference: words without parts, back, both ===== -/
section
variable {h : Hp} {m base n w : Nat} {p b W M : Nat → Nat} {s : St}
theorem MH.of {F : Nat → Value} {q : Nat × Nat × Bool} (z : ∃ z : Int32, F 17 = .int z) (e : hnd F q) : MH F F (.ok q) := ⟨fun _ _ _ _ _ => rfl, z, ⟨q.1, q.2.1, q.2.2, e⟩, fun r hr => by cases hr; exact e⟩
theorem hnd.set {F : Nat → Value} {q : Nat × Nat × Bool} {k : Nat} {v : Value} (e : hnd F q) (hk : k = 26 ∨ k = 27) : hnd (fset F k v) q :=
  ⟨by rw [fset_n (by omega)]; exact e.1, by rw [fset_n (by omega)]; exact e.2.1, by rw [fset_n (by omega)]; exact e.2.2⟩
theorem M_lf {i d : Nat} (hi : i < n) (hW : W i < 6) (hM : W i = 3 → M i < 8) (hw : w < 4) : EvOK m base n w p b W M (fun a z set => lfq p (bam b w) (W i) (M i) a z set) i (d + 1) 1 := by
  intro f a z set h s hf ha hz hs H fr i4
  dsimp only
  obtain ⟨e1, H1, S1⟩ := H.fld (k := 26) (Or.inl rfl) (nI f)
  obtain ⟨e2, H2, S2⟩ := H1.fld (k := 27) (Or.inr rfl) 1
  have lf := M_leaf H2.2.2.2.2.1 H2.1 H2.2.1 H2.2.2.1 H2.2.2.2.2.2.1 hi hW hM hw (show a < 10 by omega) (show z < 10 by omega) hs
  have wk : JN (f_M_work m (nI w) 0 h) h m (fset (fset s.1 26 (.int (nI f))) 27 (.int 1)) (lfq p (bam b w) (W i) (M i) a z set) := by
    rw [M_work_head H (by omega) hi fr, if_neg (show ¬ (6 : Int32) ≤ nI (W i) from nI_ge (b := 6) hW (by decide)), e1, Option.bind_some, e2, Option.bind_some, show gA _ m 8 21 = some (some (m + 8 + 3)) from H2.r (k := 3) (by decide), Option.bind_some, Option.bind_some, H2.gi (by decide) (by omega)]
    dsimp only
    rw [fr.2.2.2.2, Option.bind_some]
    obtain ⟨F', G1, G2⟩ := MHand.zb lf
    exact ⟨F', by rw [G1, hup_u, hup_u], G2.mh H2.2.2.2.1⟩
  obtain ⟨h', s', A1, A2, A3⟩ := M_last H fr.1 (by omega) (lfq_ok _ _ _ _ _ _ _) wk (fun k a b c d e g => by rw [fset_n g, fset_n e]) (by rw [fset_n (by decide), fset_s]) (by rw [fset_s])
  have mx1 : 1 ≤ max 1 (far a z) := Nat.le_max_left _ _
  exact ⟨1, h', s', by omega, A1, A2, A3⟩
theorem far_comm (a z : Nat) : far a z = far z a := by unfold far; omega
theorem qinv_mk {q : Nat × Nat × Bool} (k : qok (.ok q)) (h0 : q.1 ≠ 0) : qmk q.2.1 q.1 q.2.2 = qinv (.ok q) := by
  unfold qinv
  dsimp only
  rw [if_neg h0, qmk_red (by rw [Nat.gcd_comm]; exact k.1), if_pos ⟨k.2.2.2, k.2.2.1⟩]
/-- a word with one E that is worked out once: R of a' z' set' -/
theorem M_one1 {R : Nat → Nat → Nat → QR} {i d s1 : Nat} (hi : i < n) (hc : W i = 10 ∨ W i = 12) (hi1 : i + 1 < n) (hV1 : W (i + 1) < 13) (hd : 0 < d) (o1 : EvOK m base n w p b W M R (i + 1) d s1) (k1 : ∀ a b s, qok (R a b s)) : EvOK m base n w p b W M (fun a z set => if W i = 10 then qinv (R z a set) else R a z (set &&& (pmk fun g => p (a * 5 + g)) &&& (pmk fun g => p (z * 5 + g)))) i (d + 1) (1 + s1) := by
  intro f a z set h s hf ha hz hs H fr i4
  dsimp only
  have n11 : ¬ nI (W i) = (11 : Int32) := fun x => by have := (nI_eq (by omega) (by decide)).mp (show nI (W i) = nI 11 from x); omega
  have g6 : (6 : Int32) ≤ nI (W i) := nI_le (a := 6) (by omega) (by omega)
  have one1 : f_M_isOne (nI (W i)) = some 1 := by rw [M_isOne (by omega), if_pos (by omega)]
  have mx1 : 1 ≤ max 1 (far a z) := Nat.le_max_left _ _
  have ex : 4 * (1 + s1) * max 1 (far a z) = 4 * max 1 (far a z) + 4 * s1 * max 1 (far a z) := by
    rw [Nat.mul_add, Nat.mul_one, Nat.add_mul]
  obtain ⟨e1, H1, S1⟩ := H.fld (k := 27) (Or.inr rfl) 0
  rcases hc with c | c
  · rw [if_pos c]
    obtain ⟨g1, t1, E1, H2, S2, fr2, x4, x27⟩ := M_pushed (i := i + 1) (a := z) (z := a) (set := set) (f := f) H1 (by omega) fr.1 rfl hi1 hV1
    have wk1 : f_M_work m (nI w) 0 h = some (0, g1) := by
      rw [M_work_head H (by omega) hi fr, if_pos g6, if_neg n11, if_pos rfl]
      unfold f_M_work_275 f_M_work_276
      rw [show zB (0 : Int32) = some 0 from rfl, Option.bind_some, e1, Option.bind_some, H1.g27 (x := 0) rfl, Option.bind_some, if_pos rfl, one1, Option.bind_some, if_neg (by decide), if_neg (show ¬ nI (W i) = (12 : Int32) by rw [c]; decide), show gA _ m 8 21 = some (some (m + 8 + 3)) from H1.r (k := 3) (by decide), Option.bind_some, Option.bind_some, H1.gi (by decide) (by omega)]
      dsimp only
      rw [fr.2.2.2.2, Option.bind_some]
      unfold f_M_work_383 f_M_work_404 f_M_work_418
      rw [if_pos (show nI (W i) = (10 : Int32) by rw [c]; rfl), if_pos (show nI (W i) = (10 : Int32) by rw [c]; rfl), nI_1, Nat.add_assoc, E1]
      rfl
    have st1 : ∀ k, f_M_find_20 m (k + 1) (nI w) 0 h = f_M_find_20 m k (nI w) 0 g1 := fun k => M_find_ok H fr.1 (by omega) wk1 (by decide) (H2.g27 x27)
    obtain ⟨c1, g2, t2, b1, H3, S3, F3⟩ := o1 (f + 1) z a set g1 t1 (by omega) hz ha hs H2 fr2 x4
    rw [far_comm z a] at b1
    have SS : Sq (f + 1) h s g2 t2 m := ((S1 (f + 1)).trans S2).trans S3
    have kk1 := k1 z a set
    cases hr : R z a set with
    | error e =>
      rw [hr] at F3
      exact ⟨c1 + 1, g2, t2, by omega, H3, SS.weak (by omega), Fin.pre st1 F3.err⟩
    | ok q1 =>
      rw [hr] at F3 kk1
      obtain ⟨y26, hq1, -⟩ := F3.1 q1 rfl
      have fr3 : Fr base t2 f i a z set := fr.keep SS (by omega) y26
      obtain ⟨e9, H9, S9⟩ := H3.fld (k := 27) (Or.inr rfl) 1
      obtain ⟨e10, H10, S10⟩ := H9.fld (k := 26) (Or.inl rfl) (nI f)
      have hq3 : hnd (fset (fset t2.1 27 (.int 1)) 26 (.int (nI f))) q1 := (hq1.set (Or.inr rfl)).set (Or.inl rfl)
      have tk : MHand (f_M_take m (lN q1.2.1) (lN q1.1) (bI q1.2.2) (hup (hup g2 m (ocell 8 40 (fset t2.1 27 (.int 1)))) m (ocell 8 40 (fset (fset t2.1 27 (.int 1)) 26 (.int (nI f)))))) (hup (hup g2 m (ocell 8 40 (fset t2.1 27 (.int 1)))) m (ocell 8 40 (fset (fset t2.1 27 (.int 1)) 26 (.int (nI f))))) m (fset (fset t2.1 27 (.int 1)) 26 (.int (nI f))) (qinv (.ok q1)) := by
        by_cases h0 : q1.1 = 0
        · rw [show lN q1.1 = (0 : Int64) by rw [h0]; rfl, M_take0 H10.1, show qinv (.ok q1) = .error eNOT by unfold qinv; dsimp only; rw [if_pos h0]]
          exact MHand.same H10.1 H10.2.2.1
        · have := M_take (t := q1.2.2) (u := q1.2.1) (l := q1.1) H10.1 (by omega) (qok_b kk1).2.1 (qok_b kk1).1
          rw [qinv_mk kk1 h0] at this
          exact this
      have wk3 : JN (f_M_work m (nI w) 1 g2) g2 m (fset (fset t2.1 27 (.int 1)) 26 (.int (nI f))) (qinv (.ok q1)) := by
        rw [M_work_head H3 (by omega) hi fr3, if_pos g6, if_neg n11, if_neg (by decide), one1, Option.bind_some, if_neg (by decide)]
        unfold f_M_work_271 f_M_work_276
        rw [show zB (1 : Int32) = some 1 from rfl, Option.bind_some, e9, Option.bind_some, H9.g27 (x := 1) rfl, Option.bind_some, if_neg (by decide), H9.g26 (f := f + 1) y26, Option.bind_some, nI_pred, e10, Option.bind_some, if_neg (show ¬ nI (W i) = (12 : Int32) by rw [c]; decide), if_pos (show nI (W i) = (10 : Int32) by rw [c]; rfl), H10.h15 hq3, Option.bind_some, H10.h14 hq3, Option.bind_some, H10.h16 hq3, Option.bind_some]
        obtain ⟨F', G1, G2⟩ := MHand.zb tk
        exact ⟨F', by rw [G1, hup_u, hup_u], G2.mh H10.2.2.2.1⟩
      obtain ⟨g11, t11, H11, S11, F11⟩ := M_last H3 fr3.1 (by omega) (qinv_ok kk1) wk3 (fun k a b c d e g => by rw [fset_n e, fset_n g]) (by rw [fset_s]) (by rw [fset_n (by decide), fset_s])
      exact ⟨1 + c1 + 1, g11, t11, by omega, H11, (SS.weak (by omega)).trans S11, Fin.pre st1 (Fin.two F3 F11)⟩
  · rw [if_neg (show ¬ W i = 10 by omega)]
    obtain ⟨g1, t1, E1, H2, S2, fr2, x4, x27⟩ := M_pushed (i := i + 1) (a := a) (z := z) (set := set &&& (pmk fun g => p (a * 5 + g)) &&& (pmk fun g => p (z * 5 + g))) (f := f) H1 (by omega) fr.1 rfl hi1 hV1
    have wk1 : f_M_work m (nI w) 0 h = some (0, g1) := by
      rw [M_work_head H (by omega) hi fr, if_pos g6, if_neg n11, if_pos rfl]
      unfold f_M_work_275 f_M_work_276
      rw [show zB (0 : Int32) = some 0 from rfl, Option.bind_some, e1, Option.bind_some, H1.g27 (x := 0) rfl, Option.bind_some, if_pos rfl, one1, Option.bind_some, if_neg (by decide), if_pos (show nI (W i) = (12 : Int32) by rw [c]; rfl), show gA _ m 8 21 = some (some (m + 8 + 3)) from H1.r (k := 3) (by decide), Option.bind_some, Option.bind_some, H1.gi (by decide) (by omega)]
      dsimp only
      rw [fr.2.2.2.2, Option.bind_some, M_priced H1.2.2.2.2.1 (by omega), Option.bind_some, M_priced H1.2.2.2.2.1 (by omega), Option.bind_some, n_and, n_and]
      unfold f_M_work_383 f_M_work_404 f_M_work_418
      rw [if_neg (show ¬ nI (W i) = (10 : Int32) by rw [c]; decide), if_neg (show ¬ nI (W i) = (10 : Int32) by rw [c]; decide), nI_1, Nat.add_assoc, E1]
      rfl
    have st1 : ∀ k, f_M_find_20 m (k + 1) (nI w) 0 h = f_M_find_20 m k (nI w) 0 g1 := fun k => M_find_ok H fr.1 (by omega) wk1 (by decide) (H2.g27 x27)
    obtain ⟨c1, g2, t2, b1, H3, S3, F3⟩ := o1 (f + 1) a z _ g1 t1 (by omega) ha hz (and_lt (and_lt hs)) H2 fr2 x4
    have SS : Sq (f + 1) h s g2 t2 m := ((S1 (f + 1)).trans S2).trans S3
    have kk1 := k1 a z (set &&& (pmk fun g => p (a * 5 + g)) &&& (pmk fun g => p (z * 5 + g)))
    cases hr : R a z (set &&& (pmk fun g => p (a * 5 + g)) &&& (pmk fun g => p (z * 5 + g))) with
    | error e =>
      rw [hr] at F3
      exact ⟨c1 + 1, g2, t2, by omega, H3, SS.weak (by omega), Fin.pre st1 F3.err⟩
    | ok q1 =>
      rw [hr] at F3 kk1
      obtain ⟨y26, hq1, -⟩ := F3.1 q1 rfl
      have fr3 : Fr base t2 f i a z set := fr.keep SS (by omega) y26
      obtain ⟨e9, H9, S9⟩ := H3.fld (k := 27) (Or.inr rfl) 1
      obtain ⟨e10, H10, S10⟩ := H9.fld (k := 26) (Or.inl rfl) (nI f)
      have hq3 : hnd (fset (fset t2.1 27 (.int 1)) 26 (.int (nI f))) q1 := (hq1.set (Or.inr rfl)).set (Or.inl rfl)
      have wk3 : JN (f_M_work m (nI w) 1 g2) g2 m (fset (fset t2.1 27 (.int 1)) 26 (.int (nI f))) (.ok q1) := by
        rw [M_work_head H3 (by omega) hi fr3, if_pos g6, if_neg n11, if_neg (by decide), one1, Option.bind_some, if_neg (by decide)]
        unfold f_M_work_271 f_M_work_276
        rw [show zB (1 : Int32) = some 1 from rfl, Option.bind_some, e9, Option.bind_some, H9.g27 (x := 1) rfl, Option.bind_some, if_neg (by decide), H9.g26 (f := f + 1) y26, Option.bind_some, nI_pred, e10, Option.bind_some, if_pos (show nI (W i) = (12 : Int32) by rw [c]; rfl)]
        exact ⟨_, by rw [hup_u]; rfl, MH.of H10.2.2.2.1 hq3⟩
      obtain ⟨g11, t11, H11, S11, F11⟩ := M_last H3 fr3.1 (by omega) kk1 wk3 (fun k a b c d e g => by rw [fset_n e, fset_n g]) (by rw [fset_s]) (by rw [fset_n (by decide), fset_s])
      exact ⟨1 + c1 + 1, g11, t11, by omega, H11, (SS.weak (by omega)).trans S11, Fin.pre st1 (Fin.two F3 F11)⟩
end
