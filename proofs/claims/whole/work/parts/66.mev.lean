/-! ===== the reference: words with parts ===== -/
def EvOK (m base n w : Nat) (p b W M : Nat → Nat) (R : Nat → Nat → Nat → QR) (i d sz : Nat) : Prop := ∀ (f a z set : Nat) (h : Hp) (s : St), f + d ≤ 8 → a < 8 → z < 8 → set < 32 → MX h m base n p b W M s → Fr base s f i a z set → s.2.1 4 f = (if W i = 11 then nI a else nI 0) → ∃ c h' s', c ≤ 4 * sz * max 1 (far a z) ∧ MX h' m base n p b W M s' ∧ Sq f h s h' s' m ∧ Fin m f (nI w) 0 (R a z set) c h h' s'
theorem Fin.pre {m f c : Nat} {w came x : Int32} {R : QR} {h h1 h' : Hp} {s' : St} (e : ∀ k, f_M_find_20 m (k + 1) w came h = f_M_find_20 m k w x h1) (H : Fin m f w x R c h1 h' s') : Fin m f w came R (c + 1) h h' s' := by
  refine ⟨fun q hq => ?_, fun x hx k => ?_⟩
  · obtain ⟨a, b, g⟩ := H.1 q hq
    exact ⟨a, b, fun k => by rw [← Nat.add_assoc, e, g]⟩
  · rw [← Nat.add_assoc, e, H.2 x hx]
theorem Fin.two {m f g c1 c2 : Nat} {w came : Int32} {q : Nat × Nat × Bool} {R : QR} {h h1 h' : Hp} {s1 s' : St} (A : Fin m g w came (.ok q) c1 h h1 s1) (B : Fin m f w 1 R c2 h1 h' s') : Fin m f w came R (c2 + c1) h h' s' := by
  obtain ⟨-, -, e⟩ := A.1 q rfl
  refine ⟨fun q hq => ?_, fun x hx k => ?_⟩
  · obtain ⟨a, b, g⟩ := B.1 q hq
    exact ⟨a, b, fun k => by rw [← Nat.add_assoc, e, g]⟩
  · rw [← Nat.add_assoc, e, B.2 x hx]
theorem Fin.err {m f g c : Nat} {w came e : Int32} {h h1 : Hp} {s1 : St} (A : Fin m g w came (.error e) c h h1 s1) : Fin m f w came (.error e) c h h1 s1 := ⟨fun q hq => (by cases hq), A.2⟩
section
variable {h : Hp} {m base n w : Nat} {p b W M : Nat → Nat} {s : St}
/-- a piece of work that ends with a push -/
theorem M_pushed (H : MX h m base n p b W M s) {f i a z set : Nat} (hf : f + 1 < 8) (h26 : s.1 26 = .int (nI (f + 1))) (h27 : s.1 27 = .int 0) (hi : i < n) (hW : W i < 13) : ∃ h' s', f_M_push m (nI (base + i)) (nI a) (nI z) (nI set) h = some h' ∧ MX h' m base n p b W M s' ∧ Sq (f + 1) h s h' s' m ∧ Fr base s' (f + 1) i a z set ∧ s'.2.1 4 (f + 1) = (if W i = 11 then nI a else nI 0) ∧ s'.1 27 = .int 0 := by
  obtain ⟨h', s', A1, A2, A3, A4, B0, B1, B2, B3, B4⟩ := M_push (a := a) (z := z) (set := set) H hf h26 hi hW
  exact ⟨h', s', A1, A2, A3, ⟨by rw [A4, fset_s], B0, B1, B2, B3⟩, B4, by rw [A4, fset_n (by decide)]; exact h27⟩
theorem M_460 (H : MX h m base n p b W M s) {f i j a z set : Nat} (hf : f + 1 < 8) (fr : Fr base s f j a z set) (h27 : s.1 27 = .int 0) (hi : i < n) (hW : W i < 13) : ∃ h' s', f_M_work_460 m (nI (base + i)) (nI f) (nI a) (nI z) h = some (0, h') ∧ MX h' m base n p b W M s' ∧ Sq (f + 1) h s h' s' m ∧ Fr base s' (f + 1) i a z set ∧ s'.2.1 4 (f + 1) = (if W i = 11 then nI a else nI 0) ∧ s'.1 27 = .int 0 := by
  obtain ⟨h', s', A1, A2, A3, A4, A5, A6⟩ := M_pushed (a := a) (z := z) (set := set) H hf fr.1 h27 hi hW
  refine ⟨h', s', ?_, A2, A3, A4, A5, A6⟩
  unfold f_M_work_460
  rw [show gA h m 8 21 = some (some (m + 8 + 3)) from H.r (k := 3) (by decide)]
  simp only [Option.bind_some]
  rw [H.gi (by decide) (by omega), fr.2.2.2.2]
  simp only [Option.bind_some]
  rw [A1]
  rfl
theorem M_two {R1 R2 : Nat → Nat → Nat → QR} {i d s1 s2 : Nat} (hi : i < n) (hW : 6 ≤ W i) (hW2 : W i < 10) (hi1 : i + 1 < n) (hi2 : M i < n) (hV1 : W (i + 1) < 13) (hV2 : W (M i) < 13) (hd : 0 < d) (o1 : EvOK m base n w p b W M R1 (i + 1) d s1) (o2 : EvOK m base n w p b W M R2 (M i) d s2) (k1 : ∀ a b s, qok (R1 a b s)) (k2 : ∀ a b s, qok (R2 a b s)) : EvOK m base n w p b W M (fun a z set => match R1 a z set with | .error e => .error e | .ok r => match R2 a z set with | .error e => .error e | .ok t => pair (W i) r t) i (d + 1) (1 + s1 + s2) := by
  intro f a z set h s hf ha hz hs H fr i4
  dsimp only
  have kk1 := k1 a z set
  have kk2 := k2 a z set
  have n11 : ¬ nI (W i) = (11 : Int32) := fun x => by have := (nI_eq (by omega) (by decide)).mp (show nI (W i) = nI 11 from x); omega
  have g6 : (6 : Int32) ≤ nI (W i) := nI_le (a := 6) hW (by omega)
  have one0 : f_M_isOne (nI (W i)) = some 0 := by rw [M_isOne (by omega), if_neg (by omega)]
  rw [if_neg (show ¬ W i = 11 by omega)] at i4
  -- the first part is pushed
  obtain ⟨e1, H1, S1⟩ := H.fld (k := 27) (Or.inr rfl) 0
  have fr1 : Fr base (fset s.1 27 (.int 0), s.2) f i a z set := ⟨fr.1, fr.2⟩
  obtain ⟨g1, t1, E1, H2, S2, fr2, x4, x27⟩ := M_460 (i := i + 1) H1 (by omega) fr1 rfl hi1 hV1
  have wk1 : f_M_work m (nI w) 0 h = some (0, g1) := by
    rw [M_work_head H (by omega) hi fr, if_pos g6, if_neg n11, if_pos rfl]
    unfold f_M_work_275 f_M_work_276
    rw [show zB (0 : Int32) = some 0 from rfl, Option.bind_some, e1, Option.bind_some, H1.g27 (x := 0) rfl, Option.bind_some, if_pos rfl, one0, Option.bind_some, if_pos rfl, if_pos rfl]
    unfold f_M_work_441
    rw [if_pos rfl, nI_1, Nat.add_assoc]
    exact E1
  have st1 : ∀ k, f_M_find_20 m (k + 1) (nI w) 0 h = f_M_find_20 m k (nI w) 0 g1 := fun k => M_find_ok H fr.1 (by omega) wk1 (by decide) (H2.g27 x27)
  obtain ⟨c1, g2, t2, b1, H3, S3, F3⟩ := o1 (f + 1) a z set g1 t1 (by omega) ha hz hs H2 fr2 x4
  have mx1 : 1 ≤ max 1 (far a z) := Nat.le_max_left _ _
  have ex : 4 * (1 + s1 + s2) * max 1 (far a z) = 4 * max 1 (far a z) + 4 * s1 * max 1 (far a z) + 4 * s2 * max 1 (far a z) := by
    rw [Nat.mul_add, Nat.mul_add, Nat.mul_one, Nat.add_mul, Nat.add_mul]
  have SS : Sq (f + 1) h s g2 t2 m := ((S1 (f + 1)).trans S2).trans S3
  cases hr : R1 a z set with
  | error e =>
    rw [hr] at F3
    exact ⟨c1 + 1, g2, t2, by omega, H3, SS.weak (by omega), Fin.pre st1 F3.err⟩
  | ok q1 =>
    rw [hr] at F3 kk1
    obtain ⟨y26, hq1, -⟩ := F3.1 q1 rfl
    have fr3 : Fr base t2 f i a z set := fr.keep SS (by omega) y26
    have z4 : t2.2.1 4 f = nI 0 := by rw [SS.2.1.1 4 f (by decide) (by omega)]; exact i4
    -- the second is pushed
    obtain ⟨e4, H4, S4⟩ := H3.fld (k := 27) (Or.inr rfl) 0
    have hq1' : hnd (fset t2.1 27 (.int 0)) q1 := ⟨by rw [fset_n (by decide)]; exact hq1.1, by rw [fset_n (by decide)]; exact hq1.2.1, by rw [fset_n (by decide)]; exact hq1.2.2⟩
    obtain ⟨g5, t5, E5, H5, S5, u5, v5, hs5⟩ := M_hold H4 (f := f) (by omega) hq1'
    obtain ⟨e6, E6, H6, S6⟩ := H5.int (k := 4) (j := f) (by decide) (by omega) 1
    have fr6 : Fr base (t5.1, iset t5.2.1 4 (upd (t5.2.1 4) f 1), t5.2.2) f i a z set := by
      refine ⟨?_, ?_, ?_, ?_, ?_⟩
      · show t5.1 26 = _
        rw [u5]; exact y26
      all_goals (dsimp only; rw [iset_n (by decide), v5])
      · exact fr3.2.1
      · exact fr3.2.2.1
      · exact fr3.2.2.2.1
      · exact fr3.2.2.2.2
    have z27 : (t5.1, iset t5.2.1 4 (upd (t5.2.1 4) f 1), t5.2.2).1 27 = .int 0 := by
      show t5.1 27 = _
      rw [u5]; rfl
    obtain ⟨g7, t7, E7, H7, S7, fr7, w4, w27⟩ := M_460 (i := M i) H6 (by omega) fr6 z27 hi2 hV2
    have wk2 : f_M_work m (nI w) 1 g2 = some (0, g7) := by
      rw [M_work_head H3 (by omega) hi fr3, if_pos g6, if_neg n11, if_neg (by decide), one0, Option.bind_some, if_pos rfl, z4, if_neg (by decide)]
      unfold f_M_work_275 f_M_work_276
      rw [show zB (0 : Int32) = some 0 from rfl, Option.bind_some, e4, Option.bind_some, H4.g27 (x := 0) rfl, Option.bind_some, if_pos rfl, one0, Option.bind_some, if_pos rfl, if_neg (by decide), E5, Option.bind_some, show gA g5 m 8 22 = some (some (m + 8 + 4)) from H5.r (k := 4) (by decide), Option.bind_some, Option.bind_some, E6, Option.bind_some]
      unfold f_M_work_441
      rw [if_neg (by decide), H6.r4]
      simp only [Option.bind_some]
      rw [H6.mw hi ⟨hW, hW2⟩]
      exact E7
    have st2 : ∀ k, f_M_find_20 m (k + 1) (nI w) 1 g2 = f_M_find_20 m k (nI w) 0 g7 := fun k => M_find_ok H3 fr3.1 (by omega) wk2 (by decide) (H7.g27 w27)
    obtain ⟨c2, g8, t8, b2, H8, S8, F8⟩ := o2 (f + 1) a z set g7 t7 (by omega) ha hz hs H7 fr7 w4
    have SA : Sq f g2 t2 g7 t7 m := (((S4 f).trans S5).trans S6).trans (S7.weak (by omega))
    have SB : Sq f h s g8 t8 m := ((SS.weak (by omega)).trans SA).trans (S8.weak (by omega))
    cases hq : R2 a z set with
    | error e =>
      rw [hq] at F8
      exact ⟨(c2 + 1) + c1 + 1, g8, t8, by omega, H8, SB, Fin.pre st1 (Fin.two F3 (Fin.pre st2 F8.err))⟩
    | ok q2 =>
      rw [hq] at F8 kk2
      obtain ⟨w26, hq2, -⟩ := F8.1 q2 rfl
      have S78 : Sq (f + 1) _ _ g8 t8 m := S7.trans S8
      have fr8 : Fr base t8 f i a z set := fr6.keep S78 (by omega) w26
      have v4 : t8.2.1 4 f = 1 := by
        rw [S78.2.1.1 4 f (by decide) (by omega)]
        simp [iset, pk_us]
      have hs8 : has t8 f q1 := ⟨by rw [S78.2.1.2.1 0 f (by decide) (by omega)]; exact hs5.1, by rw [S78.2.1.2.1 1 f (by decide) (by omega)]; exact hs5.2.1, by rw [S78.2.1.2.2 f (by omega)]; exact hs5.2.2⟩
      obtain ⟨e9, H9, S9⟩ := H8.fld (k := 27) (Or.inr rfl) 1
      obtain ⟨e10, H10, S10⟩ := H9.fld (k := 26) (Or.inl rfl) (nI f)
      have hq3 : hnd (fset (fset t8.1 27 (.int 1)) 26 (.int (nI f))) q2 := ⟨by rw [fset_n (by decide), fset_n (by decide)]; exact hq2.1, by rw [fset_n (by decide), fset_n (by decide)]; exact hq2.2.1, by rw [fset_n (by decide), fset_n (by decide)]; exact hq2.2.2⟩
      have jn := M_join H10 hi hW hW2 (f := f) (by omega) fr8.2.1 hq3 hs8 kk1 kk2
      have wk3 : JN (f_M_work m (nI w) 1 g8) g8 m (fset (fset t8.1 27 (.int 1)) 26 (.int (nI f))) (pair (W i) q1 q2) := by
        rw [M_work_head H8 (by omega) hi fr8, if_pos g6, if_neg n11, if_neg (by decide), one0, Option.bind_some, if_pos rfl, v4, if_pos rfl]
        unfold f_M_work_271 f_M_work_276
        rw [show zB (1 : Int32) = some 1 from rfl, Option.bind_some, e9, Option.bind_some, H9.g27 (x := 1) rfl, Option.bind_some, if_neg (by decide), H9.g26 (f := f + 1) w26, Option.bind_some, nI_pred, e10, Option.bind_some]
        have n12 : ¬ nI (W i) = (12 : Int32) := fun x => by have := (nI_eq (by omega) (by decide)).mp (show nI (W i) = nI 12 from x); omega
        have n10 : ¬ nI (W i) = (10 : Int32) := fun x => by have := (nI_eq (by omega) (by decide)).mp (show nI (W i) = nI 10 from x); omega
        rw [if_neg n12, if_neg n10]
        have := JN.zb jn
        obtain ⟨F', G1, G2⟩ := this
        exact ⟨F', by rw [G1, hup_u, hup_u], G2⟩
      obtain ⟨g11, t11, H11, S11, F11⟩ := M_last H8 fr8.1 (by omega) (pair_ok kk1 kk2) wk3 (fun k a b c d e g => by rw [fset_n e, fset_n g]) (by rw [fset_s]) (by rw [fset_n (by decide), fset_s])
      refine ⟨(1 + c2 + 1) + c1 + 1, g11, t11, by omega, H11, SB.trans S11, ?_⟩
      exact Fin.pre st1 (Fin.two F3 (Fin.pre st2 (Fin.two F8 F11)))
end
