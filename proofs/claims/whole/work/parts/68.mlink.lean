/-! ===== the reference: link ===== -/
def Dr (up : Bool) (a y k z : Nat) : Prop := if up then a ≤ y ∧ y + 1 + k = z else y ≤ a ∧ z + 1 + k = y
theorem Dr.dec {up : Bool} {a y k z : Nat} (H : Dr up a y k z) : decide (y < z) = up := by
  cases up with
  | true => have H : a ≤ y ∧ y + 1 + k = z := H; exact decide_eq_true (by omega)
  | false => have H : y ≤ a ∧ z + 1 + k = y := H; exact decide_eq_false (by omega)
theorem Dr.ne {up : Bool} {a y k z : Nat} (H : Dr up a y k z) : y ≠ z := by
  cases up with
  | true => have H : a ≤ y ∧ y + 1 + k = z := H; omega
  | false => have H : y ≤ a ∧ z + 1 + k = y := H; omega
theorem Dr.lt {up : Bool} {a y k z : Nat} (H : Dr up a y k z) (ha : a < 8) (hz : z < 8) : y < 8 ∧ nx up y < 8 ∧ far y (nx up y) = 1 ∧ nx up y ≠ a := by
  cases up with
  | true =>
    have H : a ≤ y ∧ y + 1 + k = z := H
    simp only [nx, far, if_true]
    omega
  | false =>
    have H : y ≤ a ∧ z + 1 + k = y := H
    have e : nx false y = y - 1 := rfl
    simp only [e, far]
    omega
theorem Dr.last {up : Bool} {a y z : Nat} (H : Dr up a y 0 z) : nx up y = z := by
  cases up with
  | true => have H : a ≤ y ∧ y + 1 + 0 = z := H; show y + 1 = z; omega
  | false => have H : y ≤ a ∧ z + 1 + 0 = y := H; show y - 1 = z; omega
theorem Dr.next {up : Bool} {a y k z : Nat} (H : Dr up a y (k + 1) z) : Dr up a (nx up y) k z := by
  cases up with
  | true => have H : a ≤ y ∧ y + 1 + (k + 1) = z := H; show a ≤ y + 1 ∧ y + 1 + 1 + k = z; omega
  | false => have H : y ≤ a ∧ z + 1 + (k + 1) = y := H; show y - 1 ≤ a ∧ z + 1 + k = y - 1; omega
section
variable {h : Hp} {m base n w : Nat} {p b W M : Nat → Nat} {s : St}
/-- what a frame of a link is like, its step at y -/
def Lk (base : Nat) (s : St) (f i a z set y : Nat) : Prop := s.2.1 0 f = nI (base + i) ∧ s.2.1 1 f = nI a ∧ s.2.1 2 f = nI z ∧ s.2.1 3 f = nI set ∧ s.2.1 4 f = nI y
theorem Lk.keep {s' : St} {f g i a z set y : Nat} {h' : Hp} (H : Lk base s f i a z set y) (S : Sq g h s h' s' m) (hg : f < g) : Lk base s' f i a z set y :=
  ⟨by rw [S.2.1.1 0 f (by decide) hg]; exact H.1, by rw [S.2.1.1 1 f (by decide) hg]; exact H.2.1, by rw [S.2.1.1 2 f (by decide) hg]; exact H.2.2.1, by rw [S.2.1.1 3 f (by decide) hg]; exact H.2.2.2.1, by rw [S.2.1.1 4 f (by decide) hg]; exact H.2.2.2.2⟩
theorem has.keep {s' : St} {f g : Nat} {h' : Hp} {q : Nat × Nat × Bool} (H : has s f q) (S : Sq g h s h' s' m) (hg : f < g) : has s' f q :=
  ⟨by rw [S.2.1.2.1 0 f (by decide) hg]; exact H.1, by rw [S.2.1.2.1 1 f (by decide) hg]; exact H.2.1, by rw [S.2.1.2.2 f hg]; exact H.2.2⟩
theorem M_done (H : MX h m base n p b W M s) {f i a z set : Nat} {r : Nat × Nat × Bool} (hf : f < 8) (ha : a < 8) (hz : z < 8) (haz : a ≠ z) (h26 : s.1 26 = .int (nI (f + 1))) (lk : Lk base s f i a z set z) (hs : has s f r) (k : qok (.ok r)) : ∃ h' s', f_M_work_116 m (0 : Int32) (nI f) (nI (base + i)) (nI a) (nI z) h = some (0, h') ∧ MX h' m base n p b W M s' ∧ Sq f h s h' s' m ∧ s'.1 26 = .int (nI f) ∧ s'.1 27 = .int 1 ∧ hnd s'.1 r := by
  obtain ⟨e1, H1, S1⟩ := H.fld (k := 27) (Or.inr rfl) 1
  obtain ⟨e2, H2, S2⟩ := H1.fld (k := 26) (Or.inl rfl) (nI f)
  have bb := qok_b k
  obtain ⟨F', G1, G2⟩ := MHand.zb (M_take (t := r.2.2) H2.1 bb.2.2.1 bb.1 bb.2.1)
  rw [qmk_same k] at G1 G2
  have mh := G2.mh H2.2.2.2.1
  obtain ⟨H3, S3⟩ := H2.res mh
  refine ⟨_, _, ?_, H3, ((S1 f).trans (S2 f)).trans (S3 f), ?_, ?_, mh.2.2.2 r rfl⟩
  · unfold f_M_work_116
    rw [if_pos (by decide), show gA h m 8 22 = some (some (m + 8 + 4)) from H.r (k := 4) (by decide), Option.bind_some, Option.bind_some, H.gi (by decide) hf, lk.2.2.2.2, Option.bind_some, if_pos rfl]
    unfold f_M_work_143
    rw [show zB (1 : Int32) = some 1 from rfl, Option.bind_some, e1, Option.bind_some, H1.g27 (x := 1) rfl, Option.bind_some, if_neg (by decide), H1.g26 (f := f + 1) (show (fset s.1 27 (.int 1), s.2).1 26 = .int (nI (f + 1)) from (fset_n (F := s.1) (k := 27) (j := 26) (v := .int 1) (by decide)).trans h26), Option.bind_some, nI_pred, e2, Option.bind_some, if_neg (fun c => haz ((nI_eq (by omega) (by omega)).mp c)), show gA _ m 8 23 = some (some (m + 13 + 0)) from H2.r (k := 5) (by decide), Option.bind_some, Option.bind_some, H2.gl (by decide) hf]
    dsimp only
    rw [hs.1, Option.bind_some, show gA _ m 8 24 = some (some (m + 13 + 1)) from H2.r (k := 6) (by decide), Option.bind_some, Option.bind_some, H2.gl (by decide) hf]
    dsimp only
    rw [hs.2.1, Option.bind_some, show gA _ m 8 25 = some (some (m + 15)) from H2.r (k := 7) (by decide), Option.bind_some, Option.bind_some, H2.gz hf]
    dsimp only
    rw [hs.2.2, Option.bind_some, G1]
    rfl
  · show F' 26 = _
    rw [mh.1 26 (by decide) (by decide) (by decide) (by decide)]; rfl
  · show F' 27 = _
    rw [mh.1 27 (by decide) (by decide) (by decide) (by decide)]; rfl
theorem M_more (H : MX h m base n p b W M s) {f i a z set y k : Nat} {up : Bool} (hf : f + 1 < 8) (ha : a < 8) (hz : z < 8) (hi1 : i + 1 < n) (hV1 : W (i + 1) < 13) (dr : Dr up a y k z) (h26 : s.1 26 = .int (nI (f + 1))) (lk : Lk base s f i a z set y) : ∃ h' s', f_M_work_116 m (0 : Int32) (nI f) (nI (base + i)) (nI a) (nI z) h = some (0, h') ∧ MX h' m base n p b W M s' ∧ Sq (f + 1) h s h' s' m ∧ Fr base s' (f + 1) (i + 1) y (nx up y) set ∧ s'.2.1 4 (f + 1) = (if W (i + 1) = 11 then nI y else nI 0) ∧ s'.1 27 = .int 0 := by
  obtain ⟨e1, H1, S1⟩ := H.fld (k := 27) (Or.inr rfl) 0
  obtain ⟨y8, n8, -, -⟩ := dr.lt ha hz
  obtain ⟨h', s', A1, A2, A3, A4, A5, A6⟩ := M_pushed (i := i + 1) (a := y) (z := nx up y) (set := set) (f := f) H1 hf (show (fset s.1 27 (.int 0), s.2).1 26 = .int (nI (f + 1)) from (fset_n (F := s.1) (k := 27) (j := 26) (v := .int 0) (by decide)).trans h26) rfl hi1 hV1
  refine ⟨h', s', ?_, A2, (S1 _).trans A3, A4, A5, A6⟩
  have g4 : ∀ {h : Hp} {t : St}, MX h m base n p b W M t → t.2.1 4 f = nI y → aI h 0 (m + 8 + 4) (nI f) = some (nI y) := fun H e => by rw [H.gi (by decide) (by omega), e]
  unfold f_M_work_116
  rw [if_pos (by decide), show gA h m 8 22 = some (some (m + 8 + 4)) from H.r (k := 4) (by decide), Option.bind_some, Option.bind_some, g4 H lk.2.2.2.2, Option.bind_some, if_neg (fun c => dr.ne ((nI_eq (by omega) (by omega)).mp c))]
  unfold f_M_work_143
  rw [show zB (0 : Int32) = some 0 from rfl, Option.bind_some, e1, Option.bind_some, H1.g27 (x := 0) rfl, Option.bind_some, if_pos rfl, show gA _ m 8 22 = some (some (m + 8 + 4)) from H1.r (k := 4) (by decide), Option.bind_some, Option.bind_some, g4 H1 lk.2.2.2.2]
  simp only [Option.bind_some]
  rw [g4 H1 lk.2.2.2.2]
  simp only [Option.bind_some]
  have e236 : ∀ x : Int32, nI y + x = nI (nx up y) → f_M_work_236 m (nI (base + i) + 1) (nI y) (nI y) x (nI f) (hup h m (ocell 8 40 (fset s.1 27 (.int 0)))) = some (0, h') := by
    intro x hx
    unfold f_M_work_236
    rw [show gA _ m 8 21 = some (some (m + 8 + 3)) from H1.r (k := 3) (by decide), Option.bind_some, Option.bind_some, H1.gi (by decide) (by omega)]
    dsimp only
    rw [lk.2.2.2.1, Option.bind_some, nI_1, Nat.add_assoc, hx, A1]
    rfl
  cases up with
  | true =>
    have D : a ≤ y ∧ y + 1 + k = z := dr
    rw [if_neg (nI_ge (by omega) (by omega))]
    exact e236 1 (nI_1 y)
  | false =>
    have D : y ≤ a ∧ z + 1 + k = y := dr
    rw [if_pos (nI_le (by omega) (by omega))]
    refine e236 (-1) ?_
    obtain ⟨y', rfl⟩ : ∃ y', y = y' + 1 := ⟨y - 1, by omega⟩
    exact pk_m1 y'
theorem lnk_1 {R : Nat → Nat → QR} {up : Bool} {k y : Nat} {acc : QR} : lnk R up (k + 1) y acc = lnk R up k (nx up y) (qmul acc (R y (nx up y))) := rfl
theorem M_chain_any (H : MX h m base n p b W M s) {f i a z set y k : Nat} {up : Bool} {acc q : Nat × Nat × Bool} (hf : f < 8) (ha : a < 8) (hz : z < 8) (dr : Dr up a y k z) (h26 : s.1 26 = .int (nI (f + 1))) (lk : Lk base s f i a z set y) (e : hnd s.1 q) (k2 : qok (.ok q)) (hacc : y ≠ a → has s f acc ∧ qok (.ok acc)) : ∃ h' s', (if s.2.1 4 f = nI a then f_M_work_109 m (nI f) (1 : Int32) (nI f) (nI (base + i)) (nI a) (nI z) h else f_M_work_109 m (nI f) (0 : Int32) (nI f) (nI (base + i)) (nI a) (nI z) h) = f_M_work_116 m (mcode (if y = a then .ok q else qmul (.ok acc) (.ok q))) (nI f) (nI (base + i)) (nI a) (nI z) h' ∧ MX h' m base n p b W M s' ∧ Sq f h s h' s' m ∧ s'.1 26 = .int (nI (f + 1)) ∧ (∀ r, (if y = a then .ok q else qmul (.ok acc) (.ok q)) = .ok r → has s' f r) ∧ Lk base s' f i a z set (nx up y) := by
  obtain ⟨y8, n8, -, -⟩ := dr.lt ha hz
  by_cases c : y = a
  · obtain ⟨h', s', A1, A2, A3, A4, A5, A6, A7⟩ := M_chain1 H hf e y8 hz dr.ne lk.2.2.2.2 lk.2.2.1
    refine ⟨h', s', ?_, A2, A3, by rw [A4]; exact h26, ?_, ?_⟩
    · rw [if_pos (by rw [lk.2.2.2.2, c]), if_pos c]
      unfold f_M_work_109
      rw [A1, zb2_s]
      rfl
    · intro r hr
      rw [if_pos c] at hr
      cases hr
      exact A5
    · rw [dr.dec] at A7
      exact ⟨by rw [A6 0 (by decide)]; exact lk.1, by rw [A6 1 (by decide)]; exact lk.2.1, by rw [A6 2 (by decide)]; exact lk.2.2.1, by rw [A6 3 (by decide)]; exact lk.2.2.2.1, A7⟩
  · obtain ⟨ha1, ka⟩ := hacc c
    obtain ⟨h', s', A1, A2, A3, A4, -, A5, A6, A7⟩ := M_chain2 H hf e ha1 ka k2 y8 hz dr.ne lk.2.2.2.2 lk.2.2.1
    refine ⟨h', s', ?_, A2, A3, by rw [A4]; exact h26, ?_, ?_⟩
    · rw [if_neg (by rw [lk.2.2.2.2]; exact fun x => c ((nI_eq (by omega) (by omega)).mp x)), if_neg c]
      unfold f_M_work_109
      rw [A1, zb2_s]
    · intro r hr
      rw [if_neg c] at hr
      exact A5 r hr
    · rw [dr.dec] at A7
      exact ⟨by rw [A6 0 (by decide)]; exact lk.1, by rw [A6 1 (by decide)]; exact lk.2.1, by rw [A6 2 (by decide)]; exact lk.2.2.1, by rw [A6 3 (by decide)]; exact lk.2.2.2.1, A7⟩
theorem M_116e {m : Nat} {e x3 x4 x5 x6 : Int32} {h : Hp} (k : qok (.error e)) : f_M_work_116 m e x3 x4 x5 x6 h = some (e, h) := by
  unfold f_M_work_116
  rw [if_neg (qneg k)]
theorem M_link_loop {R : Nat → Nat → Nat → QR} {i d s1 f a z set : Nat} {up : Bool} (hi : i < n) (hW : W i = 11) (hi1 : i + 1 < n) (hV1 : W (i + 1) < 13) (hd : 0 < d) (o1 : EvOK m base n w p b W M R (i + 1) d s1) (k1 : ∀ a b s, qok (R a b s)) (hf : f + (d + 1) ≤ 8) (ha : a < 8) (hz : z < 8) (hs : set < 32) (haz : a ≠ z) : ∀ (k y : Nat) (acc : Nat × Nat × Bool) (h : Hp) (s : St), Dr up a y k z → MX h m base n p b W M s → Fr base s (f + 1) (i + 1) y (nx up y) set → s.2.1 4 (f + 1) = (if W (i + 1) = 11 then nI y else nI 0) → Lk base s f i a z set y → (y ≠ a → has s f acc ∧ qok (.ok acc)) → ∃ c h' s', c ≤ (k + 1) * (4 * s1 + 1) ∧ MX h' m base n p b W M s' ∧ Sq f h s h' s' m ∧ Fin m f (nI w) 0 (lnk (fun y z => R y z set) up k (nx up y) (if y = a then R y (nx up y) set else qmul (.ok acc) (R y (nx up y) set))) c h h' s' := by
  intro k
  induction k with
  | zero =>
    intro y acc h s dr H fr i4 lk hacc
    obtain ⟨y8, n8, fy, nea⟩ := dr.lt ha hz
    obtain ⟨c1, g2, t2, b1, H3, S3, F3⟩ := o1 (f + 1) y (nx up y) set h s (by omega) y8 n8 hs H fr i4
    rw [fy, show max 1 1 = 1 from rfl, Nat.mul_one] at b1
    have kk := k1 y (nx up y) set
    rw [show lnk (fun y z => R y z set) up 0 (nx up y) (if y = a then R y (nx up y) set else qmul (.ok acc) (R y (nx up y) set)) = (if y = a then R y (nx up y) set else qmul (.ok acc) (R y (nx up y) set)) from rfl]
    cases hr : R y (nx up y) set with
    | error e =>
      rw [hr] at F3
      refine ⟨c1, g2, t2, by omega, H3, S3.weak (by omega), ?_⟩
      rw [show (if y = a then (.error e : QR) else qmul (.ok acc) (.error e)) = .error e by split <;> rfl]
      exact F3.err
    | ok q1 =>
      rw [hr] at F3 kk
      obtain ⟨y26, hq1, -⟩ := F3.1 q1 rfl
      have lk2 := lk.keep S3 (show f < f + 1 by omega)
      have fr2 : Fr base t2 f i a z set := ⟨y26, lk2.1, lk2.2.1, lk2.2.2.1, lk2.2.2.2.1⟩
      obtain ⟨g3, t3, E3, H4, S4, z26, hs4, lk4⟩ := M_chain_any H3 (f := f) (by omega) ha hz dr y26 lk2 hq1 kk (fun c => ⟨(hacc c).1.keep S3 (by omega), (hacc c).2⟩)
      have head : f_M_work m (nI w) 1 g2 = f_M_work_116 m (mcode (if y = a then .ok q1 else qmul (.ok acc) (.ok q1))) (nI f) (nI (base + i)) (nI a) (nI z) g3 := by
        rw [M_work_head H3 (by omega) hi fr2, if_pos (by rw [hW]; decide), if_pos (by rw [hW]; rfl), if_neg (by decide)]
        exact E3
      have ka : qok (if y = a then .ok q1 else qmul (.ok acc) (.ok q1)) := by
        by_cases c : y = a
        · rw [if_pos c]; exact kk
        · rw [if_neg c]; exact qmul_ok (hacc c).2 kk
      cases hx : (if y = a then (.ok q1 : QR) else qmul (.ok acc) (.ok q1)) with
      | error e =>
        rw [hx] at head ka
        have wk : f_M_work m (nI w) 1 g2 = some (e, g3) := by rw [head]; exact M_116e ka
        exact ⟨1 + c1, g3, t3, by omega, H4, (S3.weak (by omega)).trans S4, Fin.two F3 ⟨fun q hq => (by cases hq), fun x hx2 k => by cases hx2; exact M_find_err H3 y26 (by omega) wk (qneg ka)⟩⟩
      | ok r =>
        rw [hx] at head ka
        rw [dr.last] at lk4
        obtain ⟨g5, t5, E5, H5, S5, w26, w27, hh⟩ := M_done H4 (by omega) ha hz haz z26 lk4 (hs4 r hx) ka
        have wk : f_M_work m (nI w) 1 g2 = some (0, g5) := by rw [head]; exact E5
        exact ⟨1 + c1, g5, t5, by omega, H5, ((S3.weak (by omega)).trans S4).trans S5, Fin.two F3 ⟨fun q hq => (by cases hq; exact ⟨w26, hh, fun k => M_find_ok H3 y26 (by omega) wk (by decide) (H5.g27 w27)⟩), fun x hx2 => (by cases hx2)⟩⟩
  | succ k ih =>
    intro y acc h s dr H fr i4 lk hacc
    obtain ⟨y8, n8, fy, nea⟩ := dr.lt ha hz
    obtain ⟨c1, g2, t2, b1, H3, S3, F3⟩ := o1 (f + 1) y (nx up y) set h s (by omega) y8 n8 hs H fr i4
    rw [fy, show max 1 1 = 1 from rfl, Nat.mul_one] at b1
    have kk := k1 y (nx up y) set
    have bk : (k + 1 + 1) * (4 * s1 + 1) = (k + 1) * (4 * s1 + 1) + (4 * s1 + 1) := Nat.succ_mul _ _
    have bk2 : 0 ≤ (k + 1) * (4 * s1 + 1) := Nat.zero_le _
    cases hr : R y (nx up y) set with
    | error e =>
      rw [hr] at F3
      refine ⟨c1, g2, t2, by omega, H3, S3.weak (by omega), ?_⟩
      rw [show (if y = a then (.error e : QR) else qmul (.ok acc) (.error e)) = .error e by split <;> rfl, lnk_err]
      exact F3.err
    | ok q1 =>
      rw [hr] at F3 kk
      obtain ⟨y26, hq1, -⟩ := F3.1 q1 rfl
      have lk2 := lk.keep S3 (show f < f + 1 by omega)
      have fr2 : Fr base t2 f i a z set := ⟨y26, lk2.1, lk2.2.1, lk2.2.2.1, lk2.2.2.2.1⟩
      obtain ⟨g3, t3, E3, H4, S4, z26, hs4, lk4⟩ := M_chain_any H3 (f := f) (by omega) ha hz dr y26 lk2 hq1 kk (fun c => ⟨(hacc c).1.keep S3 (by omega), (hacc c).2⟩)
      have head : f_M_work m (nI w) 1 g2 = f_M_work_116 m (mcode (if y = a then .ok q1 else qmul (.ok acc) (.ok q1))) (nI f) (nI (base + i)) (nI a) (nI z) g3 := by
        rw [M_work_head H3 (by omega) hi fr2, if_pos (by rw [hW]; decide), if_pos (by rw [hW]; rfl), if_neg (by decide)]
        exact E3
      have ka : qok (if y = a then .ok q1 else qmul (.ok acc) (.ok q1)) := by
        by_cases c : y = a
        · rw [if_pos c]; exact kk
        · rw [if_neg c]; exact qmul_ok (hacc c).2 kk
      cases hx : (if y = a then (.ok q1 : QR) else qmul (.ok acc) (.ok q1)) with
      | error e =>
        rw [hx] at head ka
        have wk : f_M_work m (nI w) 1 g2 = some (e, g3) := by rw [head]; exact M_116e ka
        rw [lnk_err]
        exact ⟨1 + c1, g3, t3, by omega, H4, (S3.weak (by omega)).trans S4, Fin.two F3 ⟨fun q hq => (by cases hq), fun x hx2 k => by cases hx2; exact M_find_err H3 y26 (by omega) wk (qneg ka)⟩⟩
      | ok r =>
        rw [hx] at head ka
        obtain ⟨g5, t5, E5, H5, S5, fr5, x4, x27⟩ := M_more H4 (by omega) ha hz hi1 hV1 dr.next z26 lk4
        have wk : f_M_work m (nI w) 1 g2 = some (0, g5) := by rw [head]; exact E5
        obtain ⟨c2, g6, t6, b6, H6, S6, F6⟩ := ih (nx up y) r g5 t5 dr.next H5 fr5 x4 (lk4.keep S5 (by omega)) (fun _ => ⟨(hs4 r hx).keep S5 (by omega), ka⟩)
        rw [if_neg nea] at F6
        have st : ∀ k, f_M_find_20 m (k + 1) (nI w) 1 g2 = f_M_find_20 m k (nI w) 0 g5 := fun k => M_find_ok H3 y26 (by omega) wk (by decide) (H5.g27 x27)
        exact ⟨(c2 + 1) + c1, g6, t6, by omega, H6, (((S3.weak (by omega)).trans S4).trans (S5.weak (by omega))).trans S6, Fin.two F3 (Fin.pre st F6)⟩
end
