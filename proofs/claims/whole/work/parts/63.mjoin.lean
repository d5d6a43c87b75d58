/-! ===== the reference: hold, chain, join ===== -/
def hnd (F : Nat → Value) (q : Nat × Nat × Bool) : Prop := F 14 = .long (lN q.1) ∧ F 15 = .long (lN q.2.1) ∧ F 16 = .int (bI q.2.2)
def MH (F F' : Nat → Value) (r : QR) : Prop := (∀ k, k ≠ 14 → k ≠ 15 → k ≠ 16 → k ≠ 17 → F' k = F k) ∧ (∃ z : Int32, F' 17 = .int z) ∧ mTy F' ∧ ∀ q, r = .ok q → hnd F' q
theorem MRes.mh {F F' : Nat → Value} {r : QR} (H : MRes F F' r) (z : ∃ z : Int32, F 17 = .int z) : MH F F' r := by
  obtain ⟨h1, U, L, t, h2, h3, h4, h5⟩ := H
  refine ⟨fun k a b c _ => h1 k a b c, ?_, ⟨U, L, t, h2, h3, h4⟩, fun q e => ?_⟩
  · obtain ⟨z, hz⟩ := z
    exact ⟨z, by rw [h1 17 (by decide) (by decide) (by decide)]; exact hz⟩
  · rw [h5 q e]; exact ⟨h2, h3, h4⟩
theorem MH.meq {F F' : Nat → Value} {r : QR} (H : MH F F' r) : MEq F F' := fun k a b c d _ _ => H.1 k a b c d
theorem qmk_same {q : Nat × Nat × Bool} (k : qok (.ok q)) : qmk q.1 q.2.1 q.2.2 = .ok q := by
  rw [qmk_red k.1, if_pos ⟨k.2.2.1, k.2.2.2⟩]
section
variable {h : Hp} {m base n : Nat} {p b W M : Nat → Nat} {s : St} {q : Nat × Nat × Bool}
theorem MX.h14 (H : MX h m base n p b W M s) (e : hnd s.1 q) : gL h m 8 14 = some (lN q.1) := oc_l H.1 (by decide) e.1
theorem MX.h15 (H : MX h m base n p b W M s) (e : hnd s.1 q) : gL h m 8 15 = some (lN q.2.1) := oc_l H.1 (by decide) e.2.1
theorem MX.h16 (H : MX h m base n p b W M s) (e : hnd s.1 q) : gI h m 8 16 = some (bI q.2.2) := oc_i H.1 (by decide) e.2.2
/-- what a frame has -/
def has (s : St) (f : Nat) (q : Nat × Nat × Bool) : Prop := s.2.2.1 0 f = lN q.1 ∧ s.2.2.1 1 f = lN q.2.1 ∧ s.2.2.2 f = bI q.2.2
theorem M_hold (H : MX h m base n p b W M s) {f : Nat} (hf : f < 8) (e : hnd s.1 q) : ∃ h' s', f_M_hold m (nI f) h = some h' ∧ MX h' m base n p b W M s' ∧ Sq f h s h' s' m ∧ s'.1 = s.1 ∧ s'.2.1 = s.2.1 ∧ has s' f q := by
  obtain ⟨e0, E0, H0, S0⟩ := H.long (k := 0) (j := f) (by decide) hf (lN q.1)
  obtain ⟨e1, E1, H1, S1⟩ := H0.long (k := 1) (j := f) (by decide) hf (lN q.2.1)
  obtain ⟨e2, E2, H2, S2⟩ := H1.bool (j := f) hf q.2.2
  refine ⟨_, _, ?_, H2, (S0.trans S1).trans S2, rfl, rfl, ?_⟩
  · unfold f_M_hold
    rw [if_pos H.o, show gA h m 8 23 = some (some (m + 13 + 0)) from H.r (k := 5) (by decide), H.h14 e]
    simp only [Option.bind_some]
    rw [E0]
    simp only [Option.bind_some]
    rw [show gA _ m 8 24 = some (some (m + 13 + 1)) from H0.r (k := 6) (by decide), H0.h15 e]
    simp only [Option.bind_some]
    rw [E1]
    simp only [Option.bind_some]
    rw [show gA _ m 8 25 = some (some (m + 15)) from H1.r (k := 7) (by decide), H1.h16 e]
    simp only [Option.bind_some]
    rw [E2]
    rfl
  · refine ⟨?_, ?_, ?_⟩
    · simp [iset, pk_uLs]
    · simp [iset, pk_uLs]
    · simp [pk_us]
theorem MX.res (H : MX h m base n p b W M s) {F' : Nat → Value} {r : QR} (e : MH s.1 F' r) : MX (hup h m (ocell 8 40 F')) m base n p b W M (F', s.2) ∧ ∀ f, Sq f h s (hup h m (ocell 8 40 F')) (F', s.2) m := ⟨H.obj e.meq e.2.2.1 e.2.1, fun _ => MX.s_obj e.meq⟩
theorem M_54 (H : MX h m base n p b W M s) {f y z : Nat} {x : Int32} (hf : f < 8) (e : hnd s.1 q) (hy : y < 8) (hz : z < 8) (hyz : y ≠ z) (i4 : s.2.1 4 f = nI y) (i2 : s.2.1 2 f = nI z) : ∃ h' s', f_M_chain_54 m x (nI f) h = some (x, h') ∧ MX h' m base n p b W M s' ∧ Sq f h s h' s' m ∧ s'.1 = s.1 ∧ has s' f q ∧ (∀ k, k < 4 → s'.2.1 k = s.2.1 k) ∧ s'.2.1 4 f = nI (nx (decide (y < z)) y) := by
  obtain ⟨h1, s1, E1, H1, S1, e1, e2, hs⟩ := M_hold H hf e
  obtain ⟨e0, E0, H0, S0⟩ := H1.int (k := 4) (j := f) (by decide) hf (nI (nx (decide (y < z)) y))
  have j4 : s1.2.1 4 f = nI y := by rw [e2]; exact i4
  have j2 : s1.2.1 2 f = nI z := by rw [e2]; exact i2
  refine ⟨_, _, ?_, H0, S1.trans S0, e1, hs, ?_, ?_⟩
  · unfold f_M_chain_54
    rw [E1]
    simp only [Option.bind_some]
    rw [show gA h1 m 8 22 = some (some (m + 8 + 4)) from H1.r (k := 4) (by decide), show gA h1 m 8 20 = some (some (m + 8 + 2)) from H1.r (k := 2) (by decide)]
    simp only [Option.bind_some]
    rw [H1.gi (by decide) hf, H1.gi (by decide) hf, j4, j2]
    simp only [Option.bind_some]
    by_cases c : y < z
    · rw [if_neg (nI_ge c (by omega))]
      rw [show nI y + (1 : Int32) = nI (nx (decide (y < z)) y) by rw [decide_eq_true c, nI_1]; rfl, E0]
      rfl
    · rw [if_pos (nI_le (by omega) (by omega))]
      rw [show nI y + (-1 : Int32) = nI (nx (decide (y < z)) y) by
        rw [decide_eq_false c]
        obtain ⟨y', rfl⟩ : ∃ y', y = y' + 1 := ⟨y - 1, by omega⟩
        exact pk_m1 y', E0]
      rfl
  · intro k hk
    show iset _ _ _ _ = _
    rw [iset_n (by omega), e2]
  · simp [iset, pk_us]
theorem bI_0' {t : Bool} : bI t = 0 ↔ t = false := bI_0
/-- chain: the first link, or one more -/
theorem M_chain1 (H : MX h m base n p b W M s) {f y z : Nat} (hf : f < 8) (e : hnd s.1 q) (hy : y < 8) (hz : z < 8) (hyz : y ≠ z) (i4 : s.2.1 4 f = nI y) (i2 : s.2.1 2 f = nI z) : ∃ h' s', f_M_chain m (nI f) (1 : Int32) h = some (0, h') ∧ MX h' m base n p b W M s' ∧ Sq f h s h' s' m ∧ s'.1 = s.1 ∧ has s' f q ∧ (∀ k, k < 4 → s'.2.1 k = s.2.1 k) ∧ s'.2.1 4 f = nI (nx (decide (y < z)) y) := by
  unfold f_M_chain
  rw [if_pos H.o, H.h16 e]
  simp only [Option.bind_some]
  rw [if_neg (by decide)]
  exact M_54 H hf e hy hz hyz i4 i2
theorem M_chain2 (H : MX h m base n p b W M s) {f y z : Nat} {a : Nat × Nat × Bool} (hf : f < 8) (e : hnd s.1 q) (ha : has s f a) (k1 : qok (.ok a)) (k2 : qok (.ok q)) (hy : y < 8) (hz : z < 8) (hyz : y ≠ z) (i4 : s.2.1 4 f = nI y) (i2 : s.2.1 2 f = nI z) : ∃ h' s', f_M_chain m (nI f) (0 : Int32) h = some (mcode (qmul (.ok a) (.ok q)), h') ∧ MX h' m base n p b W M s' ∧ Sq f h s h' s' m ∧ s'.1 26 = s.1 26 ∧ s'.1 27 = s.1 27 ∧ (∀ r, qmul (.ok a) (.ok q) = .ok r → has s' f r) ∧ (∀ k, k < 4 → s'.2.1 k = s.2.1 k) ∧ s'.2.1 4 f = nI (nx (decide (y < z)) y) := by
  unfold f_M_chain
  rw [if_pos H.o, H.h16 e]
  simp only [Option.bind_some]
  rw [if_pos trivial, show gA h m 8 25 = some (some (m + 15)) from H.r (k := 7) (by decide)]
  simp only [Option.bind_some]
  rw [H.gz hf, ha.2.2]
  simp only [Option.bind_some]
  obtain ⟨v, l, t⟩ := q
  obtain ⟨u, d, t0⟩ := a
  by_cases c : t = t0
  · subst c
    rw [if_pos rfl, show gA h m 8 23 = some (some (m + 13 + 0)) from H.r (k := 5) (by decide), show gA h m 8 24 = some (some (m + 13 + 1)) from H.r (k := 6) (by decide)]
    simp only [Option.bind_some]
    rw [H.gl (by decide) hf, H.gl (by decide) hf, ha.1, ha.2.1, H.h14 e, H.h15 e]
    simp only [Option.bind_some]
    obtain ⟨F', E, R⟩ := M_multiply H.1 H.2.2.1 k1 k2
    have em : qmul (.ok (u, d, t)) (.ok (v, l, t)) = qmk (u * v) (d * l) t := by simp [qmul]
    rw [em, E, zb2_s]
    have mh := R.mh H.2.2.2.1
    obtain ⟨H1, S1⟩ := H.res mh
    obtain ⟨U, L, T, g1, g2, g3⟩ := mh.2.2.1
    obtain ⟨h', s', A1, A2, A3, A4, A5, A6, A7⟩ := M_54 (x := mcode (qmk (u * v) (d * l) t)) (q := (U, L, T)) H1 hf ⟨g1, g2, g3⟩ hy hz hyz i4 i2
    refine ⟨h', s', A1, A2, (S1 f).trans A3, ?_, ?_, ?_, A6, A7⟩
    · rw [A4]; exact mh.1 26 (by decide) (by decide) (by decide) (by decide)
    · rw [A4]; exact mh.1 27 (by decide) (by decide) (by decide) (by decide)
    · intro r hr
      obtain ⟨-, U', L', T', q1, q2, q3, q4⟩ := R
      have c1 : lN U' = lN U := by have := q1.symm.trans g1; injection this
      have c2 : lN L' = lN L := by have := q2.symm.trans g2; injection this
      have c3 : bI T' = bI T := by have := q3.symm.trans g3; injection this
      rw [q4 r hr]
      exact ⟨by rw [c1]; exact A5.1, by rw [c2]; exact A5.2.1, by rw [c3]; exact A5.2.2⟩
  · rw [if_neg (fun e => c (bI_eq.mp e))]
    have em : qmul (.ok (u, d, t0)) (.ok (v, l, t)) = .error eNOT := by
      simp only [qmul]
      rw [if_neg (fun e => c e.symm)]
    rw [em]
    obtain ⟨h', s', A1, A2, A3, A4, A5, A6, A7⟩ := M_54 (x := eNOT) H hf e hy hz hyz i4 i2
    exact ⟨h', s', A1, A2, A3, by rw [A4], by rw [A4], fun r hr => (by cases hr), A6, A7⟩
theorem qord_sw (p q : Nat × Nat × Bool) : qord q p = match qord p q with | .error _ => .error eLARGE | .ok o => .ok (-o) := by
  obtain ⟨u, l, t⟩ := p
  obtain ⟨v, d, r⟩ := q
  unfold qord
  dsimp only
  by_cases c : t = r
  · subst c
    rw [if_pos rfl, if_pos rfl]
    dsimp only
    rw [cmp3_swap]
  · rw [if_neg c, if_neg (fun e => c e.symm)]
    cases t with
    | true =>
      cases r with
      | true => exact absurd rfl c
      | false =>
        rw [if_neg (by decide), if_pos rfl]
        by_cases g : v * v ≤ qM ∧ d * d ≤ qM
        · rw [if_pos g, if_pos g]
          dsimp only
          rw [cmp3_swap]
        · rw [if_neg g, if_neg g]
    | false =>
      cases r with
      | false => exact absurd rfl c
      | true =>
        rw [if_pos rfl, if_neg (show ¬ (false = true) by decide)]
        by_cases g : u * u ≤ qM ∧ l * l ≤ qM
        · rw [if_pos g, if_pos g]
          dsimp only
          rw [cmp3_swap]
        · rw [if_neg g, if_neg g]
/-- what join leaves -/
def JN (x : Option (Int32 × Hp)) (h : Hp) (m : Nat) (F : Nat → Value) (r : QR) : Prop := ∃ F', x = some (mcode r, hup h m (ocell 8 40 F')) ∧ MH F F' r
theorem JN.of {x : Option (Int32 × Hp)} {F : Nat → Value} {r : QR} (H : MHand x h m F r) (z : ∃ z : Int32, F 17 = .int z) : JN x h m F r := by
  obtain ⟨F', e, g⟩ := H
  exact ⟨F', e, g.mh z⟩
theorem M_257 {F : Nat → Value} {u l v d : Nat} {t r : Bool} {f : Nat} {x : Bool} (hF : h m = some (ocell 8 40 F)) (z : ∃ z : Int32, F 17 = .int z) (hz : gA h m 8 25 = some (some (m + 15))) (hg : aI h 2 (m + 15) (nI f) = some (bI t)) (k1 : qok (.ok (u, l, t))) (k2 : qok (.ok (v, d, r))) : JN (f_M_join_257 m (bI x) (nI f) (lN u) (lN l) (lN v) (lN d) (bI r) h) h m F (if x then .ok (u, l, t) else .ok (v, d, r)) := by
  have b1 := qok_b k1
  have b2 := qok_b k2
  unfold f_M_join_257
  cases x with
  | false =>
    rw [if_pos (by decide), if_neg (by decide)]
    have := MHand.zb (M_take (t := r) hF b2.2.2.1 b2.1 b2.2.1)
    rw [qmk_same k2] at this
    exact JN.of this z
  | true =>
    rw [if_neg (by decide), if_pos rfl, hz]
    simp only [Option.bind_some]
    rw [hg]
    simp only [Option.bind_some]
    have := MHand.zb (M_take (t := t) hF b1.2.2.1 b1.1 b1.2.1)
    rw [qmk_same k1] at this
    exact JN.of this z

theorem half_q {u l : Nat} (hl : 0 < l) : qmk u (l * 2) false = if u % 2 = 0 then qmk (u / 2) l false else qmk u (l * 2) false := by
  split
  · rename_i c
    refine qmk_eq (by omega) hl ?_ false
    have : u = u / 2 * 2 := by omega
    calc u * l = u / 2 * 2 * l := by rw [← this]
      _ = u / 2 * (l * 2) := by rw [Nat.mul_assoc, Nat.mul_comm 2 l]
  · rfl
theorem M_join42 (H : MX h m base n p b W M s) {k f : Nat} {a : Nat × Nat × Bool} (hk : k = 6 ∨ k = 7) (hf : f < 8) (e : hnd s.1 q) (ha : has s f a) (k1 : qok (.ok a)) (k2 : qok (.ok q)) : JN (f_M_join_42 m (nI f) (lN a.1) (lN a.2.1) (nI k) h) h m s.1 (pair k a q) := by
  have z := H.2.2.2.1
  have hT := H.2.2.1
  have h14 := H.h14 e
  have h15 := H.h15 e
  have h16 := H.h16 e
  have hr := ha.2.2
  unfold f_M_join_42 pair
  have hn8 : ¬ k = 8 := by omega
  have hn9 : ¬ k = 9 := by omega
  rw [if_neg hn8, if_neg hn9, show gA h m 8 25 = some (some (m + 15)) from H.r (k := 7) (by decide)]
  simp only [Option.bind_some]
  rw [H.gz hf, hr]
  simp only [Option.bind_some]
  obtain ⟨v, d, r⟩ := q
  obtain ⟨u, l, t⟩ := a
  have b1 := qok_b k1
  have b2 := qok_b k2
  dsimp only at hr h14 h15 h16 ⊢
  cases t with
  | true =>
    rw [if_neg (show ¬ bI true = 0 by decide), if_pos (Or.inl rfl)]
    exact JN.of (MHand.same H.1 hT) z
  | false =>
    rw [if_pos (show bI false = 0 by decide), h16]
    simp only [Option.bind_some]
    cases r with
    | true =>
      rw [if_neg (show ¬ bI true = 0 by decide), if_pos (Or.inr rfl)]
      exact JN.of (MHand.same H.1 hT) z
    | false =>
      rw [if_pos (show bI false = 0 by decide), if_neg (show ¬ (false = true ∨ false = true) by decide)]
      rcases hk with rfl | rfl
      · rw [if_pos (show nI 6 = 6 by decide), if_neg (show ¬ (6 = 7) by decide), h14]
        simp only [Option.bind_some]
        rw [h15]
        simp only [Option.bind_some]
        have k1' : qok (.ok (u, l, true)) := k1
        have k2' : qok (.ok (v, d, true)) := k2
        exact JN.of (MHand.zb (M_multiply (t := true) H.1 hT k1' k2')) z
      · rw [if_neg (show ¬ nI 7 = 6 by decide), if_pos (show 7 = 7 from rfl), h15]
        simp only [Option.bind_some]
        rw [zgcd b1.2.1 b2.2.1]
        simp only [Option.bind_some]
        have gp : 0 < Nat.gcd l d := Nat.gcd_pos_of_pos_left _ b1.2.2.1
        have gl : Nat.gcd l d ≤ l := Nat.gcd_le_left _ b1.2.2.1
        have yp : 0 < d / Nat.gcd l d := Nat.div_pos (Nat.gcd_le_right _ b2.2.2.1) gp
        have lp : 0 < l / Nat.gcd l d := Nat.div_pos gl gp
        have yd : d / Nat.gcd l d ≤ d := Nat.div_le_self _ _
        have ld : l / Nat.gcd l d ≤ l := Nat.div_le_self _ _
        unfold qadd
        rw [gd_of (Or.inl b1.2.2.1)]
        generalize Nat.gcd l d = g at *
        rw [if_neg (fun c => by have := (lN_eq0 (by omega)).mp c; omega), if_neg (fun c => by have := (lN_eq0 (by omega)).mp c; omega), pk_lDiv b2.2.1 gp (by omega), pk_lDiv b1.2.1 gp (by omega)]
        generalize hY : d / g = Y at *
        generalize hL : l / g = L at *
        have dv : ∀ x c, x ≤ 1000000000000000 → 0 < c → c ≤ 1000000000000000 → (((1000000000000000 : Int64) / lN c < lN x) ↔ ¬ x * c ≤ qM) := by
          intro x c hx hc hc2
          rw [lM, pk_lDiv (by decide) hc (by omega), pk_lLT (Nat.lt_of_le_of_lt (Nat.div_le_self _ _) (by decide)) (by omega), qM_eq]
          rw [Nat.div_lt_iff_lt_mul hc]
          omega
        have dle : ∀ x c, x ≤ 1000000000000000 → 0 < c → c ≤ 1000000000000000 → ((lN x ≤ (1000000000000000 : Int64) / lN c) ↔ x * c ≤ qM) := by
          intro x c hx hc hc2
          rw [lM, pk_lDiv (by decide) hc (by omega), pk_lLE (by omega) (Nat.lt_of_le_of_lt (Nat.div_le_self _ _) (by decide)), qM_eq]
          exact Nat.le_div_iff_mul_le hc
        rw [if_neg (fun c => by have := (lN_eq0 (by omega)).mp c; omega)]
        by_cases c1 : l * Y ≤ qM
        · rw [if_neg (fun c => (dv l Y b1.2.2.2.2.1 yp (by omega)).mp c c1), if_neg (fun c => by have := (lN_eq0 (by omega)).mp c; omega)]
          by_cases c2 : u * Y ≤ qM
          · rw [if_neg (fun c => (dv u Y b1.2.2.2.1 yp (by omega)).mp c c2), h14]
            simp only [Option.bind_some]
            rw [if_neg (fun c => by have := (lN_eq0 (by omega)).mp c; omega)]
            by_cases c3 : v * L ≤ qM
            · rw [if_pos ((dle v L b2.2.2.2.1 lp (by omega)).mpr c3), if_pos ⟨c1, c2, c3⟩, lN_mul, lN_mul, lN_mul, lN_add]
              rw [qM_eq] at c1 c2 c3
              exact JN.of (MHand.zb (M_half H.1 (Nat.mul_pos b1.2.2.1 yp) (by omega) (by omega))) z
            · rw [if_neg (fun c => c3 ((dle v L b2.2.2.2.1 lp (by omega)).mp c)), if_neg (fun c => c3 c.2.2)]
              exact JN.of (MHand.same H.1 hT) z
          · rw [if_pos ((dv u Y b1.2.2.2.1 yp (by omega)).mpr c2), if_neg (fun c => c2 c.2.1)]
            exact JN.of (MHand.same H.1 hT) z
        · rw [if_pos ((dv l Y b1.2.2.2.2.1 yp (by omega)).mpr c1), if_neg (fun c => c1 c.1)]
          exact JN.of (MHand.same H.1 hT) z
end
