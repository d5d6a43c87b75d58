/-! ===== sims: drift ===== -/
abbrev K66 : Type := Int32 → Int32 → Int32 → Int32 → Int32 → Int32 → Int32 → Hp → Option (Int64 × Hp)
section
variable {m num n w : Nat} {p b W M : Nat → Nat} {h : Hp} {s : St} {u l : Nat → Int64} {r : Nat → Int32}
theorem M_keep0 {base : Nat} (X : MX h m base n p b W M s) (K : MK h m s.1 u l r) : ∃ h' u' l' r', f_M_keep m 0 h = some h' ∧ MX h' m base n p b W M s ∧ MK h' m s.1 u' l' r' ∧ (∀ q, hnd s.1 q → kpt u' l' r' 0 q) ∧ ∀ c, ¬ (m + 16 ≤ c ∧ c < m + 19) → h' c = h c := by
  obtain ⟨U, L, T, t1, t2, t3⟩ := X.2.2.1
  obtain ⟨h2, u', l', r', E2, H2, K2, P2, J2, F2⟩ := M_keep (q := (U, L, T)) (k := 0) X K (by decide) ⟨t1, t2, t3⟩
  refine ⟨h2, u', l', r', E2, H2, K2, fun q v => ?_, F2⟩
  have e1 : lN U = lN q.1 := by have := t1.symm.trans v.1; injection this
  have e2 : lN L = lN q.2.1 := by have := t2.symm.trans v.2.1; injection this
  have e3 : bI T = bI q.2.2 := by have := t3.symm.trans v.2.2; injection this
  exact ⟨P2.1.trans e1, P2.2.1.trans e2, P2.2.2.trans e3⟩
/-- the loop goes on with a step's outcome R -/
def DR (x : Option (Int64 × Hp)) (k66 : K66) (x1 x2 x3 x4 x5 x8 : Int32) (h : Hp) (m num n : Nat) (p b W M : Nat → Nat) (s : St) (R : QR) : Prop := ∃ h' s' u' l' r', x = k66 x1 x2 x3 x4 x5 (mcode R) x8 h' ∧ MX h' m (40 * num) n p b W M s' ∧ MK h' m s'.1 u' l' r' ∧ (∀ q, R = .ok q → kpt u' l' r' 0 q) ∧ MEq s.1 s'.1 ∧ MFr h h' m
theorem M_d222 (X : MX h m (40 * num) n p b W M s) (K : MK h m s.1 u l r) (k66 : K66) {R : QR} (hR : ∀ q, R = .ok q → hnd s.1 q) (x1 x2 x3 x4 x5 x8 : Int32) : DR (f_M_drift_222 m k66 (mcode R) x1 x2 x3 x4 x5 x8 h) k66 x1 x2 x3 x4 x5 x8 h m num n p b W M s R := by
  obtain ⟨h', u', l', r', E, X', K', V, F⟩ := M_keep0 X K
  refine ⟨h', s, u', l', r', ?_, X', K', fun q e => V q (hR q e), fun _ _ _ _ _ _ _ => rfl, fun c hc => F c (by omega)⟩
  unfold f_M_drift_222
  rw [E, Option.bind_some]
theorem DR.pre {x : Option (Int64 × Hp)} {k66 : K66} {x1 x2 x3 x4 x5 x8 : Int32} {h1 : Hp} {s1 : St} {R : QR} (e : MEq s.1 s1.1) (f : MFr h h1 m) (D : DR x k66 x1 x2 x3 x4 x5 x8 h1 m num n p b W M s1 R) : DR x k66 x1 x2 x3 x4 x5 x8 h m num n p b W M s R := by
  obtain ⟨h', s', u', l', r', a, c, d, g, i, j⟩ := D
  exact ⟨h', s', u', l', r', a, c, d, g, e.trans i, MFr.trans f j⟩
/-- what a step makes of what was kept and the next worth -/
def dsq (first : Bool) (x : Nat × Nat × Bool) (v : QR) : QR := if first then v else qmul (.ok x) v
theorem M_d134 (X : MX h m (40 * num) n p b W M s) (K : MK h m s.1 u l r) (k66 : K66) {R : QR} (kR : qok R) {x : Nat × Nat × Bool} (kx : qok (.ok x)) (h0 : kpt u l r 0 x) (h1 : ∀ v, R = .ok v → kpt u l r 1 v) {y a : Nat} (hy : y < 8) (ha : a < 8) (x1 x2 x4 x5 x8 : Int32) (unl : Bool) (hu : unl = true → ∀ v, R = .ok v → y ≠ a ∧ x.2.2 ≠ v.2.2) (hn : unl = false → y ≠ a → ∀ v, R = .ok v → x.2.2 = v.2.2) : DR (f_M_drift_134 m k66 (bI unl) x1 x2 (nI a) x4 x5 (mcode R) (nI y) x8 h) k66 x1 x2 (nI a) x4 x5 x8 h m num n p b W M s (dsq (decide (y = a)) x R) := by
  unfold f_M_drift_134
  cases R with
  | error e =>
    have ed : dsq (decide (y = a)) x (.error e) = .error e := by
      unfold dsq
      split <;> rfl
    rw [ed, if_neg (show ¬ (0 : Int32) ≤ mcode (.error e) from qneg kR)]
    exact M_d222 X K k66 (R := .error e) (fun q e => by cases e) x1 x2 (nI a) x4 x5 x8
  | ok v =>
    rw [if_pos (show (0 : Int32) ≤ mcode (.ok v) from (by decide : (0 : Int32) ≤ 0))]
    cases unl with
    | true =>
      obtain ⟨ne, nr⟩ := hu rfl v rfl
      have ed : dsq (decide (y = a)) x (.ok v) = .error eNOT := by
        unfold dsq
        rw [if_neg (by simpa using ne)]
        simp only [qmul]
        rw [if_neg nr]
      rw [ed, if_neg (show ¬ bI true = 0 by decide)]
      exact M_d222 X K k66 (R := .error eNOT) (fun q e => by cases e) x1 x2 (nI a) x4 x5 x8
    | false =>
      rw [if_pos (show bI false = 0 from rfl)]
      obtain ⟨g28, g29, g30, a0, a1, a2⟩ := K.gu X (k := 0) (by decide)
      obtain ⟨-, -, -, b0, b1, b2⟩ := K.gu X (k := 1) (by decide)
      obtain ⟨v0, v1, v2⟩ := h1 v rfl
      obtain ⟨c0, c1, c2⟩ := h0
      rw [v0] at b0
      rw [v1] at b1
      rw [v2] at b2
      rw [c0] at a0
      rw [c1] at a1
      rw [c2] at a2
      obtain ⟨bv, bvl, vlp, -, -, -⟩ := qok_b kR
      by_cases c : y = a
      · have ed : dsq (decide (y = a)) x (.ok v) = .ok v := by
          unfold dsq
          rw [if_pos (by simpa using c)]
        rw [if_pos (show nI y = nI a by rw [c]), ed, g28, g29, g30]
        simp only [Option.bind_some]
        rw [show aL h (m + 16) 1 = some (lN v.1) from b0, show aL h (m + 17) 1 = some (lN v.2.1) from b1, show aI h 2 (m + 18) 1 = some (bI v.2.2) from b2]
        simp only [Option.bind_some]
        obtain ⟨F', E, R'⟩ := M_take (t := v.2.2) X.1 vlp bv bvl
        rw [qmk_same kR] at E R'
        have mh := R'.mh X.2.2.2.1
        obtain ⟨X1, -⟩ := X.res mh
        have K1 : MK (hup h m (ocell 8 40 F')) m F' u l r := K.cong (fun c _ _ => hup_n (by omega)) mh.meq
        rw [E, zb2_s]
        exact DR.pre mh.meq (fun c hc => hup_n (by omega)) (M_d222 X1 K1 k66 (R := .ok v) mh.2.2.2 x1 x2 (nI a) x4 x5 x8)
      · have er := hn rfl c v rfl
        have ed : dsq (decide (y = a)) x (.ok v) = qmk (x.1 * v.1) (x.2.1 * v.2.1) x.2.2 := by
          unfold dsq
          rw [if_neg (by simpa using c)]
          simp only [qmul]
          rw [if_pos er]
        rw [if_neg (show ¬ nI y = nI a from fun e => c ((nI_eq (by omega) (by omega)).mp e)), ed, g28, g29, g30]
        simp only [Option.bind_some]
        rw [show aL h (m + 16) 0 = some (lN x.1) from a0, show aL h (m + 17) 0 = some (lN x.2.1) from a1, show aI h 2 (m + 18) 0 = some (bI x.2.2) from a2, show aL h (m + 16) 1 = some (lN v.1) from b0, show aL h (m + 17) 1 = some (lN v.2.1) from b1]
        simp only [Option.bind_some]
        obtain ⟨xu, xl, xt⟩ := x
        obtain ⟨vu, vl, vt⟩ := v
        have er : xt = vt := er
        subst er
        obtain ⟨F', E, R'⟩ := M_multiply X.1 X.2.2.1 kx kR
        have mh := R'.mh X.2.2.2.1
        obtain ⟨X1, -⟩ := X.res mh
        have K1 : MK (hup h m (ocell 8 40 F')) m F' u l r := K.cong (fun c _ _ => hup_n (by omega)) mh.meq
        dsimp only
        rw [E, zb2_s]
        exact DR.pre mh.meq (fun c hc => hup_n (by omega)) (M_d222 X1 K1 k66 mh.2.2.2 x1 x2 (nI a) x4 x5 x8)
/-- one step from y to y' -/
theorem M_d92 (X : MX h m (40 * num) n p b W M s) (K : MK h m s.1 u l r) (k66 : K66) (hg : good W M 8 0 n) (hn20 : n ≤ 20) (hw : w < 4) {x : Nat × Nat × Bool} (kx : qok (.ok x)) (h0 : kpt u l r 0 x) {y y' a : Nat} (hy : y < 8) (hy' : y' < 8) (ha : a < 8) {s0 s1 : Int32} (hs : s0 + s1 = nI y') (x4 x5 : Int32) : DR (f_M_drift_92 m k66 s0 s1 (nI num) (nI w) (nI a) x4 x5 (nI y) h) k66 (nI num) (nI w) (nI a) x4 x5 (nI y') h m num n p b W M s (dsq (decide (y = a)) x (evw W M p (bam b w) y y')) := by
  obtain ⟨h1, s1', u1, l1, r1, E1, X1, K1, V1, J1, e1, f1⟩ := M_findKept (k := 1) X K hg hn20 hw hy hy' (by decide)
  have kv := evw_ok W M p (bam b w) y y'
  have h0' : kpt u1 l1 r1 0 x := by
    obtain ⟨j0, j1, j2⟩ := J1 0 (by decide)
    exact ⟨j0.trans h0.1, j1.trans h0.2.1, j2.trans h0.2.2⟩
  obtain ⟨g28, g29, g30, a0, a1, a2⟩ := K1.gu X1 (k := 0) (by decide)
  obtain ⟨-, -, -, b0, b1, b2⟩ := K1.gu X1 (k := 1) (by decide)
  unfold f_M_drift_92
  rw [hs, show f_M_findKept m (nI num) (nI w) (nI y) (nI y') (1 : Int32) h = _ from E1, zb2_s]
  by_cases c : y = a
  · rw [if_pos (show nI y = nI a by rw [c])]
    unfold f_M_drift_133
    exact DR.pre e1 f1 (M_d134 X1 K1 k66 kv kx h0' V1 hy ha (nI num) (nI w) x4 x5 (nI y') false (fun e => by cases e) (fun _ d => absurd c d))
  · rw [if_neg (show ¬ nI y = nI a from fun e => c ((nI_eq (by omega) (by omega)).mp e)), g30]
    simp only [Option.bind_some]
    rw [show aI h1 2 (m + 18) 0 = some (r1 0) from a2, show aI h1 2 (m + 18) 1 = some (r1 1) from b2]
    simp only [Option.bind_some]
    by_cases d : r1 0 = r1 1
    · rw [if_pos d]
      unfold f_M_drift_133
      refine DR.pre e1 f1 (M_d134 X1 K1 k66 kv kx h0' V1 hy ha (nI num) (nI w) x4 x5 (nI y') false (fun e => by cases e) (fun _ _ v e => ?_))
      have := V1 v e
      rw [h0'.2.2, this.2.2] at d
      exact bI_eq.mp d
    · rw [if_neg d]
      refine DR.pre e1 f1 (M_d134 X1 K1 k66 kv kx h0' V1 hy ha (nI num) (nI w) x4 x5 (nI y') true (fun _ v e => ⟨c, fun q => d ?_⟩) (fun e => by cases e))
      have := V1 v e
      rw [h0'.2.2, this.2.2, q]
end
section
variable {m num n w : Nat} {p b W M : Nat → Nat}
/-- the steps behind the first one -/
theorem M_dloop (hg : good W M 8 0 n) (hn20 : n ≤ 20) (hw : w < 4) {a z : Nat} (ha : a < 8) (hz : z < 8) (x5 : Int32) : ∀ (k f y : Nat) (h : Hp) (s : St) (u l : Nat → Int64) (r : Nat → Int32) (acc : QR), far y z = k → (decide (y < z) = decide (a < z) ∨ y = z) → y < 8 → y ≠ a → qok acc → MX h m (40 * num) n p b W M s → MK h m s.1 u l r → (∀ q, acc = .ok q → kpt u l r 0 q) → ((decide (a < z) = true ∧ a < y) ∨ (decide (a < z) = false ∧ y < a)) → ∃ h' s' u' l' r', f_M_drift_66 m (f + k + 1) (nI num) (nI w) (nI a) (nI z) x5 (mcode acc) (nI y) h = f_M_drift_236 m (nI num) (nI w) (nI a) (nI z) x5 (mcode (lnk (evw W M p (bam b w)) (decide (a < z)) k y acc)) h' ∧ MX h' m (40 * num) n p b W M s' ∧ MK h' m s'.1 u' l' r' ∧ (∀ q, lnk (evw W M p (bam b w)) (decide (a < z)) k y acc = .ok q → kpt u' l' r' 0 q) ∧ MEq s.1 s'.1 ∧ MFr h h' m := by
  intro k
  induction k with
  | zero =>
    intro f y h s u l r acc hk hd hy hya ka X K V side
    have e : y = z := by unfold far at hk; omega
    subst e
    refine ⟨h, s, u, l, r, ?_, X, K, V, fun _ _ _ _ _ _ _ => rfl, fun _ _ => rfl⟩
    show t_M_drift_66 _ _ _ _ _ _ _ _ _ _ = _
    unfold t_M_drift_66 lnk
    by_cases c : mcode acc = 0
    · rw [if_pos c, if_pos rfl]
    · rw [if_neg c]
  | succ k ih =>
    intro f y h s u l r acc hk hd hy hya ka X K V side
    have yz : y ≠ z := fun e => by subst e; unfold far at hk; omega
    have hd : decide (y < z) = decide (a < z) := hd.resolve_right yz
    cases acc with
    | error e =>
      rw [lnk_err]
      refine ⟨h, s, u, l, r, ?_, X, K, fun q e => (by cases e), fun _ _ _ _ _ _ _ => rfl, fun _ _ => rfl⟩
      show t_M_drift_66 _ _ _ _ _ _ _ _ _ _ = _
      unfold t_M_drift_66
      rw [if_neg (show ¬ mcode (.error e) = 0 from err_ne ka)]
    | ok x =>
      have kv := evw_ok W M p (bam b w) y (nx (decide (a < z)) y)
      -- the next year
      obtain ⟨y', ey, hy', s1, hs, hb⟩ : ∃ y', y' = nx (decide (a < z)) y ∧ y' < 8 ∧ ∃ s1 : Int32, nI y + s1 = nI y' ∧ (if nI z ≤ nI y then f_M_drift_92 m (f_M_drift_66 m (f + k + 1)) (nI y) (-1 : Int32) (nI num) (nI w) (nI a) (nI z) x5 (nI y) h else f_M_drift_92 m (f_M_drift_66 m (f + k + 1)) (nI y) (1 : Int32) (nI num) (nI w) (nI a) (nI z) x5 (nI y) h) = f_M_drift_92 m (f_M_drift_66 m (f + k + 1)) (nI y) s1 (nI num) (nI w) (nI a) (nI z) x5 (nI y) h := by
        refine ⟨_, rfl, ?_⟩
        rw [← hd]
        by_cases c : y < z
        · rw [decide_eq_true c]
          exact ⟨show y + 1 < 8 by omega, 1, nI_1 y, by rw [if_neg (nI_ge c (by omega))]⟩
        · rw [decide_eq_false c]
          refine ⟨show y - 1 < 8 by omega, -1, ?_, by rw [if_pos (nI_le (by omega) (by omega))]⟩
          obtain ⟨t, rfl⟩ : ∃ t, y = t + 1 := ⟨y - 1, by omega⟩
          show nI (t + 1) + -1 = nI t
          rw [← nI_pred t, Int32.sub_eq_add_neg]
      obtain ⟨h1, s1', u1, l1, r1, E1, X1, K1, V1, e1, f1⟩ := M_d92 X K (f_M_drift_66 m (f + k + 1)) hg hn20 hw ka (V x rfl) hy hy' ha hs (nI z) x5
      have edq : dsq (decide (y = a)) x (evw W M p (bam b w) y y') = qmul (.ok x) (evw W M p (bam b w) y y') := by
        unfold dsq
        rw [if_neg (by simpa using hya)]
      rw [edq] at E1 V1
      have farS : far y' z = k := by
        rw [ey]
        unfold far at hk ⊢
        rw [← hd]
        by_cases c : y < z
        · rw [decide_eq_true c]; show y + 1 - z + (z - (y + 1)) = k; omega
        · rw [decide_eq_false c]; show y - 1 - z + (z - (y - 1)) = k; omega
      have side' : ((decide (a < z) = true ∧ a < y') ∨ (decide (a < z) = false ∧ y' < a)) ∧ (decide (y' < z) = decide (a < z) ∨ y' = z) := by
        rw [ey]
        rcases side with ⟨d, c⟩ | ⟨d, c⟩
        · rw [d] at hd ⊢
          have hyz : y < z := by simpa using hd
          refine ⟨Or.inl ⟨rfl, show a < y + 1 by omega⟩, ?_⟩
          by_cases c2 : y + 1 = z
          · exact Or.inr c2
          · exact Or.inl (decide_eq_true (show y + 1 < z by omega))
        · rw [d] at hd ⊢
          have hyz : ¬ y < z := by simpa using hd
          refine ⟨Or.inr ⟨rfl, show y - 1 < a by omega⟩, ?_⟩
          by_cases c2 : y - 1 = z
          · exact Or.inr c2
          · exact Or.inl (decide_eq_false (show ¬ y - 1 < z by omega))
      have hya' : y' ≠ a := by
        rcases side'.1 with ⟨-, c⟩ | ⟨-, c⟩ <;> omega
      obtain ⟨h2, s2, u2, l2, r2, E2, X2, K2, V2, e2, f2⟩ := ih f y' h1 s1' u1 l1 r1 (qmul (.ok x) (evw W M p (bam b w) y y')) farS side'.2 hy' hya' (qmul_ok ka (evw_ok _ _ _ _ _ _)) X1 K1 V1 side'.1
      have el : lnk (evw W M p (bam b w)) (decide (a < z)) (k + 1) y (.ok x) = lnk (evw W M p (bam b w)) (decide (a < z)) k y' (qmul (.ok x) (evw W M p (bam b w) y y')) := by
        rw [ey]
        rfl
      rw [el]
      refine ⟨h2, s2, u2, l2, r2, ?_, X2, K2, V2, e1.trans e2, MFr.trans f1 f2⟩
      rw [← E2, ← E1]
      show t_M_drift_66 _ (f_M_drift_66 m (f + k + 1)) _ _ _ _ _ _ _ _ = _
      unfold t_M_drift_66
      rw [if_pos (show mcode (.ok x) = 0 from rfl), if_neg (show ¬ nI y = nI z from fun e => yz ((nI_eq (by omega) (by omega)).mp e)), hb]
/-- the whole chain -/
theorem M_dall (hg : good W M 8 0 n) (hn20 : n ≤ 20) (hw : w < 4) {a z : Nat} (ha : a < 8) (hz : z < 8) (x5 : Int32) {h : Hp} {s : St} {u l : Nat → Int64} {r : Nat → Int32} (X : MX h m (40 * num) n p b W M s) (K : MK h m s.1 u l r) (V : kpt u l r 0 (1, 1, false)) : ∃ h' s' u' l' r', f_M_drift_66 m FU (nI num) (nI w) (nI a) (nI z) x5 0 (nI a) h = f_M_drift_236 m (nI num) (nI w) (nI a) (nI z) x5 (mcode (evl W M p (bam b w) a z)) h' ∧ MX h' m (40 * num) n p b W M s' ∧ MK h' m s'.1 u' l' r' ∧ (∀ q, evl W M p (bam b w) a z = .ok q → kpt u' l' r' 0 q) ∧ MEq s.1 s'.1 ∧ MFr h h' m := by
  have el : evl W M p (bam b w) a z = lnq (evw W M p (bam b w)) a z := rfl
  rw [el]
  unfold lnq
  by_cases c : a = z
  · subst c
    rw [if_pos rfl]
    refine ⟨h, s, u, l, r, ?_, X, K, fun q e => (by cases e; exact V), fun _ _ _ _ _ _ _ => rfl, fun _ _ => rfl⟩
    show t_M_drift_66 _ _ _ _ _ _ _ _ _ _ = _
    unfold t_M_drift_66
    rw [if_pos rfl, if_pos rfl]
    rfl
  · rw [if_neg c]
    obtain ⟨y', ey, hy', s1, hs, hb⟩ : ∃ y', y' = nx (decide (a < z)) a ∧ y' < 8 ∧ ∃ s1 : Int32, nI a + s1 = nI y' ∧ (if nI z ≤ nI a then f_M_drift_92 m (f_M_drift_66 m 99999) (nI a) (-1 : Int32) (nI num) (nI w) (nI a) (nI z) x5 (nI a) h else f_M_drift_92 m (f_M_drift_66 m 99999) (nI a) (1 : Int32) (nI num) (nI w) (nI a) (nI z) x5 (nI a) h) = f_M_drift_92 m (f_M_drift_66 m 99999) (nI a) s1 (nI num) (nI w) (nI a) (nI z) x5 (nI a) h := by
      refine ⟨_, rfl, ?_⟩
      by_cases c : a < z
      · rw [decide_eq_true c]
        exact ⟨show a + 1 < 8 by omega, 1, nI_1 a, by rw [if_neg (nI_ge c (by omega))]⟩
      · rw [decide_eq_false c]
        refine ⟨show a - 1 < 8 by omega, -1, ?_, by rw [if_pos (nI_le (by omega) (by omega))]⟩
        obtain ⟨t, rfl⟩ : ∃ t, a = t + 1 := ⟨a - 1, by omega⟩
        show nI (t + 1) + -1 = nI t
        rw [← nI_pred t, Int32.sub_eq_add_neg]
    obtain ⟨h1, s1', u1, l1, r1, E1, X1, K1, V1, e1, f1⟩ := M_d92 X K (f_M_drift_66 m 99999) hg hn20 hw one_ok V ha hy' ha hs (nI z) x5
    have edq : dsq (decide (a = a)) (1, 1, false) (evw W M p (bam b w) a y') = evw W M p (bam b w) a y' := by
      unfold dsq
      rw [if_pos (by simp)]
    rw [edq] at E1 V1
    have k7 : far y' z = far a z - 1 ∧ far y' z ≤ 7 := by
      rw [ey]
      unfold far
      by_cases d : a < z
      · rw [decide_eq_true d]; show a + 1 - z + (z - (a + 1)) = a - z + (z - a) - 1 ∧ a + 1 - z + (z - (a + 1)) ≤ 7; omega
      · rw [decide_eq_false d]; show a - 1 - z + (z - (a - 1)) = a - z + (z - a) - 1 ∧ a - 1 - z + (z - (a - 1)) ≤ 7; omega
    have side : ((decide (a < z) = true ∧ a < y') ∨ (decide (a < z) = false ∧ y' < a)) ∧ (decide (y' < z) = decide (a < z) ∨ y' = z) ∧ y' ≠ a := by
      rw [ey]
      by_cases d : a < z
      · rw [decide_eq_true d]
        refine ⟨Or.inl ⟨rfl, show a < a + 1 by omega⟩, ?_, show a + 1 ≠ a by omega⟩
        by_cases c2 : a + 1 = z
        · exact Or.inr c2
        · exact Or.inl (decide_eq_true (show a + 1 < z by omega))
      · rw [decide_eq_false d]
        refine ⟨Or.inr ⟨rfl, show a - 1 < a by omega⟩, ?_, show a - 1 ≠ a by omega⟩
        by_cases c2 : a - 1 = z
        · exact Or.inr c2
        · exact Or.inl (decide_eq_false (show ¬ a - 1 < z by omega))
    obtain ⟨h2, s2, u2, l2, r2, E2, X2, K2, V2, e2, f2⟩ := M_dloop hg hn20 hw ha hz x5 (far y' z) (99998 - far y' z) y' h1 s1' u1 l1 r1 (evw W M p (bam b w) a y') rfl side.2.1 hy' side.2.2 (evw_ok _ _ _ _ _ _) X1 K1 V1 side.1
    have fu : 99998 - far y' z + far y' z + 1 = 99999 := by omega
    rw [fu] at E2
    rw [k7.1, ey] at E2 V2
    rw [ey] at E1
    refine ⟨h2, s2, u2, l2, r2, ?_, X2, K2, V2, e1.trans e2, MFr.trans f1 f2⟩
    rw [← E2, ← E1]
    show t_M_drift_66 _ (f_M_drift_66 m 99999) _ _ _ _ _ _ _ _ = _
    unfold t_M_drift_66
    rw [if_pos rfl, if_neg (show ¬ nI a = nI z from fun e => c ((nI_eq (by omega) (by omega)).mp e)), hb]
/-- what the chain and the whole step make of each other -/
def dfq (x v : QR) : QR := match x, v with
  | .error e, _ => .error e
  | .ok _, .error e => .error e
  | .ok x, .ok v => if x.2.2 = true ∨ v.2.2 = true then .error eNOT else qmul (.ok x) (qinv (.ok v))
theorem dfq_ok {x v : QR} (hx : qok x) (hv : qok v) : qok (dfq x v) := by
  unfold dfq
  cases x with
  | error e => exact hx
  | ok x =>
    cases v with
    | error e => exact hv
    | ok v =>
      dsimp only
      split
      · exact Or.inl rfl
      · exact qmul_ok hx (qinv_ok hv)
/-- an answer in two parts -/
def two (R : QR) (j : Nat) : Int64 := match R with
  | .error e => e.toInt64
  | .ok x => if j = 0 then lN x.1 else lN x.2.1
theorem M_d332 {h : Hp} {s : St} {base : Nat} (X : MX h m base n p b W M s) {R : QR} (kR : qok R) (hR : ∀ q, R = .ok q → hnd s.1 q) {j : Nat} (hj : j ≤ 1) : f_M_drift_332 m (mcode R) (nI j) h = some (two R j, h) := by
  unfold f_M_drift_332 two
  cases R with
  | error e =>
    rw [if_neg (show ¬ (0 : Int32) ≤ mcode (.error e) from qneg kR)]
    rfl
  | ok q =>
    rw [if_pos (show (0 : Int32) ≤ mcode (.ok q) from (by decide : (0 : Int32) ≤ 0)), X.h14 (hR q rfl), X.h15 (hR q rfl)]
    rcases (by omega : j = 0 ∨ j = 1) with rfl | rfl
    · rfl
    · rfl
theorem M_d236 (hg : good W M 8 0 n) (hn20 : n ≤ 20) (hw : w < 4) {a z j : Nat} (ha : a < 8) (hz : z < 8) (hj : j ≤ 1) {h : Hp} {s : St} {u l : Nat → Int64} {r : Nat → Int32} (X : MX h m (40 * num) n p b W M s) (K : MK h m s.1 u l r) (A : MWas h m s.1) {R : QR} (kR : qok R) (V : ∀ q, R = .ok q → kpt u l r 0 q) : ∃ h' s' u' l' r', f_M_drift_236 m (nI num) (nI w) (nI a) (nI z) (nI j) (mcode R) h = some (two (dfq R (evw W M p (bam b w) a z)) j, h') ∧ MX h' m (40 * num) n p b W M s' ∧ MK h' m s'.1 u' l' r' ∧ MWas h' m s'.1 ∧ MEq s.1 s'.1 ∧ MFr h h' m := by
  unfold f_M_drift_236
  cases R with
  | error e =>
    rw [if_neg (show ¬ (0 : Int32) ≤ mcode (.error e) from qneg kR)]
    unfold f_M_drift_256
    rw [if_neg (show ¬ (0 : Int32) ≤ mcode (.error e) from qneg kR), M_d332 X kR (fun q e => by cases e) hj]
    exact ⟨h, s, u, l, r, rfl, X, K, A, fun _ _ _ _ _ _ _ => rfl, fun _ _ => rfl⟩
  | ok x =>
    rw [if_pos (show (0 : Int32) ≤ mcode (.ok x) from (by decide : (0 : Int32) ≤ 0))]
    obtain ⟨h1, s1, u1, l1, r1, E1, X1, K1, V1, J1, e1, f1⟩ := M_findKept (k := 1) X K hg hn20 hw ha hz (by decide)
    have A1 : MWas h1 m s1.1 := A.cong (fun c x y => f1 c (by omega)) e1
    have kv := evw_ok W M p (bam b w) a z
    rw [show f_M_findKept m (nI num) (nI w) (nI a) (nI z) (1 : Int32) h = _ from E1, zb2_s]
    unfold f_M_drift_256
    cases hv : evw W M p (bam b w) a z with
    | error e =>
      rw [hv] at kv
      rw [if_neg (show ¬ (0 : Int32) ≤ mcode (.error e) from qneg kv), M_d332 X1 kv (fun q e => by cases e) hj]
      exact ⟨h1, s1, u1, l1, r1, rfl, X1, K1, A1, e1, f1⟩
    | ok v =>
      rw [hv] at kv
      obtain ⟨g28, g29, g30, a0, a1, a2⟩ := K1.gu X1 (k := 0) (by decide)
      obtain ⟨-, -, -, b0, b1, b2⟩ := K1.gu X1 (k := 1) (by decide)
      have x0 := V x rfl
      obtain ⟨j0, j1, j2⟩ := J1 0 (by decide)
      obtain ⟨v0, v1, v2⟩ := V1 v hv
      rw [j0.trans x0.1] at a0
      rw [j1.trans x0.2.1] at a1
      rw [j2.trans x0.2.2] at a2
      rw [v0] at b0
      rw [v1] at b1
      rw [v2] at b2
      have nots : ∀ {R : QR}, R = .error eNOT → ∃ h' s' u' l' r', f_M_drift_297 m (nI j) h1 = some (two R j, h') ∧ MX h' m (40 * num) n p b W M s' ∧ MK h' m s'.1 u' l' r' ∧ MWas h' m s'.1 ∧ MEq s.1 s'.1 ∧ MFr h h' m := by
        rintro R rfl
        unfold f_M_drift_297
        rw [show (-1003 : Int32) = mcode (.error eNOT) from rfl, M_d332 X1 (R := .error eNOT) (Or.inl rfl) (fun q e => by cases e) hj]
        exact ⟨h1, s1, u1, l1, r1, rfl, X1, K1, A1, e1, f1⟩
      obtain ⟨xu, xl, xt⟩ := x
      obtain ⟨vu, vl, vt⟩ := v
      obtain ⟨bu, bl, vlp, mu, ml, vcop⟩ := qok_b kv
      rw [if_pos (show (0 : Int32) ≤ mcode (.ok (vu, vl, vt)) from (by decide : (0 : Int32) ≤ 0)), g28, g29, g30]
      simp only [Option.bind_some]
      rw [show aI h1 2 (m + 18) 0 = some (bI xt) from a2, show aI h1 2 (m + 18) 1 = some (bI vt) from b2, show aL h1 (m + 16) 1 = some (lN vu) from b0, show aL h1 (m + 16) 0 = some (lN xu) from a0, show aL h1 (m + 17) 0 = some (lN xl) from a1, show aL h1 (m + 17) 1 = some (lN vl) from b1]
      simp only [Option.bind_some]
      cases xt with
      | true =>
        rw [if_neg (show ¬ bI true = 0 by decide)]
        exact nots (by unfold dfq; dsimp only; rw [if_pos (Or.inl rfl)])
      | false =>
        rw [if_pos (show bI false = 0 from rfl)]
        cases vt with
        | true =>
          rw [if_neg (show ¬ bI true = 0 by decide)]
          exact nots (by unfold dfq; dsimp only; rw [if_pos (Or.inr rfl)])
        | false =>
          rw [if_pos (show bI false = 0 from rfl)]
          by_cases c : vu = 0
          · rw [if_pos (show lN vu = (0 : Int64) by rw [c]; rfl)]
            refine nots ?_
            unfold dfq
            dsimp only
            rw [if_neg (by decide)]
            simp only [qinv, qmul, if_pos c]
          · rw [if_neg (show ¬ lN vu = (0 : Int64) from fun q => c ((lN_eq0 bu).mp q))]
            have ki : qok (.ok (vl, vu, false)) := by
              have := qinv_ok kv
              simp only [qinv, if_neg c] at this
              exact this
            obtain ⟨F', E, R'⟩ := M_multiply X1.1 X1.2.2.1 kR ki
            have mh := R'.mh X1.2.2.2.1
            obtain ⟨X2, -⟩ := X1.res mh
            have K2 : MK (hup h1 m (ocell 8 40 F')) m F' u1 l1 r1 := K1.cong (fun c _ _ => hup_n (by omega)) mh.meq
            have A2 : MWas (hup h1 m (ocell 8 40 F')) m F' := A1.cong (fun c _ _ => hup_n (by omega)) mh.meq
            have ed : dfq (.ok (xu, xl, false)) (.ok (vu, vl, false)) = qmk (xu * vl) (xl * vu) false := by
              unfold dfq
              dsimp only
              rw [if_neg (by decide)]
              simp only [qinv, if_neg c, qmul]
              rw [if_pos trivial]
            have kq : qok (qmk (xu * vl) (xl * vu) false) := by
              have := qmul_ok kR ki
              simp only [qmul] at this
              rw [if_pos trivial] at this
              exact this
            rw [ed, show f_M_multiply m (lN xu) (lN xl) (lN vl) (lN vu) (0 : Int32) h1 = _ from E, zb2_s, M_d332 X2 kq mh.2.2.2 hj]
            exact ⟨_, _, u1, l1, r1, rfl, X2, K2, A2, e1.trans mh.meq, MFr.trans f1 fun c hc => hup_n (by omega)⟩
end
