/-! ===== the reference: laws without other books ===== -/
/-- whether a law is kept, or why that is not known -/
abbrev LR : Type := Except Int32 Bool
def cod (x : LR) : Int32 := match x with
  | .ok t => bI t
  | .error e => e
def isOneQ (r : QR) : LR := match r with
  | .ok q => .ok (decide (q.1 = 1 ∧ q.2.1 = 1))
  | .error e => .error e
def alikeQ (r s : QR) : LR := match r, s with
  | .error e, _ => .error e
  | .ok _, .error e => .error e
  | .ok p, .ok q => match qord p q with
    | .error _ => .error eLARGE
    | .ok o => .ok (decide (o = 0))
def MFr (h h' : Hp) (m : Nat) : Prop := ∀ c, ¬ ((m ≤ c ∧ c < m + 3) ∨ (m + 8 ≤ c ∧ c < m + 19)) → h' c = h c
theorem MFr.trans {h h1 h2 : Hp} {m : Nat} (a : MFr h h1 m) (b : MFr h1 h2 m) : MFr h h2 m := fun c x => by rw [b c x, a c x]
theorem MEq.trans {F F1 F2 : Nat → Value} (a : MEq F F1) (b : MEq F1 F2) : MEq F F2 := fun k x y z w v t => by rw [b k x y z w v t, a k x y z w v t]
theorem mcode_ge {r : QR} (k : qok r) : (0 : Int32) ≤ mcode r ↔ ∃ q, r = .ok q := by
  cases r with
  | ok q => exact ⟨fun _ => ⟨q, rfl⟩, fun _ => (by decide : (0 : Int32) ≤ 0)⟩
  | error e => exact ⟨fun h => absurd h (qneg k), fun ⟨q, h⟩ => by cases h⟩
section
variable {h : Hp} {m base n w : Nat} {p b W M : Nat → Nat} {s : St} {u l : Nat → Int64} {r : Nat → Int32}
theorem MK.gu (K : MK h m s.1 u l r) (H : MX h m base n p b W M s) {k : Nat} (hk : k < 3) : gA h m 8 28 = some (some (m + 16)) ∧ gA h m 8 29 = some (some (m + 17)) ∧ gA h m 8 30 = some (some (m + 18)) ∧ aL h (m + 16) (nI k) = some (u k) ∧ aL h (m + 17) (nI k) = some (l k) ∧ aI h 2 (m + 18) (nI k) = some (r k) := by
  obtain ⟨⟨a, b', c⟩, d, f, i⟩ := K
  have g : ∀ (x : Nat) (f : Nat → Int64), h x = some (.inl (1, 3, .inr (.inl f))) → aL h x (nI k) = some (f k) := by
    intro x f hx
    unfold aL
    rw [hx]
    simp only []
    rw [if_pos ⟨trivial, nI_in hk (by decide)⟩, nI_clamp (by omega)]
  exact ⟨oc_a H.1 (by decide) a, oc_a H.1 (by decide) b', oc_a H.1 (by decide) c, g _ _ d, g _ _ f, ai_get i hk (by decide)⟩
/-- product -/
theorem M_product (H : MX h m base n p b W M s) (K : MK h m s.1 u l r) {x y : Nat × Nat × Bool} (h0 : kpt u l r 0 x) (h1 : kpt u l r 1 y) (k1 : qok (.ok x)) (k2 : qok (.ok y)) : ∃ h' s' u' l' r', f_M_product m 0 1 h = some (mcode (qmul (.ok x) (.ok y)), h') ∧ MX h' m base n p b W M s' ∧ MK h' m s'.1 u' l' r' ∧ (∀ q, qmul (.ok x) (.ok y) = .ok q → kpt u' l' r' 0 q) ∧ MEq s.1 s'.1 ∧ MFr h h' m := by
  obtain ⟨g28, g29, g30, a0, a1, a2⟩ := K.gu H (k := 0) (by decide)
  obtain ⟨-, -, -, b0, b1, b2⟩ := K.gu H (k := 1) (by decide)
  obtain ⟨x1, x2, xt⟩ := x
  obtain ⟨y1, y2, yt⟩ := y
  obtain ⟨c0, c1, c2⟩ := h0
  obtain ⟨d0, d1, d2⟩ := h1
  rw [c0] at a0
  rw [c1] at a1
  rw [c2] at a2
  rw [d0] at b0
  rw [d1] at b1
  rw [d2] at b2
  have st : f_M_product m 0 1 h = if bI xt = bI yt then zb2 (f_M_multiply m (lN x1) (lN x2) (lN y1) (lN y2) (bI xt) h) fun i44 h45 => (f_M_keep m 0 h45).bind fun h47 => some (i44, h47) else some ((-1003 : Int32), h) := by
    unfold f_M_product
    rw [if_pos H.o, g30]
    simp only [Option.bind_some]
    rw [show aI h 2 (m + 18) 0 = some (bI xt) from a2, show aI h 2 (m + 18) 1 = some (bI yt) from b2]
    simp only [Option.bind_some]
    rw [g28, g29]
    simp only [Option.bind_some]
    rw [show aL h (m + 16) 0 = some (lN x1) from a0, show aL h (m + 17) 0 = some (lN x2) from a1, show aL h (m + 16) 1 = some (lN y1) from b0, show aL h (m + 17) 1 = some (lN y2) from b1]
    rfl
  rw [st]
  by_cases c : xt = yt
  · subst c
    rw [if_pos rfl]
    obtain ⟨F', E, R⟩ := M_multiply H.1 H.2.2.1 k1 k2
    have mh := R.mh H.2.2.2.1
    obtain ⟨H1, -⟩ := H.res mh
    have K1 : MK (hup h m (ocell 8 40 F')) m F' u l r := K.cong (fun c _ _ => hup_n (by omega)) mh.meq
    have em : qmul (.ok (x1, x2, xt)) (.ok (y1, y2, xt)) = qmk (x1 * y1) (x2 * y2) xt := by simp [qmul]
    obtain ⟨U, L, T, t1, t2, t3⟩ := mh.2.2.1
    obtain ⟨h2, u', l', r', E2, H2, K2, P2, J2, F2⟩ := M_keep (q := (U, L, T)) (k := 0) H1 K1 (by decide) ⟨t1, t2, t3⟩
    rw [em, E, zb2_s, show f_M_keep m 0 _ = some h2 from E2]
    refine ⟨h2, _, u', l', r', rfl, H2, K2, fun q hq => ?_, mh.meq, fun c hc => by rw [F2 c (by omega), hup_n (by omega)]⟩
    have v := mh.2.2.2 q hq
    have e1 : lN U = lN q.1 := by have := t1.symm.trans v.1; injection this
    have e2 : lN L = lN q.2.1 := by have := t2.symm.trans v.2.1; injection this
    have e3 : bI T = bI q.2.2 := by have := t3.symm.trans v.2.2; injection this
    exact ⟨P2.1.trans e1, P2.2.1.trans e2, P2.2.2.trans e3⟩
  · rw [if_neg (fun e => c (bI_eq.mp e))]
    have em : qmul (.ok (x1, x2, xt)) (.ok (y1, y2, yt)) = .error eNOT := by
      simp only [qmul]
      rw [if_neg c]
    rw [em]
    exact ⟨h, s, u, l, r, rfl, H, K, fun q hq => (by cases hq), fun _ _ _ _ _ _ _ => rfl, fun _ _ => rfl⟩
/-- orderKept, and what alikeKept makes of it -/
theorem M_alike (H : MX h m base n p b W M s) (K : MK h m s.1 u l r) {x y : Nat × Nat × Bool} (h0 : kpt u l r 0 x) (h1 : kpt u l r 1 y) (k1 : qok (.ok x)) (k2 : qok (.ok y)) : ∃ h' s', f_M_orderKept m 0 1 h = some (ocode (qord x y), h') ∧ MX h' m base n p b W M s' ∧ MK h' m s'.1 u l r ∧ (∀ z, qord x y = .ok z → s'.1 17 = .int z) ∧ MEq s.1 s'.1 ∧ MFr h h' m := by
  obtain ⟨g28, g29, g30, a0, a1, a2⟩ := K.gu H (k := 0) (by decide)
  obtain ⟨-, -, -, b0, b1, b2⟩ := K.gu H (k := 1) (by decide)
  obtain ⟨c0, c1, c2⟩ := h0
  obtain ⟨d0, d1, d2⟩ := h1
  rw [c0] at a0
  rw [c1] at a1
  rw [c2] at a2
  rw [d0] at b0
  rw [d1] at b1
  rw [d2] at b2
  obtain ⟨F1, E1, O1⟩ := M_orderOf H.1 H.2.2.1 H.2.2.2.1 k1 k2
  have me : MEq s.1 F1 := fun k a b c d _ _ => O1.1 k a b c d
  refine ⟨_, (F1, s.2), ?_, H.obj me O1.2.1 O1.2.2.1, K.cong (fun c _ _ => hup_n (by omega)) me, O1.2.2.2, me, fun c hc => hup_n (by omega)⟩
  unfold f_M_orderKept
  rw [if_pos H.o, g28, g29, g30]
  simp only [Option.bind_some]
  rw [show aL h (m + 16) 0 = some (lN x.1) from a0, show aL h (m + 17) 0 = some (lN x.2.1) from a1, show aI h 2 (m + 18) 0 = some (bI x.2.2) from a2, show aL h (m + 16) 1 = some (lN y.1) from b0, show aL h (m + 17) 1 = some (lN y.2.1) from b1, show aI h 2 (m + 18) 1 = some (bI y.2.2) from b2]
  simp only [Option.bind_some]
  rw [E1, zb2_s]
theorem M_alikeKept (H : MX h m base n p b W M s) (K : MK h m s.1 u l r) {x y : Nat × Nat × Bool} (h0 : kpt u l r 0 x) (h1 : kpt u l r 1 y) (k1 : qok (.ok x)) (k2 : qok (.ok y)) : ∃ h' s', f_M_alikeKept m 0 h = some (cod (alikeQ (.ok x) (.ok y)), h') ∧ MX h' m base n p b W M s' ∧ MK h' m s'.1 u l r ∧ MEq s.1 s'.1 ∧ MFr h h' m := by
  obtain ⟨h', s', E, H', K', z, e, f⟩ := M_alike H K h0 h1 k1 k2
  refine ⟨h', s', ?_, H', K', e, f⟩
  unfold f_M_alikeKept
  rw [if_pos H.o, if_pos (by decide), E, zb2_s]
  unfold f_M_alikeKept_14 alikeQ
  rcases qord_cs x y with c | ⟨i, j, c⟩
  · rw [c, if_neg (by decide)]
    dsimp only
    rw [c]
    rfl
  · rw [c, if_pos (show (0 : Int32) ≤ ocode (.ok (cmp3 i j)) from (by decide : (0 : Int32) ≤ 0)), oc_i H'.1 (by decide) (z _ c), Option.bind_some]
    dsimp only
    rw [c]
    dsimp only
    by_cases d : cmp3 i j = 0
    · rw [if_pos d, decide_eq_true d]; rfl
    · rw [if_neg d, decide_eq_false d]; rfl
theorem M_alikeErr (H : MX h m base n p b W M s) {e : Int32} (k : qok (.error e)) : f_M_alikeKept m e h = some (e, h) := by
  unfold f_M_alikeKept
  rw [if_pos H.o, if_neg (qneg k)]
  unfold f_M_alikeKept_14
  rw [if_neg (qneg k)]
theorem M_isOneKept (H : MX h m base n p b W M s) (K : MK h m s.1 u l r) {x : QR} (hx : ∀ q, x = .ok q → kpt u l r 0 q) (k : qok x) : f_M_isOneKept m h (mcode x) = some (cod (isOneQ x)) := by
  unfold f_M_isOneKept
  rw [if_pos H.o]
  cases x with
  | error e =>
    rw [if_neg (show ¬ (0 : Int32) ≤ mcode (.error e) from qneg k)]
    rfl
  | ok q =>
    obtain ⟨c0, c1, c2⟩ := hx q rfl
    obtain ⟨g28, g29, g30, a0, a1, a2⟩ := K.gu H (k := 0) (by decide)
    rw [c0] at a0
    rw [c1] at a1
    have bb := qok_b k
    rw [if_pos (show (0 : Int32) ≤ mcode (.ok q) from (by decide : (0 : Int32) ≤ 0)), g28, Option.bind_some, Option.bind_some, show aL h (m + 16) 0 = some (lN q.1) from a0, Option.bind_some, g29, Option.bind_some, Option.bind_some, show aL h (m + 17) 0 = some (lN q.2.1) from a1, Option.bind_some]
    unfold isOneQ
    dsimp only
    by_cases e1 : q.1 = 1
    · rw [if_pos (by rw [e1]; rfl)]
      by_cases e2 : q.2.1 = 1
      · rw [if_pos (by rw [e2]; rfl), decide_eq_true (⟨e1, e2⟩ : q.1 = 1 ∧ q.2.1 = 1)]; rfl
      · rw [if_neg (show ¬ lN q.2.1 = (1 : Int64) from fun c => e2 ((pk_lEQ bb.2.1 (by decide)).mp (show lN q.2.1 = lN 1 from c))), decide_eq_false (fun c => e2 c.2)]; rfl
    · rw [if_neg (show ¬ lN q.1 = (1 : Int64) from fun c => e1 ((pk_lEQ bb.1 (by decide)).mp (show lN q.1 = lN 1 from c))), decide_eq_false (fun c => e1 c.1)]; rfl
end
