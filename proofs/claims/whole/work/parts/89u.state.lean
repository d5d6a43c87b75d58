/-! ===== the two states ===== -/
def YC (S mk : Nat) (lf : Int32) : zE := .inr (7, [.ref (S + 1), .ref (S + 4), .ref (S + 7), .ref (S + 32), .ref (S + 34), .ref (S + 45), .ref (S + 53), .ref (S + 57), .ref (S + 58), .int (nI mk), .int lf])
/-- the likes -/
def KI (h : Hp) (S : Nat) : Prop := h (S + 53) = some (.inr (3, [.ref (S + 1), .ref (S + 54), .ref (S + 55), .ref (S + 56)])) ∧ (∃ A : Nat → Int32, h (S + 54) = some (.inl (0, 64, .inl A))) ∧ (∃ A : Nat → Int32, h (S + 55) = some (.inl (0, 8, .inl A))) ∧ ∃ A : Nat → Int32, h (S + 56) = some (.inl (2, 8, .inl A))
/-- the class -/
def CI (h : Hp) (S mk : Nat) (T : Nt) (p q pr br tx : Nat → Nat) (len : Nat) (lf : Int32) : Prop := h S = some (YC S mk lf) ∧ (∃ PF : Nat → Option Nat, h (S + 7) = some (.inl (4, 8, .inr (.inr (.inr (.inr PF))))) ∧ ∀ k, k < 8 → PF k = some (S + 8 + 3 * k)) ∧ (∀ k, k < 8 → ∃ s WF MF, PX h (S + 8 + 3 * k) s WF MF) ∧ LA h S mk T p q pr br ∧ RZ h (S + 32) tx len ∧ (FX h (S + 57) ∧ FX h (S + 58)) ∧ KI h S ∧ ∃ A : Nat → Int32, h (S + 50) = some (.inl (0, 8, .inl A))
/-- the reference's rows that no number asks for -/
def XI (h : Hp) (m : Nat) (F : Nat → Value) : Prop := (F 36 = .ref (m + 21) ∧ F 37 = .ref (m + 22) ∧ F 38 = .ref (m + 23) ∧ F 39 = .ref (m + 24)) ∧ (∃ A : Nat → Int32, h (m + 21) = some (.inl (0, 8, .inl A))) ∧ (∃ A : Nat → Int32, h (m + 22) = some (.inl (2, 1100, .inl A))) ∧ (∃ A : Nat → Int32, h (m + 23) = some (.inl (2, 1100, .inl A))) ∧ ∃ A : Nat → Int32, h (m + 24) = some (.inl (0, 100, .inl A))
/-- the reference -/
def MI (h : Hp) (m mk : Nat) (T : Nt) (pr br tx : Nat → Nat) (len : Nat) (lf : Int32) (F : Nat → Value) : Prop := (h m = some (ocell 8 40 F) ∧ mRef F m ∧ mTy F ∧ (∃ z : Int32, F 17 = .int z)) ∧ MB h m pr br ∧ (∀ n, n < mk → MN h m (40 * n) (nl T n) (nW T n) (nM T n)) ∧ (∃ s : St, s.1 = F ∧ MA h m s) ∧ (∃ u l r, MK h m F u l r) ∧ MWas h m F ∧ (∃ t, MR h m F tx len t) ∧ F 2 = .int (nI mk) ∧ F 7 = .int lf ∧ XI h m F
def zInv (S : Nat) (h : Hp) : Prop := ∃ mk T p q pr br tx len lf F, mk ≤ 8 ∧ RB p q pr br ∧ (∀ k, 40 ≤ k → k < 50 → pr k = 0) ∧ CI h S mk T p q pr br tx len lf ∧ MI h (S + 59) mk T pr br tx len lf F
section
variable {h h' : Hp} {S m mk : Nat} {T : Nt} {p q pr br tx : Nat → Nat} {len : Nat} {lf : Int32} {F F' : Nat → Value}
theorem RZ.cong {h h' : Hp} {R len : Nat} {tx : Nat → Nat} (H : RZ h R tx len) (e : ∀ c, R ≤ c → c < R + 2 → h' c = h c) : RZ h' R tx len := by
  obtain ⟨⟨x2, x3, x4, x5, a⟩, b, c⟩ := H
  exact ⟨⟨x2, x3, x4, x5, by rw [e _ (by omega) (by omega)]; exact a⟩, b.cong (e _ (by omega) (by omega)), c⟩
theorem FX.cong {h h' : Hp} {c : Nat} (H : FX h c) (e : h' c = h c) : FX h' c := by
  obtain ⟨u, l, t, f, g⟩ := H
  exact ⟨u, l, t, f, e.trans g⟩
theorem TZ.cong {h h' : Hp} {T : Nat} (H : TZ h T) (e : ∀ c, T ≤ c → c < T + 11 → h' c = h c) : TZ h' T := by
  obtain ⟨⟨x1, x2, x3, h0⟩, ⟨F, h1, h2⟩, h3⟩ := H
  exact ⟨⟨x1, x2, x3, by rw [e _ (by omega) (by omega)]; exact h0⟩, ⟨F, by rw [e _ (by omega) (by omega)]; exact h1, h2⟩, fun c x y => (h3 c x y).cong (e c (by omega) (by omega))⟩
theorem LV.cong {pl : Value} {w t : Int32} {c : Rc} (H : LV h S p q pl w t c) (e : ∀ a, S + 1 ≤ a → a < S + 53 → h' a = h a) : LV h' S p q pl w t c := by
  obtain ⟨b, ⟨pt, qt, tr⟩, z, l, u, v, k, x, y⟩ := H
  exact ⟨b.cong fun c _ _ => e c (by omega) (by omega), ⟨pt, qt, tr.cong fun c _ _ => e c (by omega) (by omega)⟩, z.cong fun c _ _ => e c (by omega) (by omega), by rw [e _ (by omega) (by omega)]; exact l, by rw [e _ (by omega) (by omega)]; exact u, by rw [e _ (by omega) (by omega)]; exact v, by rw [e _ (by omega) (by omega)]; exact k, x.cong (e _ (by omega) (by omega)), y.cong (e _ (by omega) (by omega))⟩
theorem LA.cong (H : LA h S mk T p q pr br) (hm : mk ≤ 8) (e : ∀ a, S + 1 ≤ a → a < S + 53 → h' a = h a) : LA h' S mk T p q pr br := by
  obtain ⟨pl, w, t, c, FF, V, F49, oF, oT, P⟩ := H
  exact ⟨pl, w, t, c, FF, V.cong e, by rw [e _ (by omega) (by omega)]; exact F49, oF, oT, P.cong hm fun c _ _ => e c (by omega) (by omega)⟩
theorem KI.cong (H : KI h S) (e : ∀ c, S + 53 ≤ c → c < S + 57 → h' c = h c) : KI h' S := by
  obtain ⟨a, b, c, d⟩ := H
  rw [← e _ (by omega) (by omega)] at a
  rw [← e _ (by omega) (by omega)] at b
  rw [← e _ (by omega) (by omega)] at c
  rw [← e _ (by omega) (by omega)] at d
  exact ⟨a, b, c, d⟩
theorem XI.cong (H : XI h m F) (e : ∀ c, m + 21 ≤ c → c < m + 25 → h' c = h c) (g : ∀ k, 36 ≤ k → k < 40 → F' k = F k) : XI h' m F' := by
  obtain ⟨⟨x, y, z, w⟩, a, b, c, d⟩ := H
  rw [← e _ (by omega) (by omega)] at a
  rw [← e _ (by omega) (by omega)] at b
  rw [← e _ (by omega) (by omega)] at c
  rw [← e _ (by omega) (by omega)] at d
  exact ⟨⟨by rw [g 36 (by omega) (by omega)]; exact x, by rw [g 37 (by omega) (by omega)]; exact y, by rw [g 38 (by omega) (by omega)]; exact z, by rw [g 39 (by omega) (by omega)]; exact w⟩, a, b, c, d⟩
/-- the class's part speaks of its own cells alone -/
theorem CI.cong (H : CI h S mk T p q pr br tx len lf) (hm : mk ≤ 8) (e : ∀ c, S ≤ c → c < S + 59 → h' c = h c) : CI h' S mk T p q pr br tx len lf := by
  obtain ⟨a, ⟨PF, b1, b2⟩, c, d, f, ⟨g1, g2⟩, i, A, j⟩ := H
  exact ⟨by rw [e _ (by omega) (by omega)]; exact a, ⟨PF, by rw [e _ (by omega) (by omega)]; exact b1, b2⟩, fun k hk => by
    obtain ⟨s, WF, MF, X⟩ := c k hk
    exact ⟨s, WF, MF, X.cong fun c _ _ => e c (by omega) (by omega)⟩, d.cong hm fun c _ _ => e c (by omega) (by omega), f.cong fun c _ _ => e c (by omega) (by omega), ⟨g1.cong (e _ (by omega) (by omega)), g2.cong (e _ (by omega) (by omega))⟩, i.cong fun c _ _ => e c (by omega) (by omega), A, by rw [e _ (by omega) (by omega)]; exact j⟩
theorem MR.cong {t : Pt} (H : MR h m F tx len t) (e0 : h' m = some (ocell 8 40 F')) (e : ∀ c, m + 3 ≤ c → c < m + 8 → h' c = h c) (g : ∀ k, k = 3 ∨ k = 4 ∨ k = 5 ∨ k = 10 ∨ k = 11 ∨ k = 6 → F' k = F k) : MR h' m F' tx len t := by
  obtain ⟨-, ⟨b1, b2, b3, b4, b5, b6⟩, c, d, f, i, j, k, l⟩ := H
  exact ⟨e0, ⟨by rw [g 3 (by omega)]; exact b1, by rw [g 4 (by omega)]; exact b2, by rw [g 5 (by omega)]; exact b3, by rw [g 10 (by omega)]; exact b4, by rw [g 11 (by omega)]; exact b5, by rw [g 6 (by omega)]; exact b6⟩, c.cong (e _ (by omega) (by omega)), d, f, by rw [e _ (by omega) (by omega)]; exact i, by rw [e _ (by omega) (by omega)]; exact j, by rw [e _ (by omega) (by omega)]; exact k, by rw [e _ (by omega) (by omega)]; exact l⟩
theorem MA.cong {s : St} (H : MA h m s) (e : ∀ c, m + 8 ≤ c → c < m + 16 → h' c = h c) : MA h' m s := by
  obtain ⟨a, b, c⟩ := H
  exact ⟨fun k hk => by rw [e _ (by omega) (by omega)]; exact a k hk, fun k hk => by rw [e _ (by omega) (by omega)]; exact b k hk, by rw [e _ (by omega) (by omega)]; exact c⟩
/-- the reference's part speaks of its own cells alone -/
theorem MI.cong (H : MI h m mk T pr br tx len lf F) (e : ∀ c, m ≤ c → c < m + 25 → h' c = h c) : MI h' m mk T pr br tx len lf F := by
  obtain ⟨⟨a0, a1, a2, a3⟩, b, c, ⟨s, d1, d2⟩, ⟨u, l, r, k⟩, w, ⟨t, mr⟩, f2, f7, x⟩ := H
  have e0 : h' m = some (ocell 8 40 F) := by rw [e m (by omega) (by omega)]; exact a0
  exact ⟨⟨e0, a1, a2, a3⟩, b.cong (F := F) e0 a1 (fun c _ _ => e c (by omega) (by omega)), fun n hn => (c n hn).cong fun c _ _ => e c (by omega) (by omega), ⟨s, d1, d2.cong fun c _ _ => e c (by omega) (by omega)⟩, ⟨u, l, r, k.cong (fun c _ _ => e c (by omega) (by omega)) (fun _ _ _ _ _ _ _ => rfl)⟩, w.cong (fun c _ _ => e c (by omega) (by omega)) (fun _ _ _ _ _ _ _ => rfl), ⟨t, mr.cong e0 (fun c _ _ => e c (by omega) (by omega)) (fun _ _ => rfl)⟩, f2, f7, x.cong (fun c _ _ => e c (by omega) (by omega)) (fun _ _ _ => rfl)⟩
theorem MI.ms (H : MI h m mk T pr br tx len lf F) {n : Nat} (hn : n < mk) : MS h m (40 * n) (nl T n) pr br (nW T n) (nM T n) F := by
  obtain ⟨⟨a0, a1, a2, a3⟩, b, c, ⟨s, d1, d2⟩, ⟨u, l, r, k⟩, w, ⟨t, mr⟩, f2, f7, x⟩ := H
  subst d1
  exact ⟨s, u, l, r, rfl, ⟨a0, a1, a2, a3, b, c n hn, d2⟩, k, w⟩
theorem MI.back {n : Nat} (H : MI h m mk T pr br tx len lf F) (R : MS h' m (40 * n) (nl T n) pr br (nW T n) (nM T n) F') (g : MEq3 F F') (e : MFs h h' m) (ex : ∀ c, m + 21 ≤ c → c < m + 25 → h' c = h c) : MI h' m mk T pr br tx len lf F' := by
  obtain ⟨⟨a0, a1, a2, a3⟩, b, c, ⟨s, d1, d2⟩, ⟨u, l, r, k⟩, w, ⟨t, mr⟩, f2, f7, x⟩ := H
  obtain ⟨s', u', l', r', rfl, X, K, A⟩ := R
  refine ⟨⟨X.1, X.2.1, X.2.2.1, X.2.2.2.1⟩, X.2.2.2.2.1, fun n' hn' => ?_, ⟨s', rfl, X.2.2.2.2.2.2⟩, ⟨u', l', r', K⟩, A, ⟨t, mr.cong X.1 (fun c _ _ => e c (by omega)) (fun k hk => g k (by omega) (by omega) (by omega) (by omega) (by omega) (by omega) (by omega) (by omega) (by omega))⟩, ?_, ?_, x.cong ex (fun k h1 h2 => g k (by omega) (by omega) (by omega) (by omega) (by omega) (by omega) (by omega) (by omega) (by omega))⟩
  · obtain ⟨h0, KF, MF, h1, h2, h3⟩ := c n' hn'
    exact ⟨h0, KF, MF, by rw [e _ (by omega)]; exact h1, by rw [e _ (by omega)]; exact h2, h3⟩
  · rw [g 2 (by decide) (by decide) (by decide) (by decide) (by decide) (by decide) (by decide) (by decide) (by decide)]; exact f2
  · rw [g 7 (by decide) (by decide) (by decide) (by decide) (by decide) (by decide) (by decide) (by decide) (by decide)]; exact f7
theorem CI.o (H : CI h S mk T p q pr br tx len lf) : isO h S 7 = true := by simp [isO, H.1, YC]
theorem CI.a (H : CI h S mk T p q pr br tx len lf) : gA h S 7 0 = some (some (S + 1)) ∧ gA h S 7 1 = some (some (S + 4)) ∧ gA h S 7 2 = some (some (S + 7)) ∧ gA h S 7 3 = some (some (S + 32)) ∧ gA h S 7 4 = some (some (S + 34)) ∧ gA h S 7 5 = some (some (S + 45)) ∧ gA h S 7 6 = some (some (S + 53)) ∧ gA h S 7 7 = some (some (S + 57)) ∧ gA h S 7 8 = some (some (S + 58)) ∧ gI h S 7 9 = some (nI mk) ∧ gI h S 7 10 = some lf := by
  simp [gA, gI, gV, H.1, YC]
theorem CI.bk (H : CI h S mk T p q pr br tx len lf) : BK h (S + 1) p q := by
  obtain ⟨pl, w, t, c, FF, V, -⟩ := H.2.2.2.1
  exact V.1
theorem MI.o (H : MI h m mk T pr br tx len lf F) : isO h m 8 = true := oc_o H.1.1
theorem Y_num_in (H : CI h S mk T p q pr br tx len lf) {n : Nat} (hm : mk ≤ 8) (hn : n < mk) : f_Y_isNoNumber S h (nI n) = some 0 ∧ f_Y_planOf S h (nI n) = some (some (S + 8 + 3 * n)) := by
  obtain ⟨a0, a1, a2, a3, a4, a5, a6, a7, a8, a9, a10⟩ := H.a
  obtain ⟨PF, b1, b2⟩ := H.2.1
  constructor
  · unfold f_Y_isNoNumber
    rw [if_pos H.o, if_neg (nI_pos (by omega)), a9, Option.bind_some, if_pos (nI_lt hn (by omega))]
  · unfold f_Y_planOf
    rw [if_pos H.o, if_neg (nI_pos (by omega)), a9, Option.bind_some, if_neg (nI_ge hn (by omega)), if_pos (show nI n < (8 : Int32) from nI_lt (b := 8) (by omega) (by decide)), a2, Option.bind_some, Option.bind_some]
    have : aA h 4 (S + 7) (nI n) = some (PF n) := by
      unfold aA
      rw [b1]
      simp only []
      rw [if_pos ⟨trivial, nI_in (by omega) (by decide)⟩, nI_clamp (by omega)]
    rw [this, b2 n (by omega)]
    rfl
theorem Y_num_out (H : CI h S mk T p q pr br tx len lf) {x : Int32} (hm : mk ≤ 8) (hx : x < 0 ∨ nI mk ≤ x) : f_Y_isNoNumber S h x = some 1 := by
  obtain ⟨a0, a1, a2, a3, a4, a5, a6, a7, a8, a9, a10⟩ := H.a
  unfold f_Y_isNoNumber
  rw [if_pos H.o]
  by_cases c : x < 0
  · rw [if_pos c]
  · rw [if_neg c, a9, Option.bind_some, if_neg]
    intro d
    exact nlt_le d (hx.resolve_left c)
theorem M_num_in (H : MI h m mk T pr br tx len lf F) {n : Nat} (hm : mk ≤ 8) (hn : n < mk) : f_M_isNumber m h (nI n) = some 1 := by
  unfold f_M_isNumber
  obtain ⟨k, rfl⟩ : ∃ k, mk = k + 1 := ⟨mk - 1, by omega⟩
  rw [if_pos H.o, oc_i H.1.1 (by decide) H.2.2.2.2.2.2.2.1, Option.bind_some, nI_pred, nI_l (n := k) (by omega), M_in_in (by omega) (by omega)]
  rfl
theorem M_num_out (H : MI h m mk T pr br tx len lf F) {x : Int32} (hm : mk ≤ 8) (hx : x < 0 ∨ nI mk ≤ x) : f_M_isNumber m h x = some 0 := by
  unfold f_M_isNumber
  rw [if_pos H.o, oc_i H.1.1 (by decide) H.2.2.2.2.2.2.2.1, Option.bind_some]
  rcases Nat.eq_zero_or_pos mk with e | e
  · subst e
    have : f_M_in x.toInt64 0 (nI 0 - 1).toInt64 = some 0 := by
      unfold f_M_in
      by_cases c : x.toInt64 < 0
      · rw [if_pos c]
      · rw [if_neg c, if_pos]
        rw [l64_lt0] at c
        rw [Int32.lt_iff_toInt_lt] at c
        have e1 : (nI 0 - 1).toInt64.toInt = -1 := by decide
        rw [Int64.lt_iff_toInt_lt, e1, Int32.toInt_toInt64]
        have e2 : (0 : Int32).toInt = 0 := rfl
        omega
    rw [this]
    rfl
  · obtain ⟨k, rfl⟩ : ∃ k, mk = k + 1 := ⟨mk - 1, by omega⟩
    rw [nI_pred, nI_l (n := k) (by omega), M_in_out (by omega)]
    · rfl
    · rcases hx with hx | hx
      · exact Or.inl hx
      · refine Or.inr ?_
        rw [Int32.le_iff_toInt_le, nI_toInt (by omega)] at hx
        rw [Int32.lt_iff_toInt_lt, nI_toInt (by omega)]
        omega
theorem num_cs (x : Int32) (mk : Nat) (hm : mk ≤ 8) : (∃ n, n < mk ∧ x = nI n) ∨ (x < 0 ∨ nI mk ≤ x) := by
  rcases pk_ix x (n := mk) (by omega) with h | h | ⟨j, hj, e⟩
  · exact Or.inr (Or.inl h)
  · exact Or.inr (Or.inr h)
  · exact Or.inl ⟨j, hj, e⟩
end
