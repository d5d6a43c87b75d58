/-! ===== the reference: between ===== -/
def oC (x : Option Nat) : Int32 := match x with
  | some g => nI g
  | none => -1
/-- of two goods the one with the lesser (the greater) ratio; the first of like ones -/
def pkL (fa fb : Nat → Nat) (g : Nat) (L : Option Nat) : Option Nat := match L with
  | none => some g
  | some l => if fb g * fa l < fb l * fa g then some g else some l
def pkH (fa fb : Nat → Nat) (g : Nat) (L : Option Nat) : Option Nat := match L with
  | none => some g
  | some l => if fb l * fa g < fb g * fa l then some g else some l
def btg (fa fb : Nat → Nat) : Nat → Nat → Option Nat × Option Nat → Option Nat × Option Nat
  | 0, _, x => x
  | k + 1, g, x => if fa g = 0 ∨ fb g = 0 then btg fa fb k (g + 1) x else btg fa fb k (g + 1) (pkL fa fb g x.1, pkH fa fb g x.2)
/-- what is found: both or none, goods with both prices -/
def BO (fa fb : Nat → Nat) (n : Nat) (x : Option Nat × Option Nat) : Prop := (x = (none, none)) ∨ ∃ l h, x = (some l, some h) ∧ l < n ∧ h < n ∧ 0 < fa l ∧ 0 < fb l ∧ 0 < fa h ∧ 0 < fb h
theorem BO.st {fa fb : Nat → Nat} {g : Nat} {x : Option Nat × Option Nat} (H : BO fa fb g x) (h1 : ¬ (fa g = 0 ∨ fb g = 0)) : BO fa fb (g + 1) (pkL fa fb g x.1, pkH fa fb g x.2) := by
  have p1 : 0 < fa g := by omega
  have p2 : 0 < fb g := by omega
  rcases H with rfl | ⟨l, h, rfl, a, b, c, d, e, f⟩
  · exact Or.inr ⟨g, g, rfl, by omega, by omega, p1, p2, p1, p2⟩
  · refine Or.inr ?_
    unfold pkL pkH
    dsimp only
    by_cases c1 : fb g * fa l < fb l * fa g
    · rw [if_pos c1]
      by_cases c2 : fb h * fa g < fb g * fa h
      · rw [if_pos c2]; exact ⟨_, _, rfl, by omega, by omega, p1, p2, p1, p2⟩
      · rw [if_neg c2]; exact ⟨_, _, rfl, by omega, by omega, p1, p2, e, f⟩
    · rw [if_neg c1]
      by_cases c2 : fb h * fa g < fb g * fa h
      · rw [if_pos c2]; exact ⟨_, _, rfl, by omega, by omega, c, d, p1, p2⟩
      · rw [if_neg c2]; exact ⟨_, _, rfl, by omega, by omega, c, d, e, f⟩
theorem BO.up {fa fb : Nat → Nat} {g : Nat} {x : Option Nat × Option Nat} (H : BO fa fb g x) : BO fa fb (g + 1) x := by
  rcases H with rfl | ⟨l, h, rfl, a, b, c⟩
  · exact Or.inl rfl
  · exact Or.inr ⟨l, h, rfl, by omega, by omega, c⟩
theorem btg_ok {fa fb : Nat → Nat} : ∀ (k g : Nat) (x : Option Nat × Option Nat), BO fa fb g x → BO fa fb (g + k) (btg fa fb k g x) := by
  intro k
  induction k with
  | zero => intro g x H; exact H
  | succ k ih =>
    intro g x H
    unfold btg
    rw [show g + (k + 1) = g + 1 + k by omega]
    split
    · exact ih _ _ H.up
    · rename_i c
      exact ih _ _ (H.st c)
def btq (x lo hi : Nat × Nat × Bool) : LR := match qord x lo, qord x hi with
  | .ok o1, .ok o2 => .ok (decide (¬ o1 < 0 ∧ ¬ 0 < o2))
  | _, _ => .error eLARGE
def btw (fa fb : Nat → Nat) (x : QR) : LR := match x with
  | .error e => .error e
  | .ok q => match btg fa fb 5 0 (none, none) with
    | (some l, some h) => btq q (rat (fb l) (fa l)) (rat (fb h) (fa h))
    | _ => .error eNOT
def betwQ (v : Nat → Nat → QR) (p : Nat → Nat) (a z : Nat) : LR := btw (fun g => p (a * 5 + g)) (fun g => p (z * 5 + g)) (v a z)
/-- the order against a pair of prices is always there -/
theorem qord_rat {x : Nat × Nat × Bool} {v n : Nat} (h1 : v ≤ 198) (h2 : n ≤ 198) (hx : x.2.2 = false ∨ x.2.2 = true) : ∃ i j, qord x (rat v n) = .ok (cmp3 i j) := by
  have a : v / Nat.gcd v n ≤ 198 := Nat.le_trans (Nat.div_le_self _ _) h1
  have b : n / Nat.gcd v n ≤ 198 := Nat.le_trans (Nat.div_le_self _ _) h2
  have sq : ∀ y, y ≤ 198 → y * y ≤ qM := fun y hy => Nat.le_trans (Nat.mul_le_mul hy hy) (by rw [qM_eq]; decide)
  unfold qord rat
  dsimp only
  rcases hx with c | c
  · rw [if_pos c]; exact ⟨_, _, rfl⟩
  · rw [if_neg (by rw [c]; decide), if_pos c, if_pos ⟨sq _ a, sq _ b⟩]; exact ⟨_, _, rfl⟩
theorem btl (x : Nat × Nat × Bool) : x.2.2 = false ∨ x.2.2 = true := by cases x.2.2 <;> simp
theorem nI_mulle {a b c d : Nat} (h1 : a ≤ 198) (h2 : b ≤ 198) (h3 : c ≤ 198) (h4 : d ≤ 198) : nI a * nI b ≤ nI c * nI d ↔ a * b ≤ c * d := by
  have x : a * b ≤ 198 * 198 := Nat.mul_le_mul h1 h2
  have y : c * d ≤ 198 * 198 := Nat.mul_le_mul h3 h4
  rw [pk_mul, pk_mul, nI_leI (by omega) (by omega)]
section
variable {h : Hp} {m num n w : Nat} {p b W M : Nat → Nat} {s : St} {u l : Nat → Int64} {r : Nat → Int32}
theorem M_bet116 (H : MX h m (40 * num) n p b W M s) {a z g : Nat} (ha : a < 8) (hz : z < 8) (hg : g < 5) (L : Int32) (Q : Option Nat) (hQ : ∀ q, Q = some q → q < 5) (k29 : Int32 → Int32 → Int32 → Int32 → Int32 → Hp → Option (Int32 × Hp)) : f_M_betweenLaw_116 m k29 L (nI a) (nI z) (oC Q) (nI g) (nI (p (a * 5 + g))) (nI (p (z * 5 + g))) h = k29 (nI a) (nI z) L (oC (pkH (fun g => p (a * 5 + g)) (fun g => p (z * 5 + g)) g Q)) (nI (g + 1)) h := by
  have mb := H.2.2.2.2.1
  have bd := mb.2.2.2.1
  unfold f_M_betweenLaw_116
  cases Q with
  | none =>
    rw [if_pos (by decide)]
    unfold f_M_betweenLaw_155 f_M_betweenLaw_162 f_M_betweenLaw_164
    rw [nI_1]
    rfl
  | some q =>
    have hq := hQ q rfl
    show (if nI q < 0 then _ else _) = _
    rw [if_neg (nI_pos (by omega)), mb.g0]
    simp only [Option.bind_some]
    show ((aI h 0 (m + 1) ((5 : Int32) * nI a + nI q)).bind _) = _
    rw [M_price mb (by omega) hq]
    simp only [Option.bind_some]
    rw [show (aI h 0 (m + 1) ((5 : Int32) * nI z + oC (some q))) = some (nI (p (z * 5 + q))) from M_price mb (by omega) hq]
    simp only [Option.bind_some]
    have cc := nI_mulle (bd (z * 5 + g) (by omega)) (bd (a * 5 + q) (by omega)) (bd (z * 5 + q) (by omega)) (bd (a * 5 + g) (by omega))
    unfold pkH
    dsimp only
    by_cases c : p (z * 5 + q) * p (a * 5 + g) < p (z * 5 + g) * p (a * 5 + q)
    · rw [if_neg (fun x => by have := cc.mp x; omega), if_pos c]
      unfold f_M_betweenLaw_155 f_M_betweenLaw_162 f_M_betweenLaw_164
      rw [nI_1]
      rfl
    · rw [if_pos (cc.mpr (by omega)), if_neg c]
      unfold f_M_betweenLaw_162 f_M_betweenLaw_164
      rw [nI_1]
theorem M_bet_loop (H : MX h m (40 * num) n p b W M s) {a z : Nat} (ha : a < 8) (hz : z < 8) : ∀ (k f g : Nat) (x : Option Nat × Option Nat), g + k = 5 → BO (fun g => p (a * 5 + g)) (fun g => p (z * 5 + g)) g x → f_M_betweenLaw_29 m (f + k + 1) (nI a) (nI z) (oC x.1) (oC x.2) (nI g) h = f_M_betweenLaw_29 m (f + 1) (nI a) (nI z) (oC (btg (fun g => p (a * 5 + g)) (fun g => p (z * 5 + g)) k g x).1) (oC (btg (fun g => p (a * 5 + g)) (fun g => p (z * 5 + g)) k g x).2) (nI 5) h := by
  intro k
  induction k with
  | zero =>
    intro f g x hg _
    have g5 : g = 5 := by omega
    subst g5
    rfl
  | succ k ih =>
    intro f g x hg B
    have mb := H.2.2.2.2.1
    have bd := mb.2.2.2.1
    have b1 := bd (a * 5 + g) (by omega)
    have b2 := bd (z * 5 + g) (by omega)
    show t_M_betweenLaw_29 _ (f_M_betweenLaw_29 m (f + k + 1)) _ _ _ _ _ _ = _
    unfold t_M_betweenLaw_29
    rw [if_neg (by rw [i5]; exact nI_ge (by omega) (by decide)), mb.g0]
    simp only [Option.bind_some]
    rw [M_price mb (by omega) (by omega)]
    simp only [Option.bind_some]
    rw [M_price mb (by omega) (by omega)]
    simp only [Option.bind_some]
    unfold btg
    by_cases c1 : p (a * 5 + g) = 0
    · rw [if_pos ((nI_le0 (by omega)).mpr c1), if_pos (Or.inl c1)]
      unfold f_M_betweenLaw_164
      rw [nI_1]
      exact ih f (g + 1) x (by omega) B.up
    · rw [if_neg (fun e => c1 ((nI_le0 (by omega)).mp e))]
      by_cases c2 : p (z * 5 + g) = 0
      · rw [if_pos ((nI_le0 (by omega)).mpr c2), if_pos (Or.inr c2)]
        unfold f_M_betweenLaw_164
        rw [nI_1]
        exact ih f (g + 1) x (by omega) B.up
      · have c3 : ¬ (p (a * 5 + g) = 0 ∨ p (z * 5 + g) = 0) := by omega
        rw [if_neg (fun e => c2 ((nI_le0 (by omega)).mp e)), if_neg c3]
        rw [← ih f (g + 1) _ (by omega) (B.st c3)]
        have hQ : ∀ q, x.2 = some q → q < 5 := by
          rcases B with rfl | ⟨l, h, rfl, y1, y2, y3⟩
          · intro q e; cases e
          · intro q e
            have : h = q := by injection e
            omega
        obtain ⟨L, Q⟩ := x
        dsimp only at hQ ⊢
        cases L with
        | none =>
          rw [show oC none = (-1 : Int32) from rfl, if_pos (by decide)]
          unfold f_M_betweenLaw_109
          exact M_bet116 H ha hz (by omega) _ Q hQ _
        | some q =>
          have hq : q < 5 := by
            rcases B with e | ⟨l, h, e, y1, y2, y3⟩
            · cases e
            · cases e; omega
          rw [show oC (some q) = nI q from rfl, if_neg (nI_pos (by omega))]
          rw [M_price mb (by omega) hq]
          simp only [Option.bind_some]
          rw [M_price mb (by omega) hq]
          simp only [Option.bind_some]
          have cc := nI_mulle (bd (z * 5 + q) (by omega)) b1 b2 (bd (a * 5 + q) (by omega))
          unfold pkL
          dsimp only
          by_cases c : p (z * 5 + g) * p (a * 5 + q) < p (z * 5 + q) * p (a * 5 + g)
          · rw [if_neg (fun x => by have := cc.mp x; omega), if_pos c]
            unfold f_M_betweenLaw_109
            exact M_bet116 H ha hz (by omega) _ Q hQ _
          · rw [if_pos (cc.mpr (by omega)), if_neg c]
            exact M_bet116 H ha hz (by omega) _ Q hQ _
/-- the order of what is kept first and a pair of prices -/
theorem M_ordK (H : MX h m (40 * num) n p b W M s) (K : MK h m s.1 u l r) {x : Nat × Nat × Bool} (h0 : kpt u l r 0 x) (k1 : qok (.ok x)) {v c : Nat} (hv : 0 < v) (hc : 0 < c) (b1 : v ≤ 198) (b2 : c ≤ 198) : ∃ h' s', f_M_orderOf m (u 0) (l 0) (r 0) (nI v).toInt64 (nI c).toInt64 0 h = some (ocode (qord x (rat v c)), h') ∧ MX h' m (40 * num) n p b W M s' ∧ MK h' m s'.1 u l r ∧ (∀ z, qord x (rat v c) = .ok z → s'.1 17 = .int z) ∧ MEq s.1 s'.1 ∧ MFr h h' m := by
  obtain ⟨c0, c1, c2⟩ := h0
  obtain ⟨F1, E1, O1⟩ := M_orderOf H.1 H.2.2.1 H.2.2.2.1 k1 (rat_ok hc b1 b2)
  have me : MEq s.1 F1 := fun k a b c d _ _ => O1.1 k a b c d
  refine ⟨_, (F1, s.2), ?_, H.obj me O1.2.1 O1.2.2.1, K.cong (fun c _ _ => hup_n (by omega)) me, O1.2.2.2, me, fun c hc => hup_n (by omega)⟩
  rw [c0, c1, c2, nI_l (by omega), nI_l (by omega), M_orderRaw H.1 k1 hv hc b1 b2]
  exact E1
theorem M_betweenLaw (H : MX h m (40 * num) n p b W M s) (K : MK h m s.1 u l r) (hg : good W M 8 0 n) (hn : n ≤ 20) {a z : Nat} (hw : w < 4) (ha : a < 8) (hz : z < 8) : MLaw (f_M_betweenLaw m (nI num) (nI w) (nI a) (nI z) h) h m (40 * num) n p b W M s (betwQ (evw W M p (bam b w)) p a z) := by
  obtain ⟨h1, s1, u1, l1, r1, E1, H1, K1, V1, J1, e1, f1⟩ := M_findKept (k := 0) H K hg hn hw ha hz (by decide)
  have k1 := evw_ok W M p (bam b w) a z
  unfold f_M_betweenLaw betwQ btw
  rw [if_pos H.o, show f_M_findKept m (nI num) (nI w) (nI a) (nI z) (0 : Int32) h = _ from E1, zb2_s]
  cases hv : evw W M p (bam b w) a z with
  | error e =>
    rw [hv] at k1
    rw [if_neg (show ¬ (0 : Int32) ≤ mcode (.error e) from qneg k1)]
    exact ⟨h1, s1, u1, l1, r1, rfl, H1, K1, e1, f1⟩
  | ok x =>
    rw [hv] at k1
    rw [if_pos (show (0 : Int32) ≤ mcode (.ok x) from (by decide : (0 : Int32) ≤ 0))]
    rw [show f_M_betweenLaw_29 m FU (nI a) (nI z) (-1 : Int32) (-1 : Int32) (0 : Int32) h1 = _ from M_bet_loop H1 ha hz 5 (FU - 6) 0 (none, none) rfl (Or.inl rfl)]
    have B := btg_ok (fa := fun g => p (a * 5 + g)) (fb := fun g => p (z * 5 + g)) 5 0 (none, none) (Or.inl rfl)
    have mb := H1.2.2.2.2.1
    have bd := mb.2.2.2.1
    show MLaw (t_M_betweenLaw_29 _ _ _ _ _ _ _ _) _ _ _ _ _ _ _ _ _ _
    unfold t_M_betweenLaw_29
    rw [if_pos (by decide)]
    rcases B with e | ⟨lo, hi, e, y1, y2, y3, y4, y5, y6⟩
    · rw [e]
      dsimp only
      rw [if_neg (by decide)]
      exact ⟨h1, s1, u1, l1, r1, rfl, H1, K1, e1, f1⟩
    · rw [e]
      dsimp only at y3 y4 y5 y6 ⊢
      obtain ⟨g28, g29, g30, a0, a1, a2⟩ := K1.gu H1 (k := 0) (by decide)
      rw [show oC (some lo) = nI lo from rfl, show oC (some hi) = nI hi from rfl, if_pos (nI_pos' (by omega)), g28, g29, g30, mb.g0]
      simp only [Option.bind_some]
      rw [show aL h1 (m + 16) 0 = some (u1 0) from a0, show aL h1 (m + 17) 0 = some (l1 0) from a1, show aI h1 2 (m + 18) 0 = some (r1 0) from a2, M_price mb (by omega) (by omega), M_price mb (by omega) (by omega)]
      simp only [Option.bind_some]
      obtain ⟨h2, s2, E2, H2, K2, z2, e2, f2⟩ := M_ordK H1 K1 (V1 x hv) k1 y4 y3 (bd _ (by omega)) (bd _ (by omega))
      rw [E2, zb2_s]
      obtain ⟨i, j, o1⟩ := qord_rat (x := x) (v := p (z * 5 + lo)) (n := p (a * 5 + lo)) (bd _ (by omega)) (bd _ (by omega)) (btl x)
      obtain ⟨i2, j2, o2⟩ := qord_rat (x := x) (v := p (z * 5 + hi)) (n := p (a * 5 + hi)) (bd _ (by omega)) (bd _ (by omega)) (btl x)
      have z2' := z2 _ o1
      obtain ⟨g28', g29', g30', a0', a1', a2'⟩ := K2.gu H2 (k := 0) (by decide)
      have mb2 := H2.2.2.2.2.1
      obtain ⟨h3, s3, E3, H3, K3, z3, e3, f3⟩ := M_ordK H2 K2 (V1 x hv) k1 y6 y5 (bd (z * 5 + hi) (by omega)) (bd (a * 5 + hi) (by omega))
      have z3' := z3 _ o2
      have tail : ∀ t : Bool, f_M_betweenLaw_249 m (bI t) (nI a) (nI z) (nI hi) h2 = some (bI (t && decide (¬ 0 < cmp3 i2 j2)), h3) := by
        intro t
        unfold f_M_betweenLaw_249
        rw [g28', g29', g30', mb2.g0]
        simp only [Option.bind_some]
        rw [show aL h2 (m + 16) 0 = some (u1 0) from a0', show aL h2 (m + 17) 0 = some (l1 0) from a1', show aI h2 2 (m + 18) 0 = some (r1 0) from a2', M_price mb2 (by omega) (by omega), M_price mb2 (by omega) (by omega)]
        simp only [Option.bind_some]
        rw [E3, zb2_s, o2, if_pos (show (0 : Int32) ≤ ocode (.ok _) from (by decide : (0 : Int32) ≤ 0))]
        cases t with
        | false => rw [if_pos (show bI false = 0 from rfl)]; rfl
        | true =>
          rw [if_neg (by decide), oc_i H3.1 (by decide) z3', Option.bind_some]
          by_cases d : 0 < cmp3 i2 j2
          · rw [if_pos d, decide_eq_false (fun x => x d)]; rfl
          · rw [if_neg d, decide_eq_true d]; rfl
      rw [o1, if_pos (show (0 : Int32) ≤ ocode (.ok _) from (by decide : (0 : Int32) ≤ 0)), oc_i H2.1 (by decide) z2', Option.bind_some]
      unfold btq
      rw [o1, o2]
      dsimp only
      refine ⟨h3, s3, u1, l1, r1, ?_, H3, K3, (e1.trans e2).trans e3, MFr.trans (MFr.trans f1 f2) f3⟩
      by_cases d : cmp3 i j < 0
      · rw [if_pos d]
        rw [show f_M_betweenLaw_249 m 0 (nI a) (nI z) (nI hi) h2 = _ from tail false, decide_eq_false (fun x : ¬ cmp3 i j < 0 ∧ ¬ 0 < cmp3 i2 j2 => x.1 d)]
        rfl
      · rw [if_neg d]
        rw [show f_M_betweenLaw_249 m 1 (nI a) (nI z) (nI hi) h2 = _ from tail true]
        by_cases d2 : 0 < cmp3 i2 j2
        · rw [decide_eq_false (fun x : ¬ 0 < cmp3 i2 j2 => x d2), decide_eq_false (fun x : ¬ cmp3 i j < 0 ∧ ¬ 0 < cmp3 i2 j2 => x.2 d2)]; rfl
        · rw [decide_eq_true d2, decide_eq_true ⟨d, d2⟩]; rfl
end
