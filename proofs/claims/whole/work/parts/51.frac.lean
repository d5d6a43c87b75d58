/-! ===== fractions in least terms ===== -/
abbrev QR : Type := Except Int32 (Nat × Nat × Bool)
def qM : Nat := 1000000000000000
theorem qM_eq : qM = 1000000000000000 := rfl
def eNOT : Int32 := -1003
def eLARGE : Int32 := -1005
/-- u / l in least terms, or LARGE -/
def qmk (u l : Nat) (t : Bool) : QR := if u / Nat.gcd u l ≤ qM ∧ l / Nat.gcd u l ≤ qM then .ok (u / Nat.gcd u l, l / Nat.gcd u l, t) else .error eLARGE
/-- what a fraction that was made is like -/
def qok (r : QR) : Prop := match r with
  | .ok q => Nat.gcd q.1 q.2.1 = 1 ∧ 0 < q.2.1 ∧ q.1 ≤ qM ∧ q.2.1 ≤ qM
  | .error e => e = eNOT ∨ e = eLARGE
theorem qmk_red {u l : Nat} (h : Nat.gcd u l = 1) (t : Bool) : qmk u l t = if u ≤ qM ∧ l ≤ qM then .ok (u, l, t) else .error eLARGE := by
  unfold qmk
  rw [h, Nat.div_one, Nat.div_one]
theorem red_pos {u l : Nat} (hl : 0 < l) : 0 < l / Nat.gcd u l := Nat.div_pos (Nat.gcd_le_right _ hl) (Nat.gcd_pos_of_pos_right _ hl)
theorem red_cop {u l : Nat} (hl : 0 < l) : Nat.gcd (u / Nat.gcd u l) (l / Nat.gcd u l) = 1 := Nat.gcd_div_gcd_div_gcd_of_pos_right hl
theorem qmk_ok {u l : Nat} (hl : 0 < l) (t : Bool) : qok (qmk u l t) := by
  unfold qmk
  split
  · rename_i h
    exact ⟨red_cop hl, red_pos hl, h.1, h.2⟩
  · exact Or.inr rfl
theorem cop_uniq {a b c d : Nat} (h1 : Nat.gcd a b = 1) (h2 : Nat.gcd c d = 1) (hb : 0 < b) (hd : 0 < d) (h : a * d = c * b) : a = c ∧ b = d := by
  have e1 : b ∣ d := by
    have : b ∣ a * d := ⟨c, by rw [h, Nat.mul_comm]⟩
    exact (show Nat.Coprime b a from (Nat.gcd_comm b a).trans h1).dvd_of_dvd_mul_left this
  have e2 : d ∣ b := by
    have : d ∣ c * b := ⟨a, by rw [← h, Nat.mul_comm]⟩
    exact (show Nat.Coprime d c from (Nat.gcd_comm d c).trans h2).dvd_of_dvd_mul_left this
  have e3 : b = d := Nat.dvd_antisymm e1 e2
  subst e3
  exact ⟨Nat.eq_of_mul_eq_mul_right hb h, rfl⟩
theorem qmk_eq {u l v m : Nat} (hl : 0 < l) (hm : 0 < m) (h : u * m = v * l) (t : Bool) : qmk u l t = qmk v m t := by
  have g1 := Nat.gcd_dvd_left u l
  have g2 := Nat.gcd_dvd_right u l
  have g3 := Nat.gcd_dvd_left v m
  have g4 := Nat.gcd_dvd_right v m
  have p1 : 0 < Nat.gcd u l := Nat.gcd_pos_of_pos_right _ hl
  have p2 : 0 < Nat.gcd v m := Nat.gcd_pos_of_pos_right _ hm
  have key : u / Nat.gcd u l * (m / Nat.gcd v m) = v / Nat.gcd v m * (l / Nat.gcd u l) := by
    refine Nat.eq_of_mul_eq_mul_right (Nat.mul_pos p1 p2) ?_
    calc u / Nat.gcd u l * (m / Nat.gcd v m) * (Nat.gcd u l * Nat.gcd v m) = (u / Nat.gcd u l * Nat.gcd u l) * (m / Nat.gcd v m * Nat.gcd v m) := by rw [Nat.mul_mul_mul_comm]
      _ = u * m := by rw [Nat.div_mul_cancel g1, Nat.div_mul_cancel g4]
      _ = v * l := h
      _ = (v / Nat.gcd v m * Nat.gcd v m) * (l / Nat.gcd u l * Nat.gcd u l) := by rw [Nat.div_mul_cancel g3, Nat.div_mul_cancel g2]
      _ = v / Nat.gcd v m * (l / Nat.gcd u l) * (Nat.gcd u l * Nat.gcd v m) := by rw [Nat.mul_mul_mul_comm, Nat.mul_comm (Nat.gcd v m)]
  obtain ⟨e1, e2⟩ := cop_uniq (red_cop hl) (red_cop hm) (red_pos hl) (red_pos hm) key
  unfold qmk
  rw [e1, e2]
/-- two fractions crossed out -/
theorem cross {u l v m : Nat} (h1 : Nat.gcd u l = 1) (h2 : Nat.gcd v m = 1) (hl : 0 < l) (hm : 0 < m) : Nat.gcd (u / gd u m * (v / gd v l)) (l / gd v l * (m / gd u m)) = 1 ∧ 0 < l / gd v l * (m / gd u m) ∧ u / gd u m * (v / gd v l) * (l * m) = u * v * (l / gd v l * (m / gd u m)) := by
  rw [gd_of (Or.inr hm), gd_of (Or.inr hl)]
  have a1 := Nat.gcd_dvd_left u m
  have a2 := Nat.gcd_dvd_right u m
  have a3 := Nat.gcd_dvd_left v l
  have a4 := Nat.gcd_dvd_right v l
  have c1 : Nat.Coprime u l := h1
  have c2 : Nat.Coprime v m := h2
  have d1 : Nat.Coprime (u / Nat.gcd u m) (m / Nat.gcd u m) := Nat.gcd_div_gcd_div_gcd_of_pos_right hm
  have d2 : Nat.Coprime (v / Nat.gcd v l) (l / Nat.gcd v l) := Nat.gcd_div_gcd_div_gcd_of_pos_right hl
  have d3 : Nat.Coprime (u / Nat.gcd u m) (l / Nat.gcd v l) := (c1.coprime_div_left a1).coprime_div_right a4
  have d4 : Nat.Coprime (v / Nat.gcd v l) (m / Nat.gcd u m) := (c2.coprime_div_left a3).coprime_div_right a2
  refine ⟨?_, Nat.mul_pos ?_ ?_, ?_⟩
  · exact Nat.Coprime.mul_left (Nat.Coprime.mul_right d3 d1) (Nat.Coprime.mul_right d2 d4)
  · exact Nat.div_pos (Nat.gcd_le_right _ hl) (Nat.gcd_pos_of_pos_right _ hl)
  · exact Nat.div_pos (Nat.gcd_le_right _ hm) (Nat.gcd_pos_of_pos_right _ hm)
  · have e1 : u = u / Nat.gcd u m * Nat.gcd u m := (Nat.div_mul_cancel a1).symm
    have e2 : m = m / Nat.gcd u m * Nat.gcd u m := (Nat.div_mul_cancel a2).symm
    have e3 : v = v / Nat.gcd v l * Nat.gcd v l := (Nat.div_mul_cancel a3).symm
    have e4 : l = l / Nat.gcd v l * Nat.gcd v l := (Nat.div_mul_cancel a4).symm
    generalize u / Nat.gcd u m = U at *
    generalize m / Nat.gcd u m = M at *
    generalize v / Nat.gcd v l = V at *
    generalize l / Nat.gcd v l = L at *
    generalize Nat.gcd u m = G at *
    generalize Nat.gcd v l = K at *
    subst e1 e2 e3 e4
    simp only [Nat.mul_assoc, Nat.mul_comm, Nat.mul_left_comm]
/-- what two fractions multiplied are -/
def qmul (x y : QR) : QR := match x, y with
  | .error e, _ => .error e
  | .ok _, .error e => .error e
  | .ok p, .ok q => if p.2.2 = q.2.2 then qmk (p.1 * q.1) (p.2.1 * q.2.1) p.2.2 else .error eNOT
/-- ORDER: -1, 0, 1, or LARGE -/
def qord (x y : Nat × Nat × Bool) : Except Int32 Int32 :=
  if x.2.2 = y.2.2 then .ok (cmp3 (x.1 * y.2.1) (y.1 * x.2.1))
  else if x.2.2 = true then (if y.1 * y.1 ≤ qM ∧ y.2.1 * y.2.1 ≤ qM then .ok (cmp3 (x.1 * (y.2.1 * y.2.1)) (y.1 * y.1 * x.2.1)) else .error eLARGE)
  else (if x.1 * x.1 ≤ qM ∧ x.2.1 * x.2.1 ≤ qM then .ok (cmp3 (x.1 * x.1 * y.2.1) (y.1 * (x.2.1 * x.2.1))) else .error eLARGE)
/-! ===== cells ===== -/
def bI (t : Bool) : Int32 := if t then 1 else 0
/-- a Fraction's fields -/
def frc (r : QR) : List Value := match r with
  | .ok q => [.long (lN q.1), .long (lN q.2.1), .int (bI q.2.2), .int 0]
  | .error e => [.long 0, .long 1, .int 0, .int e]
def frE (r : QR) : zE := .inr (1, frc r)
/-- a Fraction, whatever it holds -/
def FX (h : Hp) (a : Nat) : Prop := ∃ (u l : Int64) (t f : Int32), h a = some (.inr (1, [.long u, .long l, .int t, .int f]))
def FR (h : Hp) (a : Nat) (r : QR) : Prop := h a = some (frE r)
theorem FR.x {h : Hp} {a : Nat} {r : QR} (H : FR h a r) : FX h a := by
  unfold FR frE frc at H
  cases r with
  | error e => exact ⟨_, _, _, _, H⟩
  | ok q => exact ⟨_, _, _, _, H⟩
theorem hup_s {h : Hp} {a : Nat} {e : zE} : (hup h a e) a = some e := by simp [hup]
theorem hup_n {h : Hp} {a b : Nat} {e : zE} (hb : b ≠ a) : (hup h a e) b = h b := by simp [hup, hb]
theorem hup_u {h : Hp} {a : Nat} {e e' : zE} : hup (hup h a e) a e' = hup h a e' := by
  funext b
  unfold hup
  by_cases hb : b = a <;> simp [hb]
theorem hup_c {h : Hp} {a b : Nat} {e e' : zE} (hab : a ≠ b) : hup (hup h a e) b e' = hup (hup h b e') a e := by
  funext c
  unfold hup
  by_cases h1 : c = a
  · subst h1; simp [hab]
  · by_cases h2 : c = b
    · subst h2; simp [h1]
    · simp [h1, h2]
theorem hup_id {h : Hp} {a : Nat} {e : zE} (H : h a = some e) : hup h a e = h := by
  funext b
  unfold hup
  by_cases hb : b = a
  · subst hb; simp [H]
  · simp [hb]
section FOPS
variable {h : Hp} {a : Nat} {u l v : Int64} {t f x : Int32}
theorem fo_g (H : h a = some (.inr (1, [.long u, .long l, .int t, .int f]))) : gL h a 1 0 = some u ∧ gL h a 1 1 = some l ∧ gI h a 1 2 = some t ∧ gI h a 1 3 = some f ∧ isO h a 1 = true := by
  simp [gL, gI, gV, isO, H]
theorem fo_p0 (H : h a = some (.inr (1, [.long u, .long l, .int t, .int f]))) : pV h a 1 0 (.long v) = some (hup h a (.inr (1, [.long v, .long l, .int t, .int f]))) := by simp [pV, H]
theorem fo_p1 (H : h a = some (.inr (1, [.long u, .long l, .int t, .int f]))) : pV h a 1 1 (.long v) = some (hup h a (.inr (1, [.long u, .long v, .int t, .int f]))) := by simp [pV, H]
theorem fo_p2 (H : h a = some (.inr (1, [.long u, .long l, .int t, .int f]))) : pV h a 1 2 (.int x) = some (hup h a (.inr (1, [.long u, .long l, .int x, .int f]))) := by simp [pV, H]
theorem fo_p3 (H : h a = some (.inr (1, [.long u, .long l, .int t, .int f]))) : pV h a 1 3 (.int x) = some (hup h a (.inr (1, [.long u, .long l, .int t, .int x]))) := by simp [pV, H]
end FOPS
theorem F_refuse {h : Hp} {a : Nat} (H : FX h a) (e : Int32) : f_F_refuse a e h = some (hup h a (frE (.error e))) := by
  obtain ⟨u, l, t, f, H⟩ := H
  unfold f_F_refuse
  rw [if_pos (fo_g H).2.2.2.2, fo_p0 H, Option.bind_some, fo_p1 hup_s, Option.bind_some, fo_p2 hup_s, Option.bind_some, fo_p3 hup_s, Option.bind_some, hup_u, hup_u, hup_u]
  rfl
theorem lM_lt {a : Nat} (h : a < 2 ^ 63) : ((1000000000000000 : Int64) < lN a) ↔ ¬ a ≤ qM := by rw [lM, pk_lLT (by decide) h, qM_eq]; omega
theorem lM_le {a : Nat} (h : a < 2 ^ 63) : (lN a ≤ (1000000000000000 : Int64)) ↔ a ≤ qM := by rw [lM, pk_lLE h (by decide), qM_eq]
theorem FXs {h : Hp} {a : Nat} {u l : Int64} {t f : Int32} : FX (hup h a (.inr (1, [.long u, .long l, .int t, .int f]))) a := ⟨u, l, t, f, hup_s⟩
theorem F_put62 {h : Hp} {a U L : Nat} {l : Int64} {t f : Int32} (H : h a = some (.inr (1, [.long (lN U), .long l, .int t, .int f]))) (hU : U < 2 ^ 63) (hL : L < 2 ^ 63) : f_F_put_62 a (lN L) h = some (hup h a (frE (if U ≤ qM ∧ L ≤ qM then .ok (U, L, false) else .error eLARGE))) := by
  unfold f_F_put_62
  rw [fo_p1 H, Option.bind_some, fo_p2 hup_s, Option.bind_some, fo_p3 hup_s, Option.bind_some, hup_u, hup_u, (fo_g hup_s).1, Option.bind_some]
  have hr : f_F_put_97 a (hup h a (.inr (1, [.long (lN U), .long (lN L), .int 0, .int 0]))) = some (hup h a (frE (.error eLARGE))) := by
    unfold f_F_put_97
    rw [F_refuse FXs, Option.bind_some, hup_u]
    rfl
  by_cases h1 : U ≤ qM
  · rw [if_neg (fun q => (lM_lt hU).mp q h1), (fo_g hup_s).2.1, Option.bind_some]
    by_cases h2 : L ≤ qM
    · rw [if_pos ((lM_le hL).mpr h2), if_pos ⟨h1, h2⟩]
      rfl
    · rw [if_neg (fun q => h2 ((lM_le hL).mp q)), if_neg (fun q => h2 q.2), hr]
  · rw [if_pos ((lM_lt hU).mpr h1), if_neg (fun q => h1 q.1), hr]
theorem lN_le1 {a : Nat} (h : a < 2 ^ 63) : (lN a ≤ (1 : Int64)) ↔ a ≤ 1 := by rw [l1, pk_lLE h (by decide)]
theorem lN_1le {a : Nat} (h : a < 2 ^ 63) : ((1 : Int64) ≤ lN a) ↔ 1 ≤ a := by rw [l1, pk_lLE (by decide) h]
theorem lN_lt1 {a : Nat} (h : a < 2 ^ 63) : (lN a < (1 : Int64)) ↔ a < 1 := by rw [l1, pk_lLT h (by decide)]
theorem gd_le {a b : Nat} (ha : a < 2 ^ 63) (hb : b < 2 ^ 63) : gd a b < 2 ^ 63 := by
  unfold gd
  split
  · decide
  · rename_i h
    rcases Nat.eq_zero_or_pos a with h0 | h0
    · subst h0; rw [Nat.gcd_zero_left]; exact hb
    · exact Nat.lt_of_le_of_lt (Nat.gcd_le_left _ h0) ha
theorem F_put {h : Hp} {a u l : Nat} (H : FX h a) (hl : 0 < l) (hu : u < 2 ^ 63) (hl2 : l < 2 ^ 63) : f_F_put a (lN u) (lN l) h = some (hup h a (frE (qmk u l false))) := by
  obtain ⟨u0, l0', t0, f0, H⟩ := H
  have hg := gd_le hu hl2
  have hgp := gd_pos u l
  have hge : gd u l = Nat.gcd u l := gd_of (Or.inr hl)
  have hud : u / gd u l < 2 ^ 63 := Nat.lt_of_le_of_lt (Nat.div_le_self _ _) hu
  have hld : l / gd u l < 2 ^ 63 := Nat.lt_of_le_of_lt (Nat.div_le_self _ _) hl2
  have e43 : f_F_put_43 a (lN (u / gd u l)) (lN l) (lN (gd u l)) h = some (hup h a (frE (qmk u l false))) := by
    unfold f_F_put_43
    rw [fo_p0 H, Option.bind_some]
    have e62 : f_F_put_62 a (lN (l / gd u l)) (hup h a (.inr (1, [.long (lN (u / gd u l)), .long l0', .int t0, .int f0]))) = some (hup h a (frE (qmk u l false))) := by
      rw [F_put62 hup_s hud hld, hup_u]
      unfold qmk
      rw [hge]
    by_cases h1 : gd u l ≤ 1
    · rw [if_pos ((lN_le1 hg).mpr h1)]
      have : gd u l = 1 := by omega
      rw [this, Nat.div_one] at e62
      rw [this]
      exact e62
    · rw [if_neg (fun q => h1 ((lN_le1 hg).mp q)), if_neg (fun q => by have := (lN_eq0 hg).mp q; omega), pk_lDiv hl2 hgp hg]
      exact e62
  unfold f_F_put
  rw [if_pos (fo_g H).2.2.2.2, if_neg (lN_lt0 hu), if_pos ((lN_1le hl2).mpr hl), zcd hu hl2, Option.bind_some]
  by_cases h1 : gd u l ≤ 1
  · rw [if_pos ((lN_le1 hg).mpr h1)]
    have : gd u l = 1 := by omega
    rw [this, Nat.div_one] at e43
    rw [this]
    exact e43
  · rw [if_neg (fun q => h1 ((lN_le1 hg).mp q)), if_neg (fun q => by have := (lN_eq0 hg).mp q; omega), pk_lDiv hu hgp hg]
    exact e43
theorem F_putN {h : Hp} {a : Nat} {x y : Int64} (H : FX h a) (hxy : x < 0 ∨ ¬ (1 : Int64) ≤ y) : f_F_put a x y h = some (hup h a (frE (.error eNOT))) := by
  have hr : f_F_put_12 a h = some (hup h a (frE (.error eNOT))) := by
    unfold f_F_put_12
    rw [F_refuse H, Option.bind_some]
    rfl
  obtain ⟨u0, l0', t0, f0, H⟩ := H
  unfold f_F_put
  rw [if_pos (fo_g H).2.2.2.2]
  by_cases h1 : x < 0
  · rw [if_pos h1, hr]
  · rw [if_neg h1, if_neg (hxy.resolve_left h1), hr]
theorem fr_ok {h : Hp} {a u l : Nat} {t : Bool} (H : FR h a (.ok (u, l, t))) : h a = some (.inr (1, [.long (lN u), .long (lN l), .int (bI t), .int 0])) := H
theorem fr_err {h : Hp} {a : Nat} {e : Int32} (H : FR h a (.error e)) : h a = some (.inr (1, [.long 0, .long 1, .int 0, .int e])) := H
/-- 1 by it -/
def qinv (r : QR) : QR := match r with
  | .ok q => if q.1 = 0 then .error eNOT else .ok (q.2.1, q.1, q.2.2)
  | .error e => .error e
theorem err_ne {e : Int32} (h : e = eNOT ∨ e = eLARGE) : ¬ e = 0 := by rcases h with rfl | rfl <;> decide
theorem F_turnOver {h : Hp} {a : Nat} {r : QR} (H : FR h a r) (hr : qok r) : f_F_turnOver a h = some (hup h a (frE (qinv r))) := by
  have hX := H.x
  unfold f_F_turnOver
  cases r with
  | error e =>
    have H := fr_err H
    rw [if_pos (fo_g H).2.2.2.2, (fo_g H).2.2.2.1, Option.bind_some, if_neg (err_ne hr)]
    exact congrArg some (hup_id H).symm
  | ok q =>
    obtain ⟨u, l, t⟩ := q
    have H := fr_ok H
    have hu : u < 2 ^ 63 := Nat.lt_of_le_of_lt hr.2.2.1 (by decide)
    rw [if_pos (fo_g H).2.2.2.2, (fo_g H).2.2.2.1, Option.bind_some, if_pos rfl, (fo_g H).1, Option.bind_some]
    rw [show qinv (.ok (u, l, t)) = (if u = 0 then .error eNOT else .ok (l, u, t)) from rfl]
    by_cases h0 : u = 0
    · rw [if_pos ((lN_eq0 hu).mpr h0), F_refuse hX, Option.bind_some, if_pos h0]
      rfl
    · rw [if_neg (fun q => h0 ((lN_eq0 hu).mp q)), Option.bind_some, (fo_g H).2.1, Option.bind_some, fo_p0 H, Option.bind_some, fo_p1 hup_s, Option.bind_some, hup_u, if_neg h0]
      rfl
theorem qinv_ok {r : QR} (hr : qok r) : qok (qinv r) := by
  cases r with
  | error e => exact hr
  | ok q =>
    unfold qinv
    dsimp only
    split
    · exact Or.inl rfl
    · exact ⟨(Nat.gcd_comm _ _).trans hr.1, by show 0 < q.1; omega, hr.2.2.2, hr.2.2.1⟩
theorem F_exc {x y : Nat} (hx : x < 2 ^ 63) (hy : y < 2 ^ 63) : f_F_exceeds (lN x) (lN y) (1000000000000000 : Int64) = some (if x * y ≤ qM then 0 else 1) := by
  unfold f_F_exceeds
  by_cases h0 : x = 0
  · subst h0
    rw [if_pos ((lN_le0 (by decide)).mpr rfl), if_pos (by rw [Nat.zero_mul]; exact Nat.zero_le _)]
  · have hxp : 0 < x := by omega
    rw [if_neg (fun q => h0 ((lN_le0 hx).mp q)), if_neg (fun q => h0 ((lN_eq0 hx).mp q)), lM, pk_lDiv (by decide) hxp hx]
    have hd : 1000000000000000 / x < 2 ^ 63 := Nat.lt_of_le_of_lt (Nat.div_le_self _ _) (by decide)
    have hiff : y ≤ 1000000000000000 / x ↔ x * y ≤ qM := by rw [Nat.le_div_iff_mul_le hxp, Nat.mul_comm, qM_eq]
    by_cases h1 : x * y ≤ qM
    · rw [if_pos ((pk_lLE hy hd).mpr (hiff.mpr h1)), if_pos h1]
    · rw [if_neg (fun q => h1 (hiff.mp ((pk_lLE hy hd).mp q))), if_neg h1]
theorem bI_eq {s t : Bool} : (bI s = bI t) ↔ s = t := by cases s <;> cases t <;> decide
theorem bI_f : bI false = 0 := rfl
theorem bI_0 {t : Bool} : (bI t = 0) ↔ t = false := by cases t <;> decide
theorem F_mul162 {h : Hp} {a : Nat} (H : FX h a) : f_F_multiply_162 a h = some (hup h a (frE (.error eLARGE))) := by
  unfold f_F_multiply_162
  rw [F_refuse H, Option.bind_some]
  rfl
theorem F_mul52 {h : Hp} {a : Nat} {e : Int32} (H : FX h a) : f_F_multiply_52 a e h = some (hup h a (frE (.error e))) := by
  unfold f_F_multiply_52
  rw [F_refuse H, Option.bind_some]
theorem qok_b {u l : Nat} {t : Bool} (h : qok (.ok (u, l, t))) : u < 2 ^ 63 ∧ l < 2 ^ 63 ∧ 0 < l ∧ u ≤ 1000000000000000 ∧ l ≤ 1000000000000000 ∧ Nat.gcd u l = 1 :=
  ⟨Nat.lt_of_le_of_lt h.2.2.1 (by decide), Nat.lt_of_le_of_lt h.2.2.2 (by decide), h.2.1, h.2.2.1, h.2.2.2, h.1⟩
theorem F_multiply {h : Hp} {a b : Nat} {r1 r2 : QR} (H1 : FR h a r1) (H2 : FR h b r2) (k1 : qok r1) (k2 : qok r2) : f_F_multiply a b h = some (hup h a (frE (qmul r1 r2))) := by
  have hX := H1.x
  unfold f_F_multiply
  cases r1 with
  | error e =>
    have H := fr_err H1
    rw [if_pos (fo_g H).2.2.2.2, (fo_g H).2.2.2.1, Option.bind_some, if_neg (err_ne k1)]
    exact congrArg some (hup_id H).symm
  | ok q =>
    obtain ⟨u, l, t⟩ := q
    have H := fr_ok H1
    obtain ⟨bu, bl, lp, mu, ml, hcop⟩ := qok_b k1
    rw [if_pos (fo_g H).2.2.2.2, (fo_g H).2.2.2.1, Option.bind_some, if_pos rfl]
    cases r2 with
    | error e =>
      have G := fr_err H2
      rw [(fo_g G).2.2.2.1, Option.bind_some, if_neg (err_ne k2)]
      unfold f_F_multiply_30
      rw [(fo_g G).2.2.2.1, Option.bind_some, if_neg (err_ne k2), Option.bind_some, F_mul52 hX]
      rfl
    | ok q =>
      obtain ⟨v, m, s⟩ := q
      have G := fr_ok H2
      obtain ⟨bv, bm, mp, mv, mm, hcop2⟩ := qok_b k2
      rw [(fo_g G).2.2.2.1, Option.bind_some, if_pos rfl, (fo_g G).2.2.1, Option.bind_some, (fo_g H).2.2.1, Option.bind_some]
      rw [show qmul (.ok (u, l, t)) (.ok (v, m, s)) = (if t = s then qmk (u * v) (l * m) t else .error eNOT) from rfl]
      by_cases hts : t = s
      · subst hts
        rw [if_pos rfl, if_pos rfl]
        have g1b := gd_le bu bm
        have g2b := gd_le bv bl
        have g1p := gd_pos u m
        have g2p := gd_pos v l
        obtain ⟨c1, c2, c3⟩ := cross hcop hcop2 lp mp
        have e1 : u / gd u m ≤ u := Nat.div_le_self _ _
        have e2 : v / gd v l ≤ v := Nat.div_le_self _ _
        have e3 : l / gd v l ≤ l := Nat.div_le_self _ _
        have e4 : m / gd u m ≤ m := Nat.div_le_self _ _
        have eq : qmk (u * v) (l * m) t = if u / gd u m * (v / gd v l) ≤ qM ∧ l / gd v l * (m / gd u m) ≤ qM then .ok (u / gd u m * (v / gd v l), l / gd v l * (m / gd u m), t) else .error eLARGE := by
          rw [← qmk_red c1]
          exact qmk_eq (Nat.mul_pos lp mp) c2 c3.symm t
        rw [eq, (fo_g H).1, Option.bind_some, (fo_g G).2.1, Option.bind_some, zcd bu bm, Option.bind_some, (fo_g G).1, Option.bind_some, (fo_g H).2.1, Option.bind_some, zcd bv bl, Option.bind_some,
          if_neg (fun q => by have := (lN_lt1 g1b).mp q; omega), if_pos ((lN_1le g2b).mpr g2p), Option.bind_some, if_neg (fun q => by have := (lN_eq0 g1b).mp q; omega), Option.bind_some,
          if_neg (fun q => by have := (lN_eq0 g2b).mp q; omega), Option.bind_some, if_neg (fun q => by have := (lN_eq0 g2b).mp q; omega), Option.bind_some, if_neg (fun q => by have := (lN_eq0 g1b).mp q; omega),
          pk_lDiv bu g1p g1b, pk_lDiv bv g2p g2b, pk_lDiv bl g2p g2b, pk_lDiv bm g1p g1b, F_exc (by omega) (by omega), Option.bind_some]
        by_cases x1 : u / gd u m * (v / gd v l) ≤ qM
        · rw [if_pos x1, if_pos rfl, F_exc (by omega) (by omega), Option.bind_some]
          by_cases x2 : l / gd v l * (m / gd u m) ≤ qM
          · rw [if_pos x2, if_pos rfl, if_pos ⟨x1, x2⟩, lN_mul, lN_mul, fo_p0 H, Option.bind_some, fo_p1 hup_s, Option.bind_some, hup_u]
            rfl
          · rw [if_neg x2, if_neg (by decide), if_neg (fun q => x2 q.2), F_mul162 hX]
        · rw [if_neg x1, if_neg (by decide), if_neg (fun q => x1 q.1), F_mul162 hX]
      · rw [if_neg (fun q => hts (bI_eq.mp q).symm), if_neg hts]
        unfold f_F_multiply_30
        rw [(fo_g G).2.2.2.1, Option.bind_some, if_pos rfl]
        unfold f_F_multiply_42
        rw [F_mul52 hX]
        rfl
theorem qmul_ok {x y : QR} (hx : qok x) (hy : qok y) : qok (qmul x y) := by
  cases x with
  | error e => exact hx
  | ok p =>
    cases y with
    | error e => exact hy
    | ok q =>
      unfold qmul
      dsimp only
      split
      · exact qmk_ok (Nat.mul_pos hx.2.1 hy.2.1) _
      · exact Or.inl rfl
/-- a fraction and another together, by so many -/
def qadd (u l x y parts : Nat) : QR := if l * (y / gd l y) ≤ qM ∧ u * (y / gd l y) ≤ qM ∧ x * (l / gd l y) ≤ qM then qmk (u * (y / gd l y) + x * (l / gd l y)) (l * (y / gd l y) * parts) false else .error eLARGE
theorem F_add135 {h : Hp} {a : Nat} (H : FX h a) : f_F_addAndShare_135 a h = some (hup h a (frE (.error eLARGE))) := by
  unfold f_F_addAndShare_135
  rw [F_refuse H, Option.bind_some]
  rfl
theorem F_add218 {h : Hp} {a U L : Nat} {l : Int64} (H : h a = some (.inr (1, [.long (lN U), .long l, .int (bI false), .int 0]))) (hU : U < 2 ^ 63) (hL : L < 2 ^ 63) : f_F_addAndShare_218 a (lN L) h = some (hup h a (frE (if U ≤ qM ∧ L ≤ qM then .ok (U, L, false) else .error eLARGE))) := by
  unfold f_F_addAndShare_218
  rw [fo_p1 H, Option.bind_some, (fo_g hup_s).1, Option.bind_some]
  have hr : f_F_addAndShare_243 a (hup h a (.inr (1, [.long (lN U), .long (lN L), .int (bI false), .int 0]))) = some (hup h a (frE (.error eLARGE))) := by
    unfold f_F_addAndShare_243
    rw [F_refuse FXs, Option.bind_some, hup_u]
    rfl
  by_cases h1 : U ≤ qM
  · rw [if_neg (fun q => (lM_lt hU).mp q h1), (fo_g hup_s).2.1, Option.bind_some]
    by_cases h2 : L ≤ qM
    · rw [if_pos ((lM_le hL).mpr h2), if_pos ⟨h1, h2⟩]
      rfl
    · rw [if_neg (fun q => h2 ((lM_le hL).mp q)), if_neg (fun q => h2 q.2), hr]
  · rw [if_pos ((lM_lt hU).mpr h1), if_neg (fun q => h1 q.1), hr]
theorem F_addAndShare {h : Hp} {a u l x y parts : Nat} (H : FR h a (.ok (u, l, false))) (k : qok (.ok (u, l, false))) (hx : x ≤ qM) (hy : 0 < y) (hy2 : y ≤ qM) (hp : 0 < parts) (hp2 : parts ≤ 2) : f_F_addAndShare a (lN x) (lN y) (nI parts) h = some (hup h a (frE (qadd u l x y parts))) := by
  have hX := H.x
  have H := fr_ok H
  obtain ⟨bu, bl, lp, mu, ml, hcop⟩ := qok_b k
  rw [qM_eq] at hx hy2
  have bx : x < 2 ^ 63 := Nat.lt_of_le_of_lt hx (by decide)
  have bY : y < 2 ^ 63 := Nat.lt_of_le_of_lt hy2 (by decide)
  have gb := gd_le bl bY
  have gp := gd_pos l y
  have e1 : y / gd l y ≤ y := Nat.div_le_self _ _
  have e2 : l / gd l y ≤ l := Nat.div_le_self _ _
  have c91 : f_F_addAndShare_91 a (lN (l / gd l y)) (lN x) (nI parts) (lN (y / gd l y)) h = some (hup h a (frE (qadd u l x y parts))) := by
    unfold f_F_addAndShare_91 qadd
    rw [(fo_g H).2.1, Option.bind_some, F_exc bl (by omega), Option.bind_some]
    by_cases x1 : l * (y / gd l y) ≤ qM
    · rw [if_pos x1, if_pos rfl, (fo_g H).1, Option.bind_some, F_exc bu (by omega), Option.bind_some]
      by_cases x2 : u * (y / gd l y) ≤ qM
      · rw [if_pos x2, if_pos rfl, F_exc bx (by omega), Option.bind_some]
        by_cases x3 : x * (l / gd l y) ≤ qM
        · rw [if_pos x3, if_pos rfl, if_pos ⟨x1, x2, x3⟩, Option.bind_some, Option.bind_some, nI_l (by omega), lN_mul, lN_mul, lN_mul, lN_mul, lN_add]
          generalize hS : u * (y / gd l y) + x * (l / gd l y) = Sm
          generalize hU : l * (y / gd l y) * parts = Un
          have hSb : Sm < 2 ^ 63 := by rw [← hS]; rw [qM_eq] at x2 x3; omega
          have hUb : Un < 2 ^ 63 := by
            have : l * (y / gd l y) * parts ≤ l * (y / gd l y) * 2 := Nat.mul_le_mul_left _ hp2
            rw [qM_eq] at x1; omega
          have hUp : 0 < Un := by
            rw [← hU]
            refine Nat.mul_pos (Nat.mul_pos lp ?_) hp
            rw [gd_of (Or.inl lp)]
            exact Nat.div_pos (Nat.gcd_le_right _ hy) (Nat.gcd_pos_of_pos_left _ lp)
          rw [zcd hSb hUb, Option.bind_some]
          have qb := gd_le hSb hUb
          have qp := gd_pos Sm Un
          have qe : gd Sm Un = Nat.gcd Sm Un := gd_of (Or.inr hUp)
          have b1 : Sm / gd Sm Un < 2 ^ 63 := Nat.lt_of_le_of_lt (Nat.div_le_self _ _) hSb
          have b2 : Un / gd Sm Un < 2 ^ 63 := Nat.lt_of_le_of_lt (Nat.div_le_self _ _) hUb
          have c197 : f_F_addAndShare_197 a (lN (Sm / gd Sm Un)) (lN Un) (lN (gd Sm Un)) h = some (hup h a (frE (qmk Sm Un false))) := by
            unfold f_F_addAndShare_197
            rw [fo_p0 H, Option.bind_some]
            have e62 : f_F_addAndShare_218 a (lN (Un / gd Sm Un)) (hup h a (.inr (1, [.long (lN (Sm / gd Sm Un)), .long (lN l), .int (bI false), .int 0]))) = some (hup h a (frE (qmk Sm Un false))) := by
              rw [F_add218 hup_s b1 b2, hup_u]
              unfold qmk
              rw [qe]
            by_cases h1 : gd Sm Un ≤ 1
            · rw [if_pos ((lN_le1 qb).mpr h1)]
              have h1' : gd Sm Un = 1 := by omega
              rw [h1', Nat.div_one, Nat.div_one] at e62
              rw [h1', Nat.div_one]
              exact e62
            · rw [if_neg (fun q => h1 ((lN_le1 qb).mp q)), if_neg (fun q => by have := (lN_eq0 qb).mp q; omega), pk_lDiv hUb qp qb]
              exact e62
          by_cases h1 : gd Sm Un ≤ 1
          · rw [if_pos ((lN_le1 qb).mpr h1)]
            have h1' : gd Sm Un = 1 := by omega
            rw [h1', Nat.div_one] at c197
            rw [h1']
            exact c197
          · rw [if_neg (fun q => h1 ((lN_le1 qb).mp q)), if_neg (fun q => by have := (lN_eq0 qb).mp q; omega), pk_lDiv hSb qp qb]
            exact c197
        · rw [if_neg x3, if_neg (by decide), if_neg (fun q => x3 q.2.2), F_add135 hX]
      · rw [if_neg x2, if_neg (by decide), if_neg (fun q => x2 q.2.1), F_add135 hX]
    · rw [if_neg x1, if_neg (by decide), if_neg (fun q => x1 q.1), F_add135 hX]
  have c68 : f_F_addAndShare_68 a (lN (y / gd l y)) (lN x) (nI parts) (lN (gd l y)) h = some (hup h a (frE (qadd u l x y parts))) := by
    unfold f_F_addAndShare_68
    by_cases h1 : gd l y ≤ 1
    · rw [if_pos ((lN_le1 gb).mpr h1), (fo_g H).2.1, Option.bind_some]
      have h1' : gd l y = 1 := by omega
      rw [h1', Nat.div_one] at c91
      rw [h1']
      exact c91
    · rw [if_neg (fun q => h1 ((lN_le1 gb).mp q)), (fo_g H).2.1, Option.bind_some, if_neg (fun q => by have := (lN_eq0 gb).mp q; omega), pk_lDiv bl gp gb]
      exact c91
  unfold f_F_addAndShare
  rw [if_pos (fo_g H).2.2.2.2, (fo_g H).2.2.2.1, Option.bind_some, if_pos rfl, if_neg (lN_lt0 bx), if_neg (fun q => by have := (lN_lt1 bY).mp q; omega), (fo_g H).2.1, Option.bind_some, if_neg (fun q => by have := (lN_lt1 bl).mp q; omega),
    if_pos (show (1 : Int32) ≤ nI parts from nI_le (a := 1) hp (by omega)), Option.bind_some, zcd bl bY, Option.bind_some]
  by_cases h1 : gd l y ≤ 1
  · rw [if_pos ((lN_le1 gb).mpr h1)]
    have h1' : gd l y = 1 := by omega
    rw [h1', Nat.div_one] at c68
    rw [h1']
    exact c68
  · rw [if_neg (fun q => h1 ((lN_le1 gb).mp q)), if_neg (fun q => by have := (lN_eq0 gb).mp q; omega), pk_lDiv bY gp gb]
    exact c68
theorem qadd_ok {u l x y parts : Nat} (hl : 0 < l) (hy : 0 < y) (hp : 0 < parts) : qok (qadd u l x y parts) := by
  unfold qadd
  split
  · refine qmk_ok (Nat.mul_pos (Nat.mul_pos hl ?_) hp) _
    rw [gd_of (Or.inl hl)]
    exact Nat.div_pos (Nat.gcd_le_right _ hy) (Nat.gcd_pos_of_pos_left _ hl)
  · exact Or.inr rfl
/-- twice it -/
def qdbl (r : QR) : QR := match r with
  | .ok q => qmk (q.1 * (if q.2.2 then 4 else 2)) q.2.1 q.2.2
  | .error e => .error e
theorem qmk_t (u l : Nat) (s t : Bool) : qmk u l t = (match qmk u l s with | .ok q => .ok (q.1, q.2.1, t) | .error e => .error e) := by
  unfold qmk
  by_cases h : u / Nat.gcd u l ≤ qM ∧ l / Nat.gcd u l ≤ qM
  · rw [if_pos h, if_pos h]
  · rw [if_neg h, if_neg h]
theorem F_dbl52 {h : Hp} {a : Nat} {u l : Int64} {t f : Int32} (H : h a = some (.inr (1, [.long u, .long l, .int t, .int f]))) (b : Bool) : f_F_doubleIt_52 a (bI b) h = some (hup h a (.inr (1, [.long u, .long l, .int (bI b), .int f]))) := by
  unfold f_F_doubleIt_52
  rw [show zB (bI b) = some (bI b) by cases b <;> rfl, Option.bind_some, fo_p2 H, Option.bind_some]
theorem F_doubleIt {h : Hp} {a : Nat} {r : QR} (H : FR h a r) (k : qok r) : f_F_doubleIt a h = some (hup h a (frE (qdbl r))) := by
  have hX := H.x
  unfold f_F_doubleIt
  cases r with
  | error e =>
    have H := fr_err H
    rw [if_pos (fo_g H).2.2.2.2, (fo_g H).2.2.2.1, Option.bind_some, if_neg (err_ne k)]
    exact congrArg some (hup_id H).symm
  | ok q =>
    obtain ⟨u, l, t⟩ := q
    have H := fr_ok H
    obtain ⟨bu, bl, lp, mu, ml, hcop⟩ := qok_b k
    rw [if_pos (fo_g H).2.2.2.2, (fo_g H).2.2.2.1, Option.bind_some, if_pos rfl, (fo_g H).2.2.1, Option.bind_some, (fo_g H).1, Option.bind_some]
    have go : ∀ (z : Nat), z ≤ 4 → (2 * (if t then 2 else 1) = z) → f_F_doubleIt_26 a (lN u) (nI z) (bI t) h = some (hup h a (frE (qmk (u * z) l t))) := by
      intro z hz hzt
      unfold f_F_doubleIt_26
      have hb : u * z < 2 ^ 63 := by
        have : u * z ≤ u * 4 := Nat.mul_le_mul_left _ hz
        omega
      rw [(fo_g H).2.1, Option.bind_some, nI_l (by omega), lN_mul, F_put hX lp hb bl, Option.bind_some, qmk_t (u * z) l false t]
      cases hq : qmk (u * z) l false with
      | error e =>
        have hk : qok (qmk (u * z) l false) := qmk_ok lp _
        rw [hq] at hk
        have G := fr_err (show FR (hup h a (frE (.error e))) a (.error e) from hup_s)
        by_cases h0 : bI t = 0
        · rw [if_pos h0]
          unfold f_F_doubleIt_51
          rw [show (0 : Int32) = bI false from rfl, F_dbl52 G, hup_u]
          rfl
        · rw [if_neg h0, (fo_g G).2.2.2.1, Option.bind_some, if_neg (err_ne hk)]
          unfold f_F_doubleIt_51
          rw [show (0 : Int32) = bI false from rfl, F_dbl52 G, hup_u]
          rfl
      | ok q =>
        obtain ⟨u', l', t'⟩ := q
        have G := fr_ok (show FR (hup h a (frE (.ok (u', l', t')))) a (.ok (u', l', t')) from hup_s)
        by_cases h0 : bI t = 0
        · rw [if_pos h0]
          unfold f_F_doubleIt_51
          have ht : t = false := bI_0.mp h0
          subst ht
          rw [show (0 : Int32) = bI false from rfl, F_dbl52 G, hup_u]
          rfl
        · rw [if_neg h0, (fo_g G).2.2.2.1, Option.bind_some, if_pos rfl]
          have ht : t = true := by cases t with
            | true => rfl
            | false => exact absurd rfl h0
          subst ht
          rw [show (1 : Int32) = bI true from rfl, F_dbl52 G, hup_u]
          rfl
    rw [show qdbl (.ok (u, l, t)) = qmk (u * (if t then 4 else 2)) l t from rfl]
    cases t with
    | false => rw [if_pos bI_f]; exact go 2 (by decide) rfl
    | true => rw [if_neg (by decide)]; exact go 4 (by decide) rfl
theorem qdbl_ok {r : QR} (k : qok r) : qok (qdbl r) := by
  cases r with
  | error e => exact k
  | ok q => exact qmk_ok k.2.1 _
theorem F_take {h : Hp} {a b : Nat} {r : QR} (H : FX h a) (G : FR h b r) (hab : a ≠ b) : f_F_take a b h = some (hup h a (frE r)) := by
  obtain ⟨u0, l0', t0, f0, H⟩ := H
  have key : ∀ {u l : Int64} {t : Bool} {f : Int32}, h b = some (.inr (1, [.long u, .long l, .int (bI t), .int f])) → f_F_take a b h = some (hup h a (.inr (1, [.long u, .long l, .int (bI t), .int f]))) := by
    intro u l t f G
    have hn : ∀ {e : zE}, (hup h a e) b = some (.inr (1, [.long u, .long l, .int (bI t), .int f])) := fun {e} => by rw [hup_n hab.symm]; exact G
    unfold f_F_take
    rw [if_pos (fo_g H).2.2.2.2, (fo_g G).1, Option.bind_some, fo_p0 H, Option.bind_some, (fo_g hn).2.1, Option.bind_some, fo_p1 hup_s, Option.bind_some, hup_u, (fo_g hn).2.2.1, Option.bind_some, show zB (bI t) = some (bI t) by cases t <;> rfl, Option.bind_some, fo_p2 hup_s, Option.bind_some, hup_u, (fo_g hn).2.2.2.1, Option.bind_some, fo_p3 hup_s, Option.bind_some, hup_u]
  cases r with
  | error e => exact key (t := false) G
  | ok q => exact key G
/-- ORDER as the methods tell it -/
def oI (x : Except Int32 Int32) : Int32 := match x with
  | .ok s => s
  | .error e => e
theorem F_ord55 {h : Hp} {a b : Nat} {u l v m : Nat} {t s : Bool} (H : FR h a (.ok (u, l, t))) (G : FR h b (.ok (v, m, s))) (k1 : qok (.ok (u, l, t))) (k2 : qok (.ok (v, m, s))) (hts : t ≠ s) : f_F_orderOf_55 h (some (if t then b else a)) a b = some (oI (qord (u, l, t) (v, m, s))) := by
  have H := fr_ok H
  have G := fr_ok G
  obtain ⟨bu, bl, lp, mu, ml, hcop⟩ := qok_b k1
  obtain ⟨bv, bm, mp, mv, mm, hcop2⟩ := qok_b k2
  unfold f_F_orderOf_55
  have ub : ∀ {x : Nat}, x ≤ qM → x < 2 ^ 63 := fun h => Nat.lt_of_le_of_lt h (by decide)
  cases t with
  | true =>
    have hs : s = false := by cases s with
      | false => rfl
      | true => exact absurd rfl hts
    subst hs
    rw [if_pos rfl]
    show (gL h b 1 0).bind _ = _
    rw [(fo_g G).1, Option.bind_some, Option.bind_some, F_exc bv bv, Option.bind_some]
    rw [show qord (u, l, true) (v, m, false) = (if v * v ≤ qM ∧ m * m ≤ qM then .ok (cmp3 (u * (m * m)) (v * v * l)) else .error eLARGE) from rfl]
    by_cases x1 : v * v ≤ qM
    · rw [if_pos x1, if_pos rfl, (fo_g G).2.1, Option.bind_some, Option.bind_some, F_exc bm bm, Option.bind_some]
      by_cases x2 : m * m ≤ qM
      · rw [if_pos x2, if_pos rfl, if_pos ⟨x1, x2⟩, Option.bind_some, Option.bind_some, Option.bind_some, Option.bind_some, (fo_g H).2.2.1, Option.bind_some, if_neg (by decide), (fo_g H).1, Option.bind_some, (fo_g H).2.1, Option.bind_some, lN_mul, lN_mul,
          zcs lp (Nat.mul_pos mp mp) bu bl (ub x1) (ub x2), Option.bind_some]
        rfl
      · rw [if_neg x2, if_neg (by decide), if_neg (fun q => x2 q.2)]
        rfl
    · rw [if_neg x1, if_neg (by decide), if_neg (fun q => x1 q.1)]
      rfl
  | false =>
    have hs : s = true := by cases s with
      | true => rfl
      | false => exact absurd rfl hts
    subst hs
    rw [if_neg (by decide)]
    show (gL h a 1 0).bind _ = _
    rw [(fo_g H).1, Option.bind_some, Option.bind_some, F_exc bu bu, Option.bind_some]
    rw [show qord (u, l, false) (v, m, true) = (if u * u ≤ qM ∧ l * l ≤ qM then .ok (cmp3 (u * u * m) (v * (l * l))) else .error eLARGE) from rfl]
    by_cases x1 : u * u ≤ qM
    · rw [if_pos x1, if_pos rfl, (fo_g H).2.1, Option.bind_some, Option.bind_some, F_exc bl bl, Option.bind_some]
      by_cases x2 : l * l ≤ qM
      · rw [if_pos x2, if_pos rfl, if_pos ⟨x1, x2⟩, Option.bind_some, Option.bind_some, Option.bind_some, Option.bind_some, (fo_g H).2.2.1, Option.bind_some, if_pos bI_f, (fo_g G).1, Option.bind_some, (fo_g G).2.1, Option.bind_some, lN_mul, lN_mul,
          zcs (Nat.mul_pos lp lp) mp (ub x1) (ub x2) bv bm, Option.bind_some]
        rfl
      · rw [if_neg x2, if_neg (by decide), if_neg (fun q => x2 q.2)]
        rfl
    · rw [if_neg x1, if_neg (by decide), if_neg (fun q => x1 q.1)]
      rfl
theorem F_orderOf {h : Hp} {a b : Nat} {p q : Nat × Nat × Bool} (H : FR h a (.ok p)) (G : FR h b (.ok q)) (k1 : qok (.ok p)) (k2 : qok (.ok q)) : f_F_orderOf h a b = some (oI (qord p q)) := by
  obtain ⟨u, l, t⟩ := p
  obtain ⟨v, m, s⟩ := q
  have H' := fr_ok H
  have G' := fr_ok G
  obtain ⟨bu, bl, lp, mu, ml, hcop⟩ := qok_b k1
  obtain ⟨bv, bm, mp, mv, mm, hcop2⟩ := qok_b k2
  unfold f_F_orderOf
  rw [(fo_g H').2.2.1, Option.bind_some, (fo_g G').2.2.1, Option.bind_some]
  by_cases hts : t = s
  · rw [if_pos (bI_eq.mpr hts), (fo_g H').1, Option.bind_some, (fo_g H').2.1, Option.bind_some, (fo_g G').1, Option.bind_some, (fo_g G').2.1, Option.bind_some, zcs lp mp bu bl bv bm, Option.bind_some]
    unfold qord
    rw [if_pos hts]
    rfl
  · rw [if_neg (fun q => hts (bI_eq.mp q)), Option.bind_some]
    have := F_ord55 H G k1 k2 hts
    cases t with
    | true => rw [if_neg (by decide)]; exact this
    | false => rw [if_pos bI_f]; exact this
