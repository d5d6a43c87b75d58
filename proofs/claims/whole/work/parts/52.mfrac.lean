/-! ===== the reference's object, and its fractions ===== -/
def ocell (ci n : Nat) (F : Nat → Value) : zE := .inr (ci, (List.range n).map F)
def fset (F : Nat → Value) (k : Nat) (v : Value) : Nat → Value := fun j => if j = k then v else F j
theorem fset_s {F : Nat → Value} {k : Nat} {v : Value} : fset F k v k = v := by simp [fset]
theorem fset_n {F : Nat → Value} {k j : Nat} {v : Value} (h : j ≠ k) : fset F k v j = F j := by simp [fset, h]
theorem map_get {F : Nat → Value} {n k : Nat} (h : k < n) : ((List.range n).map F)[k]? = some (F k) := by simp [h]
theorem map_set {F : Nat → Value} {n k : Nat} {v : Value} : ((List.range n).map F).set k v = (List.range n).map (fset F k v) := by
  apply List.ext_getElem?
  intro i
  by_cases hi : i < n
  · rw [List.getElem?_set]
    by_cases hk : k = i
    · subst hk; simp [hi, fset]
    · rw [if_neg hk]; simp [hi, fset, Ne.symm hk]
  · rw [List.getElem?_eq_none (by simp; omega), List.getElem?_eq_none (by simp; omega)]
section OC
variable {h : Hp} {a ci n k : Nat} {F : Nat → Value} {v : Value}
theorem oc_v (H : h a = some (ocell ci n F)) (hk : k < n) : gV h a ci k = some (F k) := by
  unfold gV
  rw [H]
  show (if ci = ci then _ else _) = _
  rw [if_pos rfl]
  exact map_get hk
theorem oc_i (H : h a = some (ocell ci n F)) (hk : k < n) {x : Int32} (e : F k = .int x) : gI h a ci k = some x := by unfold gI; rw [oc_v H hk, e]
theorem oc_l (H : h a = some (ocell ci n F)) (hk : k < n) {x : Int64} (e : F k = .long x) : gL h a ci k = some x := by unfold gL; rw [oc_v H hk, e]
theorem oc_a (H : h a = some (ocell ci n F)) (hk : k < n) {x : Nat} (e : F k = .ref x) : gA h a ci k = some (some x) := by unfold gA; rw [oc_v H hk, e]
theorem oc_n (H : h a = some (ocell ci n F)) (hk : k < n) (e : F k = .null) : gA h a ci k = some none := by unfold gA; rw [oc_v H hk, e]
theorem oc_p (H : h a = some (ocell ci n F)) (hk : k < n) : pV h a ci k v = some (hup h a (ocell ci n (fset F k v))) := by
  unfold pV
  rw [H]
  show (if ci = ci ∧ k < ((List.range n).map F).length then some (hup h a (.inr (ci, ((List.range n).map F).set k v))) else none) = _
  rw [if_pos ⟨rfl, by simp; exact hk⟩, map_set]
  rfl
theorem oc_o (H : h a = some (ocell ci n F)) : isO h a ci = true := by
  unfold isO
  rw [H]
  show (ci == ci) = true
  simp
end OC
/-- a fraction at hand: the fields up, low, isRoot -/
def mf3 (F : Nat → Value) (U L : Nat) (t : Bool) : Nat → Value := fset (fset (fset F 14 (.long (lN U))) 15 (.long (lN L))) 16 (.int (bI t))
theorem mf3_14 {F : Nat → Value} {U L : Nat} {t : Bool} : mf3 F U L t 14 = .long (lN U) := by simp [mf3, fset]
theorem mf3_15 {F : Nat → Value} {U L : Nat} {t : Bool} : mf3 F U L t 15 = .long (lN L) := by simp [mf3, fset]
theorem mf3_16 {F : Nat → Value} {U L : Nat} {t : Bool} : mf3 F U L t 16 = .int (bI t) := by simp [mf3, fset]
theorem mf3_n {F : Nat → Value} {U L k : Nat} {t : Bool} (h1 : k ≠ 14) (h2 : k ≠ 15) (h3 : k ≠ 16) : mf3 F U L t k = F k := by simp [mf3, fset, h1, h2, h3]
def mcode (r : QR) : Int32 := match r with
  | .ok _ => 0
  | .error e => e
/-- something is at hand -/
def mTy (F : Nat → Value) : Prop := ∃ (U L : Nat) (t : Bool), F 14 = .long (lN U) ∧ F 15 = .long (lN L) ∧ F 16 = .int (bI t)
/-- r came to hand -/
def MRes (F F' : Nat → Value) (r : QR) : Prop := (∀ k, k ≠ 14 → k ≠ 15 → k ≠ 16 → F' k = F k) ∧ ∃ (U L : Nat) (t : Bool), F' 14 = .long (lN U) ∧ F' 15 = .long (lN L) ∧ F' 16 = .int (bI t) ∧ ∀ q, r = .ok q → q = (U, L, t)
theorem MRes.ty {F F' : Nat → Value} {r : QR} (H : MRes F F' r) : mTy F' := by
  obtain ⟨-, U, L, t, h1, h2, h3, -⟩ := H
  exact ⟨U, L, t, h1, h2, h3⟩
theorem MRes.ok {F F' : Nat → Value} {u l : Nat} {t : Bool} (H : MRes F F' (.ok (u, l, t))) : F' 14 = .long (lN u) ∧ F' 15 = .long (lN l) ∧ F' 16 = .int (bI t) := by
  obtain ⟨-, U, L, s, h1, h2, h3, h4⟩ := H
  cases h4 _ rfl
  exact ⟨h1, h2, h3⟩
theorem MRes.err {F : Nat → Value} {e : Int32} (H : mTy F) : MRes F F (.error e) := by
  obtain ⟨U, L, t, h1, h2, h3⟩ := H
  exact ⟨fun _ _ _ _ => rfl, U, L, t, h1, h2, h3, fun q h => by cases h⟩
theorem M_take {h : Hp} {m u l : Nat} {t : Bool} {F : Nat → Value} (H : h m = some (ocell 8 40 F)) (hl : 0 < l) (hu : u < 2 ^ 63) (hl2 : l < 2 ^ 63) : ∃ F', f_M_take m (lN u) (lN l) (bI t) h = some (mcode (qmk u l t), hup h m (ocell 8 40 F')) ∧ MRes F F' (qmk u l t) := by
  have hg : Nat.gcd u l < 2 ^ 63 := Nat.lt_of_le_of_lt (Nat.gcd_le_right _ hl) hl2
  have hgp : 0 < Nat.gcd u l := Nat.gcd_pos_of_pos_right _ hl
  have b1 : u / Nat.gcd u l < 2 ^ 63 := Nat.lt_of_le_of_lt (Nat.div_le_self _ _) hu
  have b2 : l / Nat.gcd u l < 2 ^ 63 := Nat.lt_of_le_of_lt (Nat.div_le_self _ _) hl2
  refine ⟨mf3 F (u / Nat.gcd u l) (l / Nat.gcd u l) t, ?_, fun k h1 h2 h3 => mf3_n h1 h2 h3, _, _, _, mf3_14, mf3_15, mf3_16, fun q hq => ?_⟩
  · have g0 : ¬ lN (Nat.gcd u l) = 0 := fun q => by have := (lN_eq0 hg).mp q; omega
    have e14 : fset (fset (fset F 14 (.long (lN (u / Nat.gcd u l)))) 15 (.long (lN (l / Nat.gcd u l)))) 16 (.int (bI t)) 14 = .long (lN (u / Nat.gcd u l)) := mf3_14
    have e15 : fset (fset (fset F 14 (.long (lN (u / Nat.gcd u l)))) 15 (.long (lN (l / Nat.gcd u l)))) 16 (.int (bI t)) 15 = .long (lN (l / Nat.gcd u l)) := mf3_15
    unfold f_M_take
    rw [if_pos (oc_o H), if_neg (fun q => by have := (lN_eq0 hl2).mp q; omega), zgcd hu hl2, Option.bind_some, if_neg g0, pk_lDiv hu hgp hg, oc_p H (by decide), Option.bind_some, if_neg g0, pk_lDiv hl2 hgp hg, oc_p hup_s (by decide), Option.bind_some, hup_u,
      show zB (bI t) = some (bI t) by cases t <;> rfl, Option.bind_some, oc_p hup_s (by decide), Option.bind_some, hup_u, oc_l hup_s (by decide) e14, Option.bind_some]
    unfold qmk
    by_cases x1 : u / Nat.gcd u l ≤ qM
    · rw [if_neg (fun q => (lM_lt b1).mp q x1), oc_l hup_s (by decide) e15, Option.bind_some]
      by_cases x2 : l / Nat.gcd u l ≤ qM
      · rw [if_pos ((lM_le b2).mpr x2), if_pos ⟨x1, x2⟩]
        rfl
      · rw [if_neg (fun q => x2 ((lM_le b2).mp q)), if_neg (fun q => x2 q.2)]
        rfl
    · rw [if_pos ((lM_lt b1).mpr x1), if_neg (fun q => x1 q.1)]
      rfl
  · unfold qmk at hq
    split at hq
    · cases hq; rfl
    · cases hq
theorem M_take0 {h : Hp} {m : Nat} {u : Int64} {t : Int32} {F : Nat → Value} (H : h m = some (ocell 8 40 F)) : f_M_take m u 0 t h = some (eNOT, h) := by
  unfold f_M_take
  rw [if_pos (oc_o H), if_pos rfl]
  rfl
theorem M_half {h : Hp} {m u l : Nat} {F : Nat → Value} (H : h m = some (ocell 8 40 F)) (hl : 0 < l) (hu : u < 2 ^ 63) (hl2 : 2 * l < 2 ^ 63) : ∃ F', f_M_half m (lN u) (lN l) h = some (mcode (qmk u (l * 2) false), hup h m (ocell 8 40 F')) ∧ MRes F F' (qmk u (l * 2) false) := by
  unfold f_M_half
  rw [if_pos (oc_o H), l2, pk_lRem hu (by decide) (by decide), pk_lDiv hu (by decide) (by decide)]
  have hr : u % 2 < 2 := Nat.mod_lt _ (by decide)
  by_cases h0 : u % 2 = 0
  · rw [if_pos (by rw [h0]; rfl)]
    have e : qmk (u / 2) l false = qmk u (l * 2) false := qmk_eq hl (by omega) (by
      have : u / 2 * 2 = u := by omega
      calc u / 2 * (l * 2) = u / 2 * 2 * l := by rw [Nat.mul_comm l 2, Nat.mul_assoc]
        _ = u * l := by rw [this]) false
    obtain ⟨F', e1, e2⟩ := M_take (t := false) H hl (show u / 2 < 2 ^ 63 by omega) (show l < 2 ^ 63 by omega)
    rw [e] at e1 e2
    refine ⟨F', ?_, e2⟩
    rw [show (0 : Int32) = bI false from rfl, e1]
    rfl
  · rw [if_neg (fun q => h0 ((lN_eq0 (by omega)).mp q)), lN_mul]
    obtain ⟨F', e1, e2⟩ := M_take (t := false) (l := l * 2) H (by omega) hu (by omega)
    refine ⟨F', ?_, e2⟩
    rw [show (0 : Int32) = bI false from rfl, Nat.mul_comm 2 l, e1]
    rfl
theorem M_multiply {h : Hp} {m u l v n : Nat} {t : Bool} {F : Nat → Value} (H : h m = some (ocell 8 40 F)) (hT : mTy F) (k1 : qok (.ok (u, l, t))) (k2 : qok (.ok (v, n, t))) : ∃ F', f_M_multiply m (lN u) (lN l) (lN v) (lN n) (bI t) h = some (mcode (qmk (u * v) (l * n) t), hup h m (ocell 8 40 F')) ∧ MRes F F' (qmk (u * v) (l * n) t) := by
  obtain ⟨bu, bl, lp, mu, ml, hcop⟩ := qok_b k1
  obtain ⟨bv, bn, np, mv, mn, hcop2⟩ := qok_b k2
  obtain ⟨c1, c2, c3⟩ := cross hcop hcop2 lp np
  have ge1 : gd u n = Nat.gcd u n := gd_of (Or.inr np)
  have ge2 : gd v l = Nat.gcd v l := gd_of (Or.inr lp)
  have g1p := gd_pos u n
  have g2p := gd_pos v l
  have g1b := gd_le bu bn
  have g2b := gd_le bv bl
  have z1 : ¬ lN (gd u n) = 0 := fun q => by have := (lN_eq0 g1b).mp q; omega
  have z2 : ¬ lN (gd v l) = 0 := fun q => by have := (lN_eq0 g2b).mp q; omega
  have e1 : u / gd u n ≤ u := Nat.div_le_self _ _
  have e2 : v / gd v l ≤ v := Nat.div_le_self _ _
  have e3 : l / gd v l ≤ l := Nat.div_le_self _ _
  have e4 : n / gd u n ≤ n := Nat.div_le_self _ _
  have p3 : 0 < l / gd v l := Nat.pos_of_mul_pos_right c2
  have p4 : 0 < n / gd u n := Nat.pos_of_mul_pos_left c2
  have eq : qmk (u * v) (l * n) t = if u / gd u n * (v / gd v l) ≤ qM ∧ l / gd v l * (n / gd u n) ≤ qM then .ok (u / gd u n * (v / gd v l), l / gd v l * (n / gd u n), t) else .error eLARGE := by
    rw [← qmk_red c1]
    exact qmk_eq (Nat.mul_pos lp np) c2 c3.symm t
  have eq2 : qmk (u * v) (l * n) t = qmk (u / gd u n * (v / gd v l)) (l / gd v l * (n / gd u n)) t := qmk_eq (Nat.mul_pos lp np) c2 c3.symm t
  have body : ∃ F', f_M_multiply_83 m (lN n) (lN (gd u n)) (bI t) (lN (u / gd u n)) (lN (v / gd v l)) (lN (l / gd v l)) h = some (mcode (qmk (u * v) (l * n) t), hup h m (ocell 8 40 F')) ∧ MRes F F' (qmk (u * v) (l * n) t) := by
    have d128 : (u / gd u n * (v / gd v l) ≤ qM) → (l / gd v l * (n / gd u n) ≤ qM) → ∃ F', f_M_multiply_128 m (bI t) (lN (u / gd u n)) (lN (v / gd v l)) (lN (l / gd v l)) (lN (n / gd u n)) h = some (mcode (qmk (u * v) (l * n) t), hup h m (ocell 8 40 F')) ∧ MRes F F' (qmk (u * v) (l * n) t) := by
      intro x1 x2
      rw [eq2]
      have ub : ∀ {x : Nat}, x ≤ qM → x < 2 ^ 63 := fun h => Nat.lt_of_le_of_lt h (by decide)
      obtain ⟨F', q1, q2⟩ := M_take (t := t) H c2 (ub x1) (ub x2)
      refine ⟨F', ?_, q2⟩
      unfold f_M_multiply_128
      rw [lN_mul, lN_mul, q1]
      rfl
    have big : ¬ (u / gd u n * (v / gd v l) ≤ qM ∧ l / gd v l * (n / gd u n) ≤ qM) → ∃ F', some ((-1005 : Int32), h) = some (mcode (qmk (u * v) (l * n) t), hup h m (ocell 8 40 F')) ∧ MRes F F' (qmk (u * v) (l * n) t) := by
      intro x
      rw [eq, if_neg x]
      exact ⟨F, by rw [hup_id H]; rfl, MRes.err hT⟩
    have d105 : (u / gd u n * (v / gd v l) ≤ qM) → ∃ F', f_M_multiply_105 m (bI t) (lN (u / gd u n)) (lN (v / gd v l)) (lN (l / gd v l)) (lN (n / gd u n)) h = some (mcode (qmk (u * v) (l * n) t), hup h m (ocell 8 40 F')) ∧ MRes F F' (qmk (u * v) (l * n) t) := by
      intro x1
      unfold f_M_multiply_105
      rw [if_neg (fun q => by have := (lN_le0 (by omega)).mp q; omega), if_neg (fun q => by have := (lN_eq0 (by omega)).mp q; omega), lM, pk_lDiv (by decide) p4 (by omega)]
      have hd : 1000000000000000 / (n / gd u n) < 2 ^ 63 := Nat.lt_of_le_of_lt (Nat.div_le_self _ _) (by decide)
      have hiff : l / gd v l ≤ 1000000000000000 / (n / gd u n) ↔ l / gd v l * (n / gd u n) ≤ qM := by rw [Nat.le_div_iff_mul_le p4, qM_eq]
      by_cases x2 : l / gd v l * (n / gd u n) ≤ qM
      · rw [if_pos ((pk_lLE (by omega) hd).mpr (hiff.mpr x2))]
        exact d128 x1 x2
      · rw [if_neg (fun q => x2 (hiff.mp ((pk_lLE (by omega) hd).mp q)))]
        exact big (fun q => x2 q.2)
    unfold f_M_multiply_83
    rw [if_neg z1, pk_lDiv bn g1p g1b]
    by_cases v0 : v / gd v l = 0
    · have x1 : u / gd u n * (v / gd v l) ≤ qM := by rw [v0, Nat.mul_zero]; exact Nat.zero_le _
      have := d105 x1
      rw [if_pos ((lN_le0 (by omega)).mpr v0)]
      exact this
    · rw [if_neg (fun q => v0 ((lN_le0 (by omega)).mp q)), if_neg (fun q => v0 ((lN_eq0 (by omega)).mp q)), lM, pk_lDiv (by decide) (Nat.pos_of_ne_zero v0) (by omega)]
      have hd : 1000000000000000 / (v / gd v l) < 2 ^ 63 := Nat.lt_of_le_of_lt (Nat.div_le_self _ _) (by decide)
      have hiff : u / gd u n ≤ 1000000000000000 / (v / gd v l) ↔ u / gd u n * (v / gd v l) ≤ qM := by rw [Nat.le_div_iff_mul_le (Nat.pos_of_ne_zero v0), qM_eq]
      by_cases x1 : u / gd u n * (v / gd v l) ≤ qM
      · rw [if_neg (fun q => by have := (pk_lLT hd (by omega)).mp q; have := hiff.mpr x1; omega)]
        exact d105 x1
      · rw [if_pos ((pk_lLT hd (by omega)).mpr (by have : ¬ u / gd u n ≤ 1000000000000000 / (v / gd v l) := fun q => x1 (hiff.mp q); omega))]
        exact big (fun q => x1 q.1)
  unfold f_M_multiply
  rw [if_pos (oc_o H), zgcd bu bn, Option.bind_some, zgcd bv bl, Option.bind_some, ← ge1, ← ge2, if_neg z1]
  unfold f_M_multiply_30
  rw [if_neg z1, if_neg z2, pk_lDiv bu g1p g1b]
  unfold f_M_multiply_48
  rw [if_neg z2, if_neg z2, pk_lDiv bv g2p g2b]
  unfold f_M_multiply_65
  rw [if_neg z2, if_neg z1, pk_lDiv bl g2p g2b]
  exact body
theorem mcode_ok {q : Nat × Nat × Bool} : (0 : Int32) ≤ mcode (.ok q) := (by decide : (0 : Int32) ≤ 0)
theorem zb2_s {α β γ : Type} {a : α} {b : β} {f : α → β → Option γ} : zb2 (some (a, b)) f = f a b := rfl
/-- the order of two is at hand: the field ordered -/
theorem M_ord100 {h : Hp} {m a b c d : Nat} {F : Nat → Value} (H : h m = some (ocell 8 40 F)) (hb : 0 < b) (hd : 0 < d) (ha : a < 2 ^ 63) (hb2 : b < 2 ^ 63) (hc : c < 2 ^ 63) (hd2 : d < 2 ^ 63) : f_M_orderOf_100 m (lN a) (lN b) (lN c) (lN d) h = some (0, hup h m (ocell 8 40 (fset F 17 (.int (cmp3 (a * d) (c * b)))))) := by
  unfold f_M_orderOf_100
  rw [zmc hb hd ha hb2 hc hd2, Option.bind_some, oc_p H (by decide), Option.bind_some]
/-- what orderOf leaves: 14 to 16 may have changed -/
def MOrd (F F' : Nat → Value) (x : Except Int32 Int32) : Prop := (∀ k, k ≠ 14 → k ≠ 15 → k ≠ 16 → k ≠ 17 → F' k = F k) ∧ mTy F' ∧ (∃ z : Int32, F' 17 = .int z) ∧ ∀ z, x = .ok z → F' 17 = .int z
def ocode (x : Except Int32 Int32) : Int32 := match x with
  | .ok _ => 0
  | .error e => e
theorem mTy_set {F : Nat → Value} {v : Value} {k : Nat} (h : mTy F) (hk : k ≠ 14 ∧ k ≠ 15 ∧ k ≠ 16) : mTy (fset F k v) := by
  obtain ⟨U, L, t, h1, h2, h3⟩ := h
  exact ⟨U, L, t, by rw [fset_n hk.1.symm]; exact h1, by rw [fset_n hk.2.1.symm]; exact h2, by rw [fset_n hk.2.2.symm]; exact h3⟩
theorem sq_mk {u l : Nat} {t : Bool} (k : qok (.ok (u, l, t))) : qmk (u * u) (l * l) false = if u * u ≤ qM ∧ l * l ≤ qM then .ok (u * u, l * l, false) else .error eLARGE := by
  obtain ⟨bu, bl, lp, mu, ml, hcop⟩ := qok_b k
  refine qmk_red ?_ false
  have c : Nat.Coprime u l := hcop
  exact Nat.Coprime.mul_left (Nat.Coprime.mul_right c c) (Nat.Coprime.mul_right c c)
theorem M_orderOf {h : Hp} {m : Nat} {p q : Nat × Nat × Bool} {F : Nat → Value} (H : h m = some (ocell 8 40 F)) (hT : mTy F) (h17 : ∃ z : Int32, F 17 = .int z) (k1 : qok (.ok p)) (k2 : qok (.ok q)) : ∃ F', f_M_orderOf m (lN p.1) (lN p.2.1) (bI p.2.2) (lN q.1) (lN q.2.1) (bI q.2.2) h = some (ocode (qord p q), hup h m (ocell 8 40 F')) ∧ MOrd F F' (qord p q) := by
  obtain ⟨u, l, t⟩ := p
  obtain ⟨v, n, s⟩ := q
  obtain ⟨bu, bl, lp, mu, ml, hcop⟩ := qok_b k1
  obtain ⟨bv, bn, np, mv, mn, hcop2⟩ := qok_b k2
  have ub : ∀ {x : Nat}, x ≤ qM → x < 2 ^ 63 := fun h => Nat.lt_of_le_of_lt h (by decide)
  have k1f : qok (.ok (u, l, false)) := k1
  have k2f : qok (.ok (v, n, false)) := k2
  unfold f_M_orderOf
  dsimp only
  rw [if_pos (oc_o H)]
  have hdone : ∀ (F1 : Nat → Value) (a b c d : Nat), (∀ k, k ≠ 14 → k ≠ 15 → k ≠ 16 → k ≠ 17 → F1 k = F k) → mTy F1 → 0 < b → 0 < d → a < 2 ^ 63 → b < 2 ^ 63 → c < 2 ^ 63 → d < 2 ^ 63 → qord (u, l, t) (v, n, s) = .ok (cmp3 (a * d) (c * b)) → ∃ F', f_M_orderOf_100 m (lN a) (lN b) (lN c) (lN d) (hup h m (ocell 8 40 F1)) = some (ocode (qord (u, l, t) (v, n, s)), hup h m (ocell 8 40 F')) ∧ MOrd F F' (qord (u, l, t) (v, n, s)) := by
    intro F1 a b c d hF hT1 hb hd ha hb2 hc hd2 hq
    refine ⟨fset F1 17 (.int (cmp3 (a * d) (c * b))), ?_, ?_, mTy_set hT1 (by decide), ⟨_, fset_s⟩, ?_⟩
    · rw [M_ord100 hup_s hb hd ha hb2 hc hd2, hup_u, hq]
      rfl
    · intro k q1 q2 q3 q4
      rw [fset_n q4]
      exact hF k q1 q2 q3 q4
    · intro z hz
      rw [hq] at hz
      cases hz
      exact fset_s
  have hlarge : ∀ (F1 : Nat → Value), (∀ k, k ≠ 14 → k ≠ 15 → k ≠ 16 → F1 k = F k) → mTy F1 → qord (u, l, t) (v, n, s) = .error eLARGE → ∃ F', some ((-1005 : Int32), hup h m (ocell 8 40 F1)) = some (ocode (qord (u, l, t) (v, n, s)), hup h m (ocell 8 40 F')) ∧ MOrd F F' (qord (u, l, t) (v, n, s)) := by
    intro F1 hF hT1 hq
    refine ⟨F1, by rw [hq]; rfl, fun k q1 q2 q3 q4 => hF k q1 q2 q3, hT1, ?_, fun z hz => by rw [hq] at hz; cases hz⟩
    rw [hF 17 (by decide) (by decide) (by decide)]
    exact h17
  have hneg : ¬ ((0 : Int32) ≤ -1005) := by decide
  cases t with
  | false =>
    rw [if_pos bI_f]
    unfold f_M_orderOf_59
    cases s with
    | false =>
      rw [if_pos bI_f]
      have := hdone F u l v n (fun _ _ _ _ _ => rfl) hT lp np bu bl bv bn rfl
      rw [hup_id H] at this
      exact this
    | true =>
      rw [if_neg (by decide), if_pos bI_f]
      obtain ⟨F1, e1, r1⟩ := M_multiply (t := false) H hT k1f k1f
      have e1 : f_M_multiply m (lN u) (lN l) (lN u) (lN l) 0 h = some (mcode (qmk (u * u) (l * l) false), hup h m (ocell 8 40 F1)) := e1
      rw [e1, zb2_s]
      rw [sq_mk k1] at r1 ⊢
      have hq : qord (u, l, false) (v, n, true) = if u * u ≤ qM ∧ l * l ≤ qM then .ok (cmp3 (u * u * n) (v * (l * l))) else .error eLARGE := rfl
      by_cases x : u * u ≤ qM ∧ l * l ≤ qM
      · rw [if_pos x] at r1 ⊢
        rw [if_pos x] at hq
        rw [if_pos mcode_ok, oc_l hup_s (by decide) r1.ok.1, Option.bind_some, oc_l hup_s (by decide) r1.ok.2.1, Option.bind_some]
        exact hdone F1 (u * u) (l * l) v n (fun k q1 q2 q3 _ => r1.1 k q1 q2 q3) r1.ty (Nat.mul_pos lp lp) np (ub x.1) (ub x.2) bv bn hq
      · rw [if_neg x] at r1 ⊢
        rw [if_neg x] at hq
        rw [if_neg (show ¬ (0 : Int32) ≤ mcode _ from by decide)]
        exact hlarge F1 r1.1 r1.ty hq
  | true =>
    rw [if_neg (by decide)]
    cases s with
    | true =>
      rw [if_neg (by decide)]
      unfold f_M_orderOf_59
      rw [if_neg (by decide), if_neg (by decide)]
      have := hdone F u l v n (fun _ _ _ _ _ => rfl) hT lp np bu bl bv bn rfl
      rw [hup_id H] at this
      exact this
    | false =>
      rw [if_pos bI_f]
      obtain ⟨F1, e1, r1⟩ := M_multiply (t := false) H hT k2f k2f
      have e1 : f_M_multiply m (lN v) (lN n) (lN v) (lN n) 0 h = some (mcode (qmk (v * v) (n * n) false), hup h m (ocell 8 40 F1)) := e1
      rw [e1, zb2_s]
      rw [sq_mk k2] at r1 ⊢
      have hq : qord (u, l, true) (v, n, false) = if v * v ≤ qM ∧ n * n ≤ qM then .ok (cmp3 (u * (n * n)) (v * v * l)) else .error eLARGE := rfl
      by_cases x : v * v ≤ qM ∧ n * n ≤ qM
      · rw [if_pos x] at r1 ⊢
        rw [if_pos x] at hq
        rw [if_pos mcode_ok, oc_l hup_s (by decide) r1.ok.1, Option.bind_some, oc_l hup_s (by decide) r1.ok.2.1, Option.bind_some]
        unfold f_M_orderOf_59
        rw [if_pos bI_f]
        exact hdone F1 u l (v * v) (n * n) (fun k q1 q2 q3 _ => r1.1 k q1 q2 q3) r1.ty lp (Nat.mul_pos np np) bu bl (ub x.1) (ub x.2) hq
      · rw [if_neg x] at r1 ⊢
        rw [if_neg x] at hq
        rw [if_neg (show ¬ (0 : Int32) ≤ mcode _ from by decide)]
        exact hlarge F1 r1.1 r1.ty hq
