/-! ===== the class: beyond the ratios; a law broken, whole ===== -/
theorem btg_cong {fa fb fa' fb' : Nat → Nat} (ha : ∀ j, j < 5 → fa j = fa' j) (hb : ∀ j, j < 5 → fb j = fb' j) : ∀ (k g : Nat) (x : Option Nat × Option Nat), g + k ≤ 5 → BO fa fb g x → btg fa fb k g x = btg fa' fb' k g x := by
  intro k
  induction k with
  | zero => intro g x _ _; rfl
  | succ k ih =>
    intro g x hg B
    unfold btg
    rw [← ha g (by omega), ← hb g (by omega)]
    by_cases c : fa g = 0 ∨ fb g = 0
    · rw [if_pos c, if_pos c]
      exact ih (g + 1) x (by omega) B.up
    · rw [if_neg c, if_neg c]
      have e : (pkL fa fb g x.1, pkH fa fb g x.2) = (pkL fa' fb' g x.1, pkH fa' fb' g x.2) := by
        rcases B with rfl | ⟨l, h, rfl, y1, y2, -⟩
        · rfl
        · unfold pkL pkH
          dsimp only
          rw [ha l (by omega), ha h (by omega), hb l (by omega), hb h (by omega), ha g (by omega), hb g (by omega)]
      rw [← e]
      exact ih (g + 1) _ (by omega) (B.st c)
theorem betw_cong {v v' : Nat → Nat → QR} {p p' : Nat → Nat} {a z : Nat} (hv : v a z = v' a z) (hp : ∀ k, k < 40 → p k = p' k) (ha : a < 8) (hz : z < 8) : betwQ v p a z = betwQ v' p' a z := by
  unfold betwQ btw
  have e1 : ∀ j, j < 5 → p (a * 5 + j) = p' (a * 5 + j) := fun j hj => hp _ (by omega)
  have e2 : ∀ j, j < 5 → p (z * 5 + j) = p' (z * 5 + j) := fun j hj => hp _ (by omega)
  have B := btg_ok (fa := fun g => p (a * 5 + g)) (fb := fun g => p (z * 5 + g)) 5 0 (none, none) (Or.inl rfl)
  rw [hv, ← btg_cong e1 e2 5 0 (none, none) (by omega) (Or.inl rfl)]
  cases v' a z with
  | error e => rfl
  | ok x =>
    dsimp only
    rcases B with e | ⟨l, h, e, y1, y2, -⟩
    · rw [e]
    · rw [e]
      dsimp only
      rw [e1 l (by omega), e1 h (by omega), e2 l (by omega), e2 h (by omega)]
section
variable {h : Hp} {S P n : Nat} {p q W M : Nat → Nat} {w : Nat} {t : Int32} {c : Rc}
theorem L_cmp {pl : Value} {w : Int32} (H : LV h S p q pl w t c) (h99 : ∀ k, k < 40 → p k ≤ 99) {a z g l : Nat} (ha : a < 8) (hz : z < 8) (hg : g < 5) (hl : l < 5) : f_L_compareRatios (S + 45) h (nI a) (nI z) (nI g) (nI l) = some (cmp3 (p (z * 5 + g) * p (a * 5 + l)) (p (z * 5 + l) * p (a * 5 + g))) := by
  obtain ⟨a0, -⟩ := H.a
  unfold f_L_compareRatios
  rw [if_pos H.o, a0]
  simp only [Option.bind_some]
  rw [B_priceOf H.1 hz hg, B_priceOf H.1 ha hl, B_priceOf H.1 hz hl, B_priceOf H.1 ha hg]
  simp only [Option.bind_some]
  have x1 : p (z * 5 + g) * p (a * 5 + l) ≤ 99 * 99 := Nat.mul_le_mul (h99 _ (by omega)) (h99 _ (by omega))
  have x2 : p (z * 5 + l) * p (a * 5 + g) ≤ 99 * 99 := Nat.mul_le_mul (h99 _ (by omega)) (h99 _ (by omega))
  rw [pk_mul, pk_mul]
  generalize p (z * 5 + g) * p (a * 5 + l) = x at *
  generalize p (z * 5 + l) * p (a * 5 + g) = y at *
  unfold f_JI_compare cmp3
  by_cases c1 : y ≤ x
  · rw [if_pos (nI_le c1 (by omega)), if_neg (show ¬ x < y by omega)]
    by_cases c2 : x = y
    · rw [if_pos (by rw [c2]), if_pos c2]; rfl
    · rw [if_neg (fun e => c2 ((nI_eq (by omega) (by omega)).mp e)), if_neg c2]; rfl
  · rw [if_neg (nI_ge (by omega) (by omega)), if_pos (by omega)]; rfl
theorem oC_m1 {g : Nat} (h : g < 5) : ¬ nI g = (-1 : Int32) := nI_m1 (by omega)
theorem L_bey63 {pl : Value} {w : Int32} (H : LV h S p q pl w t c) (h99 : ∀ k, k < 40 → p k ≤ 99) {a z g : Nat} (ha : a < 8) (hz : z < 8) (hg : g < 5) (L : Int32) (Q : Option Nat) (hQ : ∀ q, Q = some q → q < 5) (k8 : Int32 → Int32 → Int32 → Int32 → Int32 → Hp → Option (Int32 × Hp)) : f_L_isBeyondRatios_63 (S + 45) k8 (nI a) (nI z) L (oC Q) (nI g) h = k8 (nI a) (nI z) L (oC (pkH (fun g => p (a * 5 + g)) (fun g => p (z * 5 + g)) g Q)) (nI (g + 1)) h := by
  unfold f_L_isBeyondRatios_63
  cases Q with
  | none =>
    rw [if_pos (show oC none = (-1 : Int32) from rfl)]
    unfold f_L_isBeyondRatios_82 f_L_isBeyondRatios_86
    rw [nI_1]
    rfl
  | some l =>
    have hl := hQ l rfl
    rw [show oC (some l) = nI l from rfl, if_neg (oC_m1 hl), L_cmp H h99 ha hz hg hl, Option.bind_some]
    unfold pkH
    dsimp only
    by_cases c : p (z * 5 + l) * p (a * 5 + g) < p (z * 5 + g) * p (a * 5 + l)
    · have e : cmp3 (p (z * 5 + g) * p (a * 5 + l)) (p (z * 5 + l) * p (a * 5 + g)) = 1 := by
        unfold cmp3
        rw [if_neg (by omega), if_neg (by omega)]
      rw [e, if_neg (by decide), if_pos c]
      unfold f_L_isBeyondRatios_82 f_L_isBeyondRatios_86
      rw [nI_1]
      rfl
    · have e : cmp3 (p (z * 5 + g) * p (a * 5 + l)) (p (z * 5 + l) * p (a * 5 + g)) ≤ 0 := by
        unfold cmp3
        by_cases d : p (z * 5 + g) * p (a * 5 + l) < p (z * 5 + l) * p (a * 5 + g)
        · rw [if_pos d]; decide
        · rw [if_neg d, if_pos (by omega)]; decide
      rw [if_pos e, if_neg c]
      unfold f_L_isBeyondRatios_86
      rw [nI_1]
      rfl
theorem L_bey_loop {pl : Value} {w : Int32} (H : LV h S p q pl w t c) (h99 : ∀ k, k < 40 → p k ≤ 99) {a z : Nat} (ha : a < 8) (hz : z < 8) : ∀ (k f g : Nat) (x : Option Nat × Option Nat), g + k = 5 → BO (fun g => p (a * 5 + g)) (fun g => p (z * 5 + g)) g x → f_L_isBeyondRatios_8 (S + 45) (f + k + 1) (nI a) (nI z) (oC x.1) (oC x.2) (nI g) h = f_L_isBeyondRatios_8 (S + 45) (f + 1) (nI a) (nI z) (oC (btg (fun g => p (a * 5 + g)) (fun g => p (z * 5 + g)) k g x).1) (oC (btg (fun g => p (a * 5 + g)) (fun g => p (z * 5 + g)) k g x).2) (nI 5) h := by
  intro k
  induction k with
  | zero =>
    intro f g x hg _
    have g5 : g = 5 := by omega
    subst g5
    rfl
  | succ k ih =>
    intro f g x hg B
    obtain ⟨a0, -⟩ := H.a
    have b1 := h99 (a * 5 + g) (by omega)
    have b2 := h99 (z * 5 + g) (by omega)
    show t_L_isBeyondRatios_8 _ (f_L_isBeyondRatios_8 (S + 45) (f + k + 1)) _ _ _ _ _ _ = _
    unfold t_L_isBeyondRatios_8
    rw [if_neg (by rw [i5]; exact nI_ge (by omega) (by decide)), a0]
    simp only [Option.bind_some]
    rw [B_priceOf H.1 ha (by omega), B_priceOf H.1 hz (by omega)]
    simp only [Option.bind_some]
    unfold btg
    by_cases c1 : p (a * 5 + g) = 0
    · rw [if_pos ((nI_eq0 (by omega)).mpr c1), if_pos (Or.inl c1)]
      unfold f_L_isBeyondRatios_86
      rw [nI_1]
      exact ih f (g + 1) x (by omega) B.up
    · rw [if_neg (fun e => c1 ((nI_eq0 (by omega)).mp e))]
      by_cases c2 : p (z * 5 + g) = 0
      · rw [if_pos ((nI_eq0 (by omega)).mpr c2), if_pos (Or.inr c2)]
        unfold f_L_isBeyondRatios_86
        rw [nI_1]
        exact ih f (g + 1) x (by omega) B.up
      · have c3 : ¬ (p (a * 5 + g) = 0 ∨ p (z * 5 + g) = 0) := by omega
        rw [if_neg (fun e => c2 ((nI_eq0 (by omega)).mp e)), if_neg c3]
        rw [← ih f (g + 1) _ (by omega) (B.st c3)]
        have hQ : ∀ q, x.2 = some q → q < 5 := by
          rcases B with rfl | ⟨l, h, rfl, y1, y2, y3⟩
          · intro q e; cases e
          · intro q e
            have : h = q := by injection e
            omega
        obtain ⟨L, Q⟩ := x
        dsimp only at hQ ⊢
        cases L with
        | none =>
          rw [if_pos (show oC none = (-1 : Int32) from rfl)]
          unfold f_L_isBeyondRatios_60
          exact L_bey63 H h99 ha hz (by omega) _ Q hQ _
        | some l =>
          have hl : l < 5 := by
            rcases B with e | ⟨l, h, e, y1, y2, y3⟩
            · cases e
            · cases e; omega
          rw [show oC (some l) = nI l from rfl, if_neg (oC_m1 hl), L_cmp H h99 ha hz (by omega) hl, Option.bind_some]
          unfold pkL
          dsimp only
          by_cases c : p (z * 5 + g) * p (a * 5 + l) < p (z * 5 + l) * p (a * 5 + g)
          · have e : cmp3 (p (z * 5 + g) * p (a * 5 + l)) (p (z * 5 + l) * p (a * 5 + g)) = -1 := by
              unfold cmp3
              rw [if_pos c]
            rw [e, if_neg (by decide), if_pos c]
            unfold f_L_isBeyondRatios_60
            exact L_bey63 H h99 ha hz (by omega) _ Q hQ _
          · have e : 0 ≤ cmp3 (p (z * 5 + g) * p (a * 5 + l)) (p (z * 5 + l) * p (a * 5 + g)) := by
              unfold cmp3
              rw [if_neg c]
              split <;> decide
            rw [if_pos e, if_neg c]
            exact L_bey63 H h99 ha hz (by omega) _ Q hQ _
theorem L_beyond {pl : Value} {w : Int32} (H : LV h S p q pl w t c) (h99 : ∀ k, k < 40 → p k ≤ 99) {v : Nat → Nat → QR} (kv : ∀ a b, qok (v a b)) (R : rcA c v 64) {a z : Nat} (ha : a < 8) (hz : z < 8) : ∃ h', f_L_isBeyondRatios (S + 45) (nI a) (nI z) h = some (bI (lb (betwQ v p a z)), h') ∧ LV h' S p q pl w t c ∧ LF h h' S := by
  unfold f_L_isBeyondRatios
  rw [if_pos H.o]
  rw [show f_L_isBeyondRatios_8 (S + 45) FU (nI a) (nI z) (-1 : Int32) (-1 : Int32) (0 : Int32) h = _ from L_bey_loop H h99 ha hz 5 (FU - 6) 0 (none, none) rfl (Or.inl rfl)]
  have B := btg_ok (fa := fun g => p (a * 5 + g)) (fb := fun g => p (z * 5 + g)) 5 0 (none, none) (Or.inl rfl)
  show ∃ h', t_L_isBeyondRatios_8 _ _ _ _ _ _ _ _ = _ ∧ _
  obtain ⟨a0, a1, a2, a3, a4, a5, a6, a7, a8, a9, a11, a12⟩ := H.a
  have rr : rcl c (a * 8 + z) (v a z) := by
    have := R (a * 8 + z) (by omega)
    rw [show (a * 8 + z) / 8 = a by omega, show (a * 8 + z) % 8 = z by omega] at this
    exact this
  have k1 := kv a z
  unfold t_L_isBeyondRatios_8 betwQ btw
  rw [if_pos (by decide), a8]
  simp only [Option.bind_some]
  rw [L_recall H ha hz k1 rr (Or.inl rfl)]
  simp only [Option.bind_some]
  obtain ⟨H1, L1⟩ := H.fr (Or.inl rfl) (r := v a z)
  obtain ⟨b0, b1, b2, b3, b4, b5, b6, b7, b8, b9, b11, b12⟩ := H1.a
  have X1 : FR (hup h (S + 51) (frE (v a z))) (S + 51) (v a z) := hup_s
  generalize hup h (S + 51) (frE (v a z)) = h1 at *
  rcases B with e | ⟨lo, hi, e, y1, y2, y3, y4, y5, y6⟩
  · rw [e]
    dsimp only
    rw [if_pos (show oC none = (-1 : Int32) from rfl)]
    refine ⟨h1, ?_, H1, L1⟩
    cases v a z <;> rfl
  · rw [e]
    dsimp only at y3 y4 y5 y6 ⊢
    have d1 := h99 (a * 5 + lo) (by omega)
    have d2 := h99 (z * 5 + lo) (by omega)
    have d3 := h99 (a * 5 + hi) (by omega)
    have d4 := h99 (z * 5 + hi) (by omega)
    rw [show oC (some lo) = nI lo from rfl, show oC (some hi) = nI hi from rfl, if_neg (oC_m1 (show lo < 5 by omega)), b8]
    simp only [Option.bind_some]
    cases hv : v a z with
    | error e2 =>
      rw [hv] at X1 k1
      obtain ⟨-, -, -, z2, -⟩ := fo_g (fr_err X1)
      rw [z2, Option.bind_some, if_neg (err_ne k1)]
      exact ⟨h1, rfl, H1, L1⟩
    | ok x =>
      rw [hv] at X1 k1
      obtain ⟨-, -, -, z2, -⟩ := fo_g (fr_ok X1)
      rw [z2, Option.bind_some, if_pos rfl, b9, b0]
      simp only [Option.bind_some]
      rw [B_priceOf H1.1 hz (by omega), B_priceOf H1.1 ha (by omega)]
      simp only [Option.bind_some]
      rw [nI_l (by omega), nI_l (by omega), F_put H1.2.2.2.2.2.2.2.2 y3 (by omega) (by omega), rat_mk (by omega) (by omega)]
      simp only [Option.bind_some]
      obtain ⟨H2, L2⟩ := H1.fr (Or.inr rfl) (r := .ok (rat (p (z * 5 + lo)) (p (a * 5 + lo))))
      have X2 : FR (hup h1 (S + 52) (frE (.ok (rat (p (z * 5 + lo)) (p (a * 5 + lo)))))) (S + 51) (.ok x) := (hup_n (by omega)).trans X1
      have Y2 : FR (hup h1 (S + 52) (frE (.ok (rat (p (z * 5 + lo)) (p (a * 5 + lo)))))) (S + 52) (.ok (rat (p (z * 5 + lo)) (p (a * 5 + lo)))) := hup_s
      obtain ⟨c0, c1, c2, c3, c4, c5, c6, c7, c8, c9, c11, c12⟩ := H2.a
      generalize hup h1 (S + 52) (frE (.ok (rat (p (z * 5 + lo)) (p (a * 5 + lo))))) = h2 at *
      obtain ⟨i, j, o1⟩ := qord_rat (x := x) (v := p (z * 5 + lo)) (n := p (a * 5 + lo)) (by omega) (by omega) (btl x)
      obtain ⟨i2, j2, o2⟩ := qord_rat (x := x) (v := p (z * 5 + hi)) (n := p (a * 5 + hi)) (by omega) (by omega) (btl x)
      rw [c8, c9]
      simp only [Option.bind_some]
      rw [F_orderOf X2 Y2 k1 (rat_ok y3 (by omega) (by omega)), o1]
      simp only [Option.bind_some]
      unfold btq
      rw [o1, o2]
      dsimp only
      rw [show oI (.ok (cmp3 i j)) = cmp3 i j from rfl]
      by_cases e1 : cmp3 i j = -1
      · rw [if_pos e1, e1, decide_eq_false (show ¬ (¬ (-1 : Int32) < 0 ∧ ¬ 0 < cmp3 i2 j2) from fun x => x.1 (by decide))]
        exact ⟨h2, rfl, H2, L1.trans L2⟩
      · rw [if_neg e1, c0]
        simp only [Option.bind_some]
        rw [B_priceOf H2.1 hz (by omega), B_priceOf H2.1 ha (by omega)]
        simp only [Option.bind_some]
        rw [nI_l (by omega), nI_l (by omega), F_put H2.2.2.2.2.2.2.2.2 y5 (by omega) (by omega), rat_mk (by omega) (by omega)]
        simp only [Option.bind_some]
        obtain ⟨H3, L3⟩ := H2.fr (Or.inr rfl) (r := .ok (rat (p (z * 5 + hi)) (p (a * 5 + hi))))
        have X3 : FR (hup h2 (S + 52) (frE (.ok (rat (p (z * 5 + hi)) (p (a * 5 + hi)))))) (S + 51) (.ok x) := (hup_n (by omega)).trans X2
        have Y3 : FR (hup h2 (S + 52) (frE (.ok (rat (p (z * 5 + hi)) (p (a * 5 + hi)))))) (S + 52) (.ok (rat (p (z * 5 + hi)) (p (a * 5 + hi)))) := hup_s
        obtain ⟨f0, f1, f2, f3, f4, f5, f6, f7, f8, f9, f11, f12⟩ := H3.a
        generalize hup h2 (S + 52) (frE (.ok (rat (p (z * 5 + hi)) (p (a * 5 + hi))))) = h3 at *
        rw [f8, f9]
        simp only [Option.bind_some]
        rw [F_orderOf X3 Y3 k1 (rat_ok y5 (by omega) (by omega)), o2]
        simp only [Option.bind_some]
        rw [show oI (.ok (cmp3 i2 j2)) = cmp3 i2 j2 from rfl]
        have n1 : ¬ cmp3 i j < 0 := by
          rcases cmp3_cs i j with c | c | c
          · exact absurd c e1
          · rw [c]; decide
          · rw [c]; decide
        by_cases e2 : cmp3 i2 j2 = 1
        · rw [if_pos e2, e2, decide_eq_false (show ¬ (¬ cmp3 i j < 0 ∧ ¬ (0 : Int32) < 1) from fun x => x.2 (by decide))]
          exact ⟨h3, rfl, H3, (L1.trans L2).trans L3⟩
        · have n2 : ¬ 0 < cmp3 i2 j2 := by
            rcases cmp3_cs i2 j2 with c | c | c
            · rw [c]; decide
            · rw [c]; decide
            · exact absurd c e2
          rw [if_neg e2, decide_eq_true (⟨n1, n2⟩ : ¬ cmp3 i j < 0 ∧ ¬ 0 < cmp3 i2 j2)]
          exact ⟨h3, rfl, H3, (L1.trans L2).trans L3⟩
/-- a law broken -/
theorem L_isBroken {pr br : Nat → Nat} (H : LV h S p q (.ref P) (nI w) t c) (hP : PL h P n W M) (dP : S + 7 ≤ P ∧ P + 3 ≤ S + 34) (hw : w < 4) (hgd : good W M 8 0 n) (R : rcA c (evw W M p (amq q w)) 64) (B : RB p q pr br) {law a z g : Nat} (hl : law < 7) (ha : a < 8) (hz : z < 8) (hg : g < lmost law) : ∃ h', f_L_isBroken (S + 45) (nI law) (nI a) (nI z) (if lmost law = 1 then -1 else nI g) h = some (bI (badQ W M pr br w law a z g), h') ∧ LV h' S p q (.ref P) (nI w) t c ∧ LF h h' S := by
  obtain ⟨a0, -⟩ := H.a
  have nl : ∀ k : Nat, k < 7 → law ≠ k → ¬ nI law = nI k := fun k hk hne e => hne ((nI_eq (by omega) (by omega)).mp e)
  unfold f_L_isBroken
  rw [if_pos H.o]
  by_cases c6 : law = 6
  · subst c6
    rw [if_pos (show nI 6 = (6 : Int32) from rfl)]
    obtain ⟨h', E, H', L'⟩ := L_beyond H B.h99 (fun a b => evw_ok W M p (amq q w) a b) R ha hz
    rw [E, zb2_s, show zB (bI (lb (betwQ (evw W M p (amq q w)) p a z))) = some (bI (lb (betwQ (evw W M p (amq q w)) p a z))) by cases lb (betwQ (evw W M p (amq q w)) p a z) <;> rfl, Option.bind_some]
    refine ⟨h', ?_, H', L'⟩
    rw [badQ_lb, betw_cong (v' := evw W M pr (bam br w)) (B.ev hgd hw ha hz) B.1 ha hz]
    rfl
  · rw [if_neg (show ¬ nI law = (6 : Int32) from nl 6 (by decide) c6)]
    have main : (law = 5 → p (z * 5 + g) ≠ 0) → ∃ h', f_L_isBroken_33 (S + 45) (nI law) (nI a) (nI z) (if lmost law = 1 then -1 else nI g) h = some (bI (badQ W M pr br w law a z g), h') ∧ LV h' S p q (.ref P) (nI w) t c ∧ LF h h' S := by
      intro h5
      have g2 : law = 2 → g < 8 := fun e => by subst e; exact hg
      have g45 : law = 4 ∨ law = 5 → g < 5 := by rintro (rfl | rfl) <;> exact hg
      obtain ⟨h', q', Q, E, H', L'⟩ := L_33 (gI' := if lmost law = 1 then -1 else nI g) H hP dP hw hgd R (show law < 6 by omega) ha hz g2 g45 (by rintro (rfl | rfl | rfl) <;> exact if_neg (by decide)) B.h99 (B.h27 hw)
      refine ⟨h', ?_, H', L'⟩
      rw [E, bad_eq B hgd hw ha hz (by omega) g2 g45 Q h5]
    by_cases c5 : law = 5
    · subst c5
      have g5 : g < 5 := hg
      have b1 := B.h99 (z * 5 + g) (by omega)
      rw [if_pos (show nI 5 = (5 : Int32) from rfl), a0, Option.bind_some, Option.bind_some, if_neg (show ¬ lmost 5 = 1 by decide), B_priceOf H.1 hz g5, Option.bind_some]
      by_cases p0 : p (z * 5 + g) = 0
      · rw [if_pos ((nI_eq0 (by omega)).mpr p0)]
        refine ⟨h, ?_, H, LF.refl⟩
        rw [badQ_lb]
        have : lawQ W M pr br w 5 a z g = .error eNOT := by
          show upQ W M pr (bam br w) a z g = _
          unfold upQ
          rw [if_pos (by rw [← B.1 _ (by omega)]; exact p0)]
        rw [this]
        rfl
      · rw [if_neg (fun e => p0 ((nI_eq0 (by omega)).mp e))]
        have := main (fun _ => p0)
        rw [if_neg (show ¬ lmost 5 = 1 by decide)] at this
        exact this
    · rw [if_neg (show ¬ nI law = (5 : Int32) from nl 5 (by decide) c5)]
      exact main (fun e => absurd e c5)
end
