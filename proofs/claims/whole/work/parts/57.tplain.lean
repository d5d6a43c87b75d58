/-! ===== the teller: plain ===== -/
theorem qadd_step {s l x y : Nat} (hl : 0 < l) (hy : 0 < y) (b1 : l * y ≤ qM) (b2 : s * y ≤ qM) (b3 : x * l ≤ qM) : qadd (s / Nat.gcd s l) (l / Nat.gcd s l) x y 1 = qmk (s * y + x * l) (l * y) false := by
  have gp : 0 < Nat.gcd s l := Nat.gcd_pos_of_pos_right _ hl
  generalize hu : s / Nat.gcd s l = u
  generalize hv : l / Nat.gcd s l = v
  have es : s = u * Nat.gcd s l := by rw [← hu, Nat.div_mul_cancel (Nat.gcd_dvd_left s l)]
  have el : l = v * Nat.gcd s l := by rw [← hv, Nat.div_mul_cancel (Nat.gcd_dvd_right s l)]
  have vp : 0 < v := by rw [← hv]; exact red_pos hl
  have us : u ≤ s := by rw [← hu]; exact Nat.div_le_self _ _
  have vl : v ≤ l := by rw [← hv]; exact Nat.div_le_self _ _
  have cross0 : u * l = s * v := by
    generalize Nat.gcd s l = g at es el
    subst es el
    simp only [Nat.mul_assoc, Nat.mul_comm, Nat.mul_left_comm]
  unfold qadd
  rw [gd_of (Or.inl vp)]
  have g2 : 0 < Nat.gcd v y := Nat.gcd_pos_of_pos_left _ vp
  generalize hY : y / Nat.gcd v y = Y
  generalize hL : v / Nat.gcd v y = L
  have ey : y = Y * Nat.gcd v y := by rw [← hY, Nat.div_mul_cancel (Nat.gcd_dvd_right v y)]
  have ev : v = L * Nat.gcd v y := by rw [← hL, Nat.div_mul_cancel (Nat.gcd_dvd_left v y)]
  have Yy : Y ≤ y := by rw [← hY]; exact Nat.div_le_self _ _
  have Lv : L ≤ v := by rw [← hL]; exact Nat.div_le_self _ _
  have Yp : 0 < Y := by rw [← hY]; exact Nat.div_pos (Nat.gcd_le_right _ hy) g2
  have cross1 : L * y = v * Y := by
    generalize Nat.gcd v y = g at ey ev
    subst ey ev
    simp only [Nat.mul_assoc, Nat.mul_comm, Nat.mul_left_comm]
  rw [if_pos ⟨Nat.le_trans (Nat.mul_le_mul vl Yy) b1, Nat.le_trans (Nat.mul_le_mul us Yy) b2, Nat.le_trans (Nat.mul_le_mul_left x (Nat.le_trans Lv vl)) b3⟩, Nat.mul_one]
  refine qmk_eq (Nat.mul_pos vp Yp) (Nat.mul_pos hl hy) ?_ false
  rw [Nat.add_mul, Nat.add_mul]
  have e1 : u * Y * (l * y) = s * y * (v * Y) := by
    calc u * Y * (l * y) = (u * l) * (y * Y) := by simp only [Nat.mul_assoc, Nat.mul_comm, Nat.mul_left_comm]
      _ = (s * v) * (y * Y) := by rw [cross0]
      _ = s * y * (v * Y) := by simp only [Nat.mul_assoc, Nat.mul_comm, Nat.mul_left_comm]
  have e2 : x * L * (l * y) = x * l * (v * Y) := by
    calc x * L * (l * y) = (x * l) * (L * y) := by simp only [Nat.mul_assoc, Nat.mul_comm, Nat.mul_left_comm]
      _ = x * l * (v * Y) := by rw [cross1]
  rw [e1, e2]
theorem qmk_small {s l : Nat} (h1 : s ≤ qM) (h2 : l ≤ qM) (t : Bool) : qmk s l t = .ok (s / Nat.gcd s l, l / Nat.gcd s l, t) := by
  unfold qmk
  rw [if_pos ⟨Nat.le_trans (Nat.div_le_self _ _) h1, Nat.le_trans (Nat.div_le_self _ _) h2⟩]
/-- what is made of a sum of shares -/
def plend (r : Option (Nat × Nat × Nat)) : QR := match r with
  | none => .error eNOT
  | some r => if r.2.2 = 0 then .error eNOT else qmk r.1 (r.2.1 * r.2.2) false
theorem pw5 : (198 : Nat) ^ 5 = 304316815968 := by decide +kernel
theorem pw4 : (198 : Nat) ^ 4 = 1536953616 := by decide +kernel
section
variable {T B P w n : Nat} {p q W M : Nat → Nat}
theorem T_plain_loop {a b set out : Nat} (ha : a < 8) (hb : b < 8) (hs : set < 32) : ∀ (k f g s l m : Nat) (h : Hp), k + g = 5 → 0 < l → l ≤ 198 ^ g → s ≤ 198 * g * l → m ≤ g → TW h T B P w n p q W M → FR h out (qmk s l false) → f_T_tellPlain_13 T (f + k + 1) (nI a) (nI b) (nI set) out (nI m) (nI g) h = some (hup h out (frE (plend (plgo (fun g => p (a * 5 + g)) (fun g => p (b * 5 + g)) set k g s l m)))) := by
  intro k
  induction k with
  | zero =>
    intro f g s l m h hg hl hl2 hs2 hm H ho
    have g5 : g = 5 := by omega
    subst g5
    rw [pw5] at hl2
    have bs : s ≤ qM := by rw [qM_eq]; omega
    have bl : l ≤ qM := by rw [qM_eq]; omega
    rw [qmk_small bs bl] at ho
    have gp : 0 < Nat.gcd s l := Nat.gcd_pos_of_pos_right _ hl
    have rp := red_pos (u := s) hl
    have rs : s / Nat.gcd s l ≤ s := Nat.div_le_self _ _
    have rl : l / Nat.gcd s l ≤ l := Nat.div_le_self _ _
    obtain ⟨o0, o1, o2, o3, -⟩ := fo_g (fr_ok ho)
    show t_T_tellPlain_13 _ _ _ _ _ _ _ _ _ = _
    unfold t_T_tellPlain_13
    rw [if_pos (by decide), o3]
    simp only [Option.bind_some]
    rw [if_pos trivial, o0]
    simp only [Option.bind_some]
    rw [o1]
    simp only [Option.bind_some]
    unfold plgo plend
    dsimp only
    by_cases m0 : m = 0
    · subst m0
      rw [F_putN ho.x (Or.inr (by rw [show (nI 0).toInt64 = lN 0 from rfl, lN_mul, Nat.mul_zero]; decide)), if_pos rfl]
      rfl
    · rw [if_neg m0, nI_l (by omega), lN_mul]
      have lm : l / Nat.gcd s l * m ≤ l * 5 := Nat.mul_le_mul rl hm
      rw [F_put ho.x (Nat.mul_pos rp (by omega)) (by omega) (by omega)]
      simp only [Option.bind_some]
      rw [qmk_eq (u := s / Nat.gcd s l) (l := l / Nat.gcd s l * m) (v := s) (m := l * m) (Nat.mul_pos rp (by omega)) (Nat.mul_pos hl (by omega)) ?_ false]
      have es : s = s / Nat.gcd s l * Nat.gcd s l := (Nat.div_mul_cancel (Nat.gcd_dvd_left s l)).symm
      have el : l = l / Nat.gcd s l * Nat.gcd s l := (Nat.div_mul_cancel (Nat.gcd_dvd_right s l)).symm
      generalize s / Nat.gcd s l = u at *
      generalize l / Nat.gcd s l = v at *
      generalize Nat.gcd s l = g at *
      subst es el
      simp only [Nat.mul_assoc, Nat.mul_comm, Nat.mul_left_comm]
  | succ k ih =>
    intro f g s l m h hg hl hl2 hs2 hm H ho
    have hbk := H.bk
    have hx : p (a * 5 + g) ≤ 198 := hbk.2.2.2.1 _ (by omega)
    have hz : p (b * 5 + g) ≤ 198 := hbk.2.2.2.1 _ (by omega)
    show t_T_tellPlain_13 _ (f_T_tellPlain_13 T (f + k + 1)) _ _ _ _ _ _ _ = _
    unfold t_T_tellPlain_13
    rw [if_neg (by rw [i5]; exact nI_ge (by omega) (by decide)), sh_b set hs g (by omega)]
    have up : l ≤ 198 ^ (g + 1) := Nat.le_trans hl2 (Nat.pow_le_pow_right (by decide) (Nat.le_succ g))
    have sp : s ≤ 198 * (g + 1) * l := Nat.le_trans hs2 (Nat.mul_le_mul_right _ (Nat.mul_le_mul_left _ (Nat.le_succ g)))
    unfold plgo
    by_cases hbit : set.testBit g = true
    · rw [if_pos hbit, if_neg (by decide), if_pos hbit, H.g1]
      simp only [Option.bind_some]
      rw [B_priceOf hbk ha (by omega)]
      simp only [Option.bind_some]
      rw [B_priceOf hbk hb (by omega)]
      simp only [Option.bind_some]
      by_cases h1 : p (a * 5 + g) = 0
      · rw [if_pos ((nI_eq0 (by omega)).mpr h1), if_pos (Or.inl h1)]
        unfold f_T_tellPlain_65
        rw [show (-1003 : Int32) = eNOT from rfl, F_refuse ho.x]
        rfl
      · rw [if_neg (fun e => h1 ((nI_eq0 (by omega)).mp e))]
        by_cases h2 : p (b * 5 + g) = 0
        · rw [if_pos ((nI_eq0 (by omega)).mpr h2), if_pos (Or.inr h2)]
          unfold f_T_tellPlain_65
          rw [show (-1003 : Int32) = eNOT from rfl, F_refuse ho.x]
          rfl
        · rw [if_neg (fun e => h2 ((nI_eq0 (by omega)).mp e)), if_neg (fun e => e.elim h1 h2)]
          generalize hX : p (a * 5 + g) = X at *
          generalize hZ : p (b * 5 + g) = Z at *
          have l4 : l ≤ 1536953616 := by
            have : (198 : Nat) ^ g ≤ 198 ^ 4 := Nat.pow_le_pow_right (by decide) (by omega)
            rw [pw4] at this
            omega
          have s4 : s ≤ 198 * 4 * 1536953616 := Nat.le_trans hs2 (Nat.mul_le_mul (Nat.mul_le_mul_left _ (by omega)) l4)
          have lX : l * X ≤ 1536953616 * 198 := Nat.mul_le_mul l4 hx
          have sX : s * X ≤ 198 * 4 * 1536953616 * 198 := Nat.mul_le_mul s4 hx
          have Zl : Z * l ≤ 198 * 1536953616 := Nat.mul_le_mul hz l4
          have bs : s ≤ qM := by rw [qM_eq]; omega
          have bl : l ≤ qM := by rw [qM_eq]; omega
          have k0 : qok (qmk s l false) := qmk_ok hl _
          have ho2 := ho
          rw [qmk_small bs bl] at ho2 k0
          have add : f_F_addAndShare out (lN Z) (lN X) (1 : Int32) h = _ := F_addAndShare (parts := 1) ho2 k0 (by rw [qM_eq]; omega) (by omega) (by rw [qM_eq]; omega) (by decide) (by decide)
          rw [nI_l (by omega), nI_l (by omega), add, qadd_step hl (by omega) (by rw [qM_eq]; omega) (by rw [qM_eq]; omega) (by rw [qM_eq]; omega)]
          simp only [Option.bind_some]
          unfold f_T_tellPlain_89
          rw [nI_1, nI_1, ih f (g + 1) (s * X + Z * l) (l * X) (m + 1) _ (by omega) (Nat.mul_pos hl (by omega)) ?_ ?_ (by omega) (H.nx (NX.up ho.x)) hup_s, hup_u]
          · rw [Nat.pow_succ]
            exact Nat.mul_le_mul hl2 hx
          · have e1 : s * X ≤ 198 * g * l * X := Nat.mul_le_mul_right _ hs2
            have e2 : Z * l ≤ 198 * (l * X) := Nat.mul_le_mul hz (Nat.le_mul_of_pos_right l (by omega))
            have e3 : 198 * (g + 1) * (l * X) = 198 * g * l * X + 198 * (l * X) := by
              rw [Nat.mul_add, Nat.add_mul, Nat.mul_one, Nat.mul_assoc (198 * g) l X]
            omega
    · rw [if_neg hbit, if_pos (by decide), if_neg hbit]
      unfold f_T_tellPlain_89
      rw [nI_1]
      exact ih f (g + 1) s l m h (by omega) hl up sp (by omega) H ho
theorem T_plain {h : Hp} (H : TW h T B P w n p q W M) {a b set out : Nat} (ha : a < 8) (hb : b < 8) (hs : set < 32) (ho : FX h out) : f_T_tellPlain T (nI a) (nI b) (nI set) out h = some (hup h out (frE (plq (fun g => p (a * 5 + g)) (fun g => p (b * 5 + g)) set))) := by
  unfold f_T_tellPlain
  rw [if_pos H.o, show (0 : Int64) = lN 0 from rfl, show (1 : Int64) = lN 1 from rfl, F_put ho (by decide) (by decide) (by decide)]
  simp only [Option.bind_some]
  rw [show FU = FU - 6 + 5 + 1 from rfl, i0]
  rw [T_plain_loop ha hb hs 5 (FU - 6) 0 0 1 0 _ rfl (by decide) (by decide) (by decide) (by decide) (H.nx (NX.up ho)) hup_s, hup_u]
  rfl
end
