/-! ===== the teller: links, every E ===== -/
def yr (up : Bool) (a j : Nat) : Nat := if up then a + j else a - j
def wy (up : Bool) : Int32 := if up then 1 else -1
theorem far_i : ∀ a, a < 8 → ∀ b, b < 8 → (if (0 : Int32) ≤ nI b - nI a then nI b - nI a else 0 - (nI b - nI a)) = nI (far a b) := by decide +kernel
theorem yr_up : ∀ a, a < 8 → ∀ j, j < 8 → nI a + nI j * wy true = nI (yr true a j) := by decide +kernel
theorem yr_dn : ∀ a, a < 8 → ∀ j, j < 8 → j ≤ a → nI a + nI j * wy false = nI (yr false a j) := by decide +kernel
theorem nx_up : ∀ a, a < 8 → nI a + wy true = nI (nx true a) := by decide +kernel
theorem nx_dn : ∀ a, a < 8 → 0 < a → nI a + wy false = nI (nx false a) := by decide +kernel
theorem yr_nx (up : Bool) (a j : Nat) : yr up a (j + 1) = nx up (yr up a j) := by cases up <;> simp [yr, nx] <;> omega
theorem yr_0 (up : Bool) (a : Nat) : yr up a 0 = a := by cases up <;> simp [yr]
theorem mk11 : qmk 1 1 false = .ok (1, 1, false) := by decide +kernel
section
variable {rec : Nat → Int32 → Int32 → Int32 → Int32 → Int32 → Nat → Hp → Option Hp} {T B P w n : Nat} {p q W M : Nat → Nat}
theorem T_117 {k52 : Int32 → Int32 → Int32 → Int32 → Nat → Option Nat → Int32 → Int32 → Int32 → Hp → Option Hp} {x1 x2 x4 x5 x8 x9 : Int32} {out s j : Nat} {h : Hp} {r : QR} (H : FR h out r) (k : qok r) : f_T_tellLink_117 rec T k52 x1 x2 x4 x5 out (some s) x8 x9 (nI j) h = if mcode r = 0 then k52 x1 x2 x4 x5 out (some s) x8 x9 (nI (j + 1)) h else some h := by
  unfold f_T_tellLink_117
  show ((gI h out 1 3).bind _) = _
  rw [H.f3, Option.bind_some, nI_1]
/-- a and the way lead through years that are there -/
def way (up : Bool) (a L : Nat) : Prop := if up then a + L < 8 else L ≤ a ∧ a < 8
theorem way_yr {up : Bool} {a L j : Nat} (H : way up a L) (hj : j ≤ L) : yr up a j < 8 := by
  cases up <;> simp [way, yr] at * <;> omega
theorem way_e {up : Bool} {a L j : Nat} (H : way up a L) (hj : j < L) : nI a + nI j * wy up = nI (yr up a j) ∧ nI a + nI j * wy up + wy up = nI (yr up a (j + 1)) := by
  cases up with
  | true =>
    have H : a + L < 8 := H
    rw [yr_up a (by omega) j (by omega), yr_nx, nx_up _ (show yr true a j < 8 by simp [yr]; omega)]
    exact ⟨rfl, rfl⟩
  | false =>
    have H : L ≤ a ∧ a < 8 := H
    rw [yr_dn a (by omega) j (by omega) (by omega), yr_nx, nx_dn _ (show yr false a j < 8 by simp [yr]; omega) (by simp [yr]; omega)]
    exact ⟨rfl, rfl⟩
theorem T_link_loop {R : Nat → Nat → Nat → QR} {i d : Nat} (hd : d < 9) (h1 : RecOK rec T B P w n p q W M R i (d + 1)) (k1 : ∀ a b s, qok (R a b s)) {a set out L : Nat} {up : Bool} (hw : way up a L) (hL : L < 8) (hs : set < 32) (hno : ¬ (T + 2 + d ≤ out ∧ out < T + 11)) : ∀ (k f j : Nat) (acc : Nat × Nat × Bool) (h : Hp), j + k = L → 0 < j → FR h out (.ok acc) → qok (.ok acc) → TW h T B P w n p q W M → SP h T d → ∃ h', f_T_tellLink_52 rec T (f + k + 1) (nI i) (nI a) (nI set) (nI d) out (some (T + 2 + d)) (wy up) (nI L) (nI j) h = some h' ∧ FR h' out (lnk (fun y z => R y z set) up k (yr up a j) (.ok acc)) ∧ TF h h' T d out := by
  intro k
  induction k with
  | zero =>
    intro f j acc h hj _ ho _ _ _
    refine ⟨h, ?_, ho, TF.refl⟩
    show t_T_tellLink_52 _ _ _ _ _ _ _ _ _ _ _ _ _ = _
    unfold t_T_tellLink_52
    show (if nI L ≤ nI j then some h else _) = _
    rw [if_pos (nI_le (by omega) (by omega))]
  | succ k ih =>
    intro f j acc h hj hj0 ho ka H sp
    have hne : out ≠ T + 2 + d := fun e => hno ⟨by omega, by omega⟩
    have fxs := sp (T + 2 + d) (by omega) (by omega)
    obtain ⟨e1, e2⟩ := way_e hw (show j < L by omega)
    obtain ⟨g1, E1, O1, F1⟩ := h1 (yr up a j) (yr up a (j + 1)) set (T + 2 + d) h (way_yr hw (by omega)) (way_yr hw (by omega)) hs H fxs sp.weak (fun e => by omega)
    have H1 := H.nx (F1.nx fxs sp.weak)
    have sp1 : SP g1 T d := F1.sp sp
    have ho1 : FR g1 out (.ok acc) := ho.to (F1.1 out hne (fun e => hno ⟨by omega, e.2⟩))
    have km := k1 (yr up a j) (yr up a (j + 1)) set
    have mul := F_multiply ho1 O1 ka km
    have kq := qmul_ok ka km
    have TF2 : TF h (hup g1 out (frE (qmul (.ok acc) (R (yr up a j) (yr up a (j + 1)) set)))) T d out := (F1.spare hd).trans TF.up
    have E : f_T_tellLink_52 rec T (f + (k + 1) + 1) (nI i) (nI a) (nI set) (nI d) out (some (T + 2 + d)) (wy up) (nI L) (nI j) h = if mcode (qmul (.ok acc) (R (yr up a j) (yr up a (j + 1)) set)) = 0 then f_T_tellLink_52 rec T (f + k + 1) (nI i) (nI a) (nI set) (nI d) out (some (T + 2 + d)) (wy up) (nI L) (nI (j + 1)) (hup g1 out (frE (qmul (.ok acc) (R (yr up a j) (yr up a (j + 1)) set)))) else some (hup g1 out (frE (qmul (.ok acc) (R (yr up a j) (yr up a (j + 1)) set)))) := by
      show t_T_tellLink_52 _ _ (f_T_tellLink_52 rec T (f + k + 1)) _ _ _ _ _ _ _ _ _ _ = _
      unfold t_T_tellLink_52
      show (if nI L ≤ nI j then some h else _) = _
      rw [if_neg (nI_ge (by omega) (by omega)), if_neg (by rw [i8]; exact nI_ge (by omega) (by decide)), if_neg (nI_ne0 hj0 (by omega)), e1, nI_1]
      rw [e1] at e2
      rw [e2]
      unfold f_T_tellLink_102
      show ((rec T (nI i) (nI (yr up a j)) (nI (yr up a (j + 1))) (nI set) (nI (d + 1)) (T + 2 + d) h).bind _) = _
      rw [E1, Option.bind_some, if_neg (nI_nle hj0 (by omega)), mul, Option.bind_some]
      exact T_117 hup_s kq
    rw [E]
    unfold lnk
    rw [← yr_nx]
    cases hq : qmul (.ok acc) (R (yr up a j) (yr up a (j + 1)) set) with
    | error e =>
      rw [hq] at TF2 kq
      rw [lnk_err, if_neg (mcode_ne kq)]
      exact ⟨_, rfl, hup_s, TF2⟩
    | ok r =>
      rw [hq] at TF2 kq
      rw [if_pos (show mcode (.ok r) = 0 from rfl)]
      obtain ⟨h', G1, G2, G3⟩ := ih f (j + 1) r (hup g1 out (frE (.ok r))) (by omega) (by omega) hup_s kq (H1.nx (NX.up ho1.x)) (fun c x y => (sp1 c x y).up)
      exact ⟨h', G1, G2, TF2.trans G3⟩
theorem T_link {R : Nat → Nat → Nat → QR} {i d : Nat} (hd : d < 9) (h1 : RecOK rec T B P w n p q W M R i (d + 1)) (k1 : ∀ a b s, qok (R a b s)) (a b set out : Nat) (h : Hp) (ha : a < 8) (hb : b < 8) (hs : set < 32) (H : TW h T B P w n p q W M) (ho : FX h out) (sp : SP h T d) (hno : ¬ (T + 2 + d ≤ out ∧ out < T + 11)) : ∃ h', f_T_tellLink rec T (nI i) (nI a) (nI b) (nI set) (nI d) out h = some h' ∧ FR h' out (lnq (fun y z => R y z set) a b) ∧ TF h h' T d out := by
  have E : f_T_tellLink rec T (nI i) (nI a) (nI b) (nI set) (nI d) out h = f_T_tellLink_52 rec T FU (nI i) (nI a) (nI set) (nI d) out (some (T + 2 + d)) (wy (decide (a < b))) (nI (far a b)) (nI 0) (hup h out (frE (.ok (1, 1, false)))) := by
    unfold f_T_tellLink
    rw [if_pos H.o, T_spareAt H hd]
    simp only [Option.bind_some]
    show ((f_F_put out (1 : Int64) 1 h).bind _) = _
    rw [show (1 : Int64) = lN 1 from rfl, F_put ho (by decide) (by decide) (by decide), Option.bind_some, mk11]
    by_cases hab : a < b
    · rw [if_neg (nI_ge hab (by omega))]
      unfold f_T_tellLink_39
      show f_T_tellLink_52 _ _ _ _ _ _ _ _ _ _ _ _ _ = _
      rw [far_i a ha b hb, show decide (a < b) = true from decide_eq_true hab]
      rfl
    · rw [if_pos (nI_le (by omega) (by omega))]
      unfold f_T_tellLink_39
      show f_T_tellLink_52 _ _ _ _ _ _ _ _ _ _ _ _ _ = _
      rw [far_i a ha b hb, show decide (a < b) = false from decide_eq_false hab]
      rfl
  rw [E]
  have H0 := H.nx (NX.up (e := frE (.ok (1, 1, false))) ho)
  have sp0 : SP (hup h out (frE (.ok (1, 1, false)))) T d := fun c x y => (sp c x y).up
  have TF0 : TF h (hup h out (frE (.ok (1, 1, false)))) T d out := TF.up
  unfold lnq
  by_cases hab : a = b
  · subst hab
    rw [if_pos rfl, show far a a = 0 by unfold far; omega]
    refine ⟨_, ?_, hup_s, TF0⟩
    show t_T_tellLink_52 _ _ _ _ _ _ _ _ _ _ _ _ _ = _
    unfold t_T_tellLink_52
    dsimp only [zm]
    rw [if_pos (by decide)]
  · rw [if_neg hab]
    have hw : way (decide (a < b)) a (far a b) := by
      unfold far
      by_cases c : a < b
      · rw [decide_eq_true c]; show a + _ < 8; omega
      · rw [decide_eq_false c]; show _ ≤ a ∧ _; omega
    have hL : far a b < 8 := by unfold far; omega
    have hL0 : 0 < far a b := by unfold far; omega
    generalize decide (a < b) = up at *
    generalize far a b = L at *
    obtain ⟨e1, e2⟩ := way_e hw (show 0 < L from hL0)
    obtain ⟨g1, E1, O1, F1⟩ := h1 (yr up a 0) (yr up a (0 + 1)) set out (hup h out (frE (.ok (1, 1, false)))) (way_yr hw (by omega)) (way_yr hw (by omega)) hs H0 ho.up sp0.weak (fun e => hno ⟨by omega, e.2⟩)
    have H1 := H0.nx (F1.nx ho.up sp0.weak)
    have sp1 : SP g1 T d := F1.sp sp0
    have km := k1 (yr up a 0) (yr up a (0 + 1)) set
    have TF1 : TF h g1 T d out := TF0.trans F1.weak
    have E2 : f_T_tellLink_52 rec T FU (nI i) (nI a) (nI set) (nI d) out (some (T + 2 + d)) (wy up) (nI L) (nI 0) (hup h out (frE (.ok (1, 1, false)))) = if mcode (R (yr up a 0) (yr up a (0 + 1)) set) = 0 then f_T_tellLink_52 rec T (FU - 1 - (L - 1) - 1 + (L - 1) + 1) (nI i) (nI a) (nI set) (nI d) out (some (T + 2 + d)) (wy up) (nI L) (nI (0 + 1)) g1 else some g1 := by
      rw [show FU - 1 - (L - 1) - 1 + (L - 1) + 1 = FU - 1 by unfold FU; omega]
      show t_T_tellLink_52 _ _ (f_T_tellLink_52 rec T (FU - 1)) _ _ _ _ _ _ _ _ _ _ = _
      unfold t_T_tellLink_52
      show (if nI L ≤ nI 0 then some _ else _) = _
      rw [if_neg (nI_ge hL0 (by omega)), if_neg (by decide), if_pos (by decide), e1, nI_1]
      rw [e1] at e2
      rw [e2]
      unfold f_T_tellLink_102
      show ((rec T (nI i) (nI (yr up a 0)) (nI (yr up a (0 + 1))) (nI set) (nI (d + 1)) out (hup h out (frE (.ok (1, 1, false))))).bind _) = _
      rw [E1, Option.bind_some, if_pos (by decide)]
      exact T_117 O1 km
    rw [E2]
    rw [yr_0, show yr up a (0 + 1) = nx up a by rw [yr_nx, yr_0]] at O1 km ⊢
    show ∃ h', _ ∧ FR h' out (lnk (fun y z => R y z set) up (L - 1) (nx up a) (R a (nx up a) set)) ∧ _
    cases hq : R a (nx up a) set with
    | error e =>
      rw [hq] at O1 km
      rw [lnk_err, if_neg (mcode_ne km)]
      exact ⟨g1, rfl, O1, TF1⟩
    | ok r =>
      rw [hq] at O1 km
      rw [if_pos (show mcode (.ok r) = 0 from rfl)]
      obtain ⟨h', G1, G2, G3⟩ := T_link_loop (up := up) (L := L) hd h1 k1 hw hL hs hno (L - 1) (FU - 1 - (L - 1) - 1) (0 + 1) r g1 (by omega) (by omega) O1 km H1 sp1
      rw [show yr up a (0 + 1) = nx up a by rw [yr_nx, yr_0]] at G2
      exact ⟨h', G1, G2, TF1.trans G3⟩
end
