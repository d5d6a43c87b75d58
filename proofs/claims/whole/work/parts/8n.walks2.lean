/-! ===== likes: the walks, size by size ===== -/
def WI (c : Nat → Nat → Nat) (CF SF : Nat → Int32) (B : Nat → Nat → Nat → Nat) : Prop := (∀ y z, y < 8 → z < 8 → CF (10 * y + z) = bI (decide (y = z)) ∧ SF (10 * y + z) = bI false) ∧ ∀ k y z, k < 8 → y < 8 → z < 8 → CF (100 * (k + 1) + 10 * y + z) = bI (stW c (fun x => wk c k x z) y (B k y z)) ∧ SF (100 * (k + 1) + 10 * y + z) = bI (stS c (fun x => wk c k x z) (fun x => ws c k x z) y (B k y z))
theorem WI.cong {c : Nat → Nat → Nat} {CF SF : Nat → Int32} {B B' : Nat → Nat → Nat → Nat} (H : WI c CF SF B) (e : ∀ k y z, k < 8 → y < 8 → z < 8 → B k y z = B' k y z) : WI c CF SF B' := ⟨H.1, fun k y z a b d => by rw [← e k y z a b d]; exact H.2 k y z a b d⟩
/-- size s + 1, year y, over the first X years; the first Z ends one farther -/
def Bq (s y X Z k y' z' : Nat) : Nat := if k < s ∨ (k = s ∧ y' < y) then 8 else if k = s ∧ y' = y then (if z' < Z then X + 1 else X) else 0
theorem WI.full {c : Nat → Nat → Nat} {CF SF : Nat → Int32} {s y X Z : Nat} (H : WI c CF SF (Bq s y X Z)) (hs : s ≤ 8) {x z : Nat} (hx : x < 8) (hz : z < 8) : CF (100 * s + 10 * x + z) = bI (wk c s x z) ∧ SF (100 * s + 10 * x + z) = bI (ws c s x z) := by
  cases s with
  | zero =>
    have := H.1 x z hx hz
    rw [show 100 * 0 + 10 * x + z = 10 * x + z by omega]
    exact this
  | succ s =>
    have := H.2 s x z (by omega) hx hz
    rw [show Bq (s + 1) y X Z s x z = 8 by unfold Bq; rw [if_pos (by omega)]] at this
    exact this
/-- one cell a year farther -/
theorem WI.step {c : Nat → Nat → Nat} {CF SF : Nat → Int32} {s y X Z : Nat} (H : WI c CF SF (Bq s y X Z)) (hs : s < 8) (hy : y < 8) (hX : X < 8) (hZ : Z < 8) (he : 0 < eg c y X) : WI c (upd CF (100 * (s + 1) + 10 * y + Z) (bI (stW c (fun x => wk c s x Z) y X || wk c s X Z))) (upd SF (100 * (s + 1) + 10 * y + Z) (bI (stS c (fun x => wk c s x Z) (fun x => ws c s x Z) y X || (ws c s X Z || (decide (eg c y X = 2) && wk c s X Z))))) (Bq s y X (Z + 1)) := by
  refine ⟨fun a b ha hb => ?_, fun k a b hk ha hb => ?_⟩
  · rw [pk_un (by omega), pk_un (by omega)]
    exact H.1 a b ha hb
  · by_cases e : k = s ∧ a = y ∧ b = Z
    · obtain ⟨rfl, rfl, rfl⟩ := e
      rw [pk_us, pk_us, show Bq k a X (b + 1) k a b = X + 1 by unfold Bq; rw [if_neg (by omega), if_pos ⟨rfl, rfl⟩, if_pos (by omega)]]
      constructor
      · show _ = bI (stW c _ a X || (decide (0 < eg c a X) && wk c k X b))
        rw [decide_eq_true he, Bool.true_and]
      · show _ = bI (stS c _ _ a X || (decide (0 < eg c a X) && (ws c k X b || (decide (eg c a X = 2) && wk c k X b))))
        rw [decide_eq_true he, Bool.true_and]
    · rw [pk_un (by omega), pk_un (by omega), show Bq s y X (Z + 1) k a b = Bq s y X Z k a b by
        unfold Bq
        split
        · rfl
        · split
          · by_cases d : b < Z
            · rw [if_pos d, if_pos (by omega)]
            · rw [if_neg d, if_neg (by omega)]
          · rfl]
      exact H.2 k a b hk ha hb
/-- nothing leads there -/
theorem WI.skip {c : Nat → Nat → Nat} {CF SF : Nat → Int32} {s y X : Nat} (H : WI c CF SF (Bq s y X 0)) (he : eg c y X = 0) : WI c CF SF (Bq s y (X + 1) 0) := by
  refine ⟨H.1, fun k a b hk ha hb => ?_⟩
  have := H.2 k a b hk ha hb
  by_cases e : k = s ∧ a = y
  · obtain ⟨rfl, rfl⟩ := e
    have e1 : Bq k a X 0 k a b = X := by unfold Bq; rw [if_neg (by omega), if_pos ⟨rfl, rfl⟩, if_neg (by omega)]
    have e2 : Bq k a (X + 1) 0 k a b = X + 1 := by unfold Bq; rw [if_neg (by omega), if_pos ⟨rfl, rfl⟩, if_neg (by omega)]
    rw [e1] at this
    rw [e2]
    constructor
    · rw [this.1]
      show _ = bI (stW c _ a X || (decide (0 < eg c a X) && wk c k X b))
      rw [he]
      simp
    · rw [this.2]
      show _ = bI (stS c _ _ a X || (decide (0 < eg c a X) && (ws c k X b || (decide (eg c a X = 2) && wk c k X b))))
      rw [he]
      simp
  · rw [show Bq s y (X + 1) 0 k a b = Bq s y X 0 k a b by unfold Bq; rw [if_neg e, if_neg e]]
    exact this
section
variable {m : Nat} {p b : Nat → Nat} {EF : Nat → Int32} {c : Nat → Nat → Nat}
theorem ix110 {s y z : Nat} : (100 : Int32) * nI s + (10 : Int32) * nI y + nI z = nI (100 * s + 10 * y + z) := by rw [show (100 : Int32) = nI 100 from rfl, show (10 : Int32) = nI 10 from rfl, pk_mul, pk_mul, nI_add, nI_add]
theorem bI_zero {t : Bool} : bI t = 0 ↔ t = false := bI_0
theorem M_w134 (hE : ∀ i j, i < 8 → j < 8 → EF (10 * i + j) = nI (eg c i j)) (c2 : ∀ i j, eg c i j ≤ 2) {s y X : Nat} (hs : s < 8) (hy : y < 8) (hX : X < 8) (k107 : Int32 → Hp → Option Hp) (k115 : Int32 → Int32 → Hp → Option Hp) (k124 : Int32 → Int32 → Int32 → Hp → Option Hp) (he : 0 < eg c y X) : ∀ (k f z : Nat) (h : Hp) (CF SF : Nat → Int32), z + k = 8 → WA h m p b CF SF EF → WI c CF SF (Bq s y X z) → ∃ h' CF' SF', f_M_findWalks_134 m k107 k115 k124 (f + k + 1) (nI (s + 1)) (nI y) (nI X) (nI z) h = k124 (nI (s + 1)) (nI y) (nI (X + 1)) h' ∧ WA h' m p b CF' SF' EF ∧ WI c CF' SF' (Bq s y X 8) ∧ WF h h' m := by
  intro k
  induction k with
  | zero =>
    intro f z h CF SF hz H W
    have e : z = 8 := by omega
    subst e
    refine ⟨h, CF, SF, ?_, H, W, fun _ _ => rfl⟩
    show t_M_findWalks_134 _ _ _ _ _ _ _ _ _ _ = _
    unfold t_M_findWalks_134
    rw [if_pos (by decide)]
    unfold f_M_findWalks_283
    rw [nI_1]
  | succ k ih =>
    intro f z h CF SF hz H W
    have hz8 : z < 8 := by omega
    have W1 := W.step hs hy hX hz8 he
    have wo := W.2 s y z hs hy hz8
    rw [show Bq s y X z s y z = X by unfold Bq; rw [if_neg (by omega), if_pos ⟨rfl, rfl⟩, if_neg (by omega)]] at wo
    have wb := W.full (by omega) hX hz8
    have e2 := c2 y X
    generalize hold : stW c (fun x => wk c s x z) y X = old at W1 wo
    generalize holdS : stS c (fun x => wk c s x z) (fun x => ws c s x z) y X = oldS at W1 wo
    generalize hbk : wk c s X z = bk at W1 wb
    generalize hbs : ws c s X z = bs at W1 wb
    obtain ⟨E1, H1⟩ := H.c (k := 100 * (s + 1) + 10 * y + z) (by omega) (old || bk)
    obtain ⟨E2, H2⟩ := H1.s (k := 100 * (s + 1) + 10 * y + z) (by omega) (oldS || (bs || (decide (eg c y X = 2) && bk)))
    obtain ⟨h', CF', SF', G1, G2, G3, G4⟩ := ih f (z + 1) _ _ _ (by omega) H2 W1
    refine ⟨h', CF', SF', ?_, G2, G3, fun c hc => by rw [G4 c hc, hup_n (by omega), hup_n (by omega)]⟩
    rw [← G1]
    obtain ⟨-, g37, g38, g39⟩ := H.1
    obtain ⟨-, q37, q38, q39⟩ := H1.1
    have ib : 100 * s + 10 * X + z < 1100 := by omega
    have ia : 100 * (s + 1) + 10 * y + z < 1100 := by omega
    have r1 : aI h 2 (m + 22) (nI (100 * (s + 1) + 10 * y + z)) = some (bI old) := by rw [ai_get H.2.1 ia (by decide), wo.1]
    have r2 : aI h 2 (m + 22) (nI (100 * s + 10 * X + z)) = some (bI bk) := by rw [ai_get H.2.1 ib (by decide), wb.1]
    -- behind the first cell
    have st2 : ∀ t : Bool, f_M_findWalks_276 m k107 k115 k124 (f_M_findWalks_134 m k107 k115 k124 (f + k + 1)) (m + 23) (nI (100 * (s + 1) + 10 * y + z)) (bI t) (nI (s + 1)) (nI y) (nI X) (nI z) (hup h (m + 22) (.inl (2, 1100, .inl (upd CF (100 * (s + 1) + 10 * y + z) (bI (old || bk)))))) = if t = (oldS || (bs || (decide (eg c y X = 2) && bk))) then f_M_findWalks_134 m k107 k115 k124 (f + k + 1) (nI (s + 1)) (nI y) (nI X) (nI (z + 1)) (hup (hup h (m + 22) (.inl (2, 1100, .inl (upd CF (100 * (s + 1) + 10 * y + z) (bI (old || bk)))))) (m + 23) (.inl (2, 1100, .inl (upd SF (100 * (s + 1) + 10 * y + z) (bI (oldS || (bs || (decide (eg c y X = 2) && bk)))))))) else f_M_findWalks_276 m k107 k115 k124 (f_M_findWalks_134 m k107 k115 k124 (f + k + 1)) (m + 23) (nI (100 * (s + 1) + 10 * y + z)) (bI t) (nI (s + 1)) (nI y) (nI X) (nI z) (hup h (m + 22) (.inl (2, 1100, .inl (upd CF (100 * (s + 1) + 10 * y + z) (bI (old || bk)))))) := by
      intro t
      by_cases d : t = (oldS || (bs || (decide (eg c y X = 2) && bk)))
      · rw [if_pos d, d]
        unfold f_M_findWalks_276
        rw [E2, Option.bind_some, nI_1]
      · rw [if_neg d]
    have st : ∀ t : Bool, t = (old || bk) → f_M_findWalks_218 m k107 k115 k124 (f_M_findWalks_134 m k107 k115 k124 (f + k + 1)) (m + 22) (nI (100 * (s + 1) + 10 * y + z)) (bI t) (nI (s + 1)) (nI y) (nI X) (nI z) (nI (100 * (s + 1) + 10 * y + z)) (nI (100 * s + 10 * X + z)) h = f_M_findWalks_134 m k107 k115 k124 (f + k + 1) (nI (s + 1)) (nI y) (nI X) (nI (z + 1)) (hup (hup h (m + 22) (.inl (2, 1100, .inl (upd CF (100 * (s + 1) + 10 * y + z) (bI (old || bk)))))) (m + 23) (.inl (2, 1100, .inl (upd SF (100 * (s + 1) + 10 * y + z) (bI (oldS || (bs || (decide (eg c y X = 2) && bk)))))))) := by
      rintro t rfl
      have s1 : aI (hup h (m + 22) (.inl (2, 1100, .inl (upd CF (100 * (s + 1) + 10 * y + z) (bI (old || bk)))))) 2 (m + 23) (nI (100 * (s + 1) + 10 * y + z)) = some (bI oldS) := by rw [ai_get H1.2.2.1 ia (by decide), wo.2]
      have s2 : aI (hup h (m + 22) (.inl (2, 1100, .inl (upd CF (100 * (s + 1) + 10 * y + z) (bI (old || bk)))))) 2 (m + 23) (nI (100 * s + 10 * X + z)) = some (bI bs) := by rw [ai_get H1.2.2.1 ib (by decide), wb.2]
      have s3 : aI (hup h (m + 22) (.inl (2, 1100, .inl (upd CF (100 * (s + 1) + 10 * y + z) (bI (old || bk)))))) 0 (m + 24) ((10 : Int32) * nI y + nI X) = some (nI (eg c y X)) := by rw [ix10, ai_get H1.2.2.2 (by omega) (by decide), hE y X hy hX]
      have s4 : aI (hup h (m + 22) (.inl (2, 1100, .inl (upd CF (100 * (s + 1) + 10 * y + z) (bI (old || bk)))))) 2 (m + 22) (nI (100 * s + 10 * X + z)) = some (bI bk) := by rw [ai_get H1.2.1 ib (by decide), pk_un (by omega), wb.1]
      have t1 := st2 true
      have t0 := st2 false
      unfold f_M_findWalks_218
      rw [E1]
      simp only [Option.bind_some]
      rw [q38]
      simp only [Option.bind_some]
      rw [s1]
      simp only [Option.bind_some]
      unfold f_M_findWalks_271 f_M_findWalks_275
      cases oldS with
      | true =>
        rw [if_neg (show ¬ bI true = 0 by decide)]
        exact t1.trans (if_pos (Bool.true_or _).symm)
      | false =>
        rw [if_pos (show bI false = 0 from rfl), s2, Option.bind_some]
        cases bs with
        | true =>
          rw [if_neg (show ¬ bI true = 0 by decide)]
          exact t1.trans (if_pos (by simp))
        | false =>
          rw [if_pos (show bI false = 0 from rfl), q39]
          simp only [Option.bind_some]
          rw [s3]
          simp only [Option.bind_some]
          by_cases d : eg c y X = 2
          · rw [if_pos (show nI (eg c y X) = (2 : Int32) by rw [d]; rfl), q37]
            simp only [Option.bind_some]
            rw [s4]
            simp only [Option.bind_some]
            cases bk with
            | true =>
              rw [if_neg (show ¬ bI true = 0 by decide)]
              exact t1.trans (if_pos (by simp [d]))
            | false =>
              rw [if_pos (show bI false = 0 from rfl)]
              exact t0.trans (if_pos (by simp))
          · rw [if_neg (show ¬ nI (eg c y X) = (2 : Int32) from fun e => d ((nI_eq (by omega) (by decide)).mp e))]
            exact t0.trans (if_pos (by simp [d]))
    show t_M_findWalks_134 _ _ _ _ (f_M_findWalks_134 m k107 k115 k124 (f + k + 1)) _ _ _ _ _ = _
    unfold t_M_findWalks_134
    rw [if_neg (show ¬ (8 : Int32) ≤ nI z from nI_ge (b := 8) hz8 (by decide)), g39]
    simp only [Option.bind_some]
    rw [ix10, ai_get H.2.2.2 (by omega) (by decide), hE y X hy hX]
    simp only [Option.bind_some]
    rw [if_neg (nI_nle he (by omega)), g37]
    simp only [Option.bind_some]
    rw [nI_pred, ix110, ix110, r1]
    simp only [Option.bind_some]
    unfold f_M_findWalks_213
    cases old with
    | true =>
      rw [if_neg (show ¬ bI true = 0 by decide)]
      exact st true (Bool.true_or _).symm
    | false =>
      rw [if_pos (show bI false = 0 from rfl), r2]
      simp only [Option.bind_some]
      cases bk with
      | true =>
        rw [if_neg (show ¬ bI true = 0 by decide)]
        exact st true rfl
      | false =>
        rw [if_pos (show bI false = 0 from rfl)]
        exact st false rfl
theorem M_w124 (hE : ∀ i j, i < 8 → j < 8 → EF (10 * i + j) = nI (eg c i j)) (c2 : ∀ i j, eg c i j ≤ 2) {s y : Nat} (hs : s < 8) (hy : y < 8) (k107 : Int32 → Hp → Option Hp) (k115 : Int32 → Int32 → Hp → Option Hp) : ∀ (k f X : Nat) (h : Hp) (CF SF : Nat → Int32), X + k = 8 → WA h m p b CF SF EF → WI c CF SF (Bq s y X 0) → ∃ h' CF' SF', f_M_findWalks_124 m k107 k115 (f + k + 1) (nI (s + 1)) (nI y) (nI X) h = k115 (nI (s + 1)) (nI (y + 1)) h' ∧ WA h' m p b CF' SF' EF ∧ WI c CF' SF' (Bq s y 8 0) ∧ WF h h' m := by
  intro k
  induction k with
  | zero =>
    intro f X h CF SF hX H W
    have e : X = 8 := by omega
    subst e
    refine ⟨h, CF, SF, ?_, H, W, fun _ _ => rfl⟩
    show t_M_findWalks_124 _ _ _ _ _ _ _ _ = _
    unfold t_M_findWalks_124
    rw [if_pos (by decide), nI_1]
  | succ k ih =>
    intro f X h CF SF hX H W
    have hX8 : X < 8 := by omega
    have one : ∃ h1 CF1 SF1, f_M_findWalks_134 m k107 k115 (f_M_findWalks_124 m k107 k115 (f + k + 1)) FU (nI (s + 1)) (nI y) (nI X) 0 h = f_M_findWalks_124 m k107 k115 (f + k + 1) (nI (s + 1)) (nI y) (nI (X + 1)) h1 ∧ WA h1 m p b CF1 SF1 EF ∧ WI c CF1 SF1 (Bq s y (X + 1) 0) ∧ WF h h1 m := by
      rcases Nat.eq_zero_or_pos (eg c y X) with e | e
      · refine ⟨h, CF, SF, ?_, H, W.skip e, fun _ _ => rfl⟩
        obtain ⟨-, g37, g38, g39⟩ := H.1
        show t_M_findWalks_134 _ _ _ _ _ _ _ _ _ _ = _
        unfold t_M_findWalks_134
        rw [if_neg (by decide), g39]
        simp only [Option.bind_some]
        rw [ix10, ai_get H.2.2.2 (by omega) (by decide), hE y X hy hX8, e]
        simp only [Option.bind_some]
        rw [if_pos (by decide)]
        unfold f_M_findWalks_283
        rw [nI_1]
      · obtain ⟨h1, CF1, SF1, E1, H1, W1, F1⟩ := M_w134 hE c2 hs hy hX8 k107 k115 (f_M_findWalks_124 m k107 k115 (f + k + 1)) e 8 (FU - 9) 0 h CF SF rfl H W
        exact ⟨h1, CF1, SF1, E1, H1, W1.cong (fun k a z _ _ hz => by
          unfold Bq
          split
          · rfl
          · split
            · rw [if_neg (by omega)]
            · rfl), F1⟩
    obtain ⟨h1, CF1, SF1, E1, H1, W1, F1⟩ := one
    obtain ⟨h', CF', SF', G1, G2, G3, G4⟩ := ih f (X + 1) h1 CF1 SF1 (by omega) H1 W1
    refine ⟨h', CF', SF', ?_, G2, G3, F1.trans G4⟩
    rw [← G1, ← E1]
    show t_M_findWalks_124 _ _ _ (f_M_findWalks_124 m k107 k115 (f + k + 1)) _ _ _ _ = _
    unfold t_M_findWalks_124
    rw [if_neg (show ¬ (8 : Int32) ≤ nI X from nI_ge (b := 8) hX8 (by decide))]
theorem M_w115 (hE : ∀ i j, i < 8 → j < 8 → EF (10 * i + j) = nI (eg c i j)) (c2 : ∀ i j, eg c i j ≤ 2) {s : Nat} (hs : s < 8) (k107 : Int32 → Hp → Option Hp) : ∀ (k f y : Nat) (h : Hp) (CF SF : Nat → Int32), y + k = 8 → WA h m p b CF SF EF → WI c CF SF (Bq s y 0 0) → ∃ h' CF' SF', f_M_findWalks_115 m k107 (f + k + 1) (nI (s + 1)) (nI y) h = k107 (nI (s + 2)) h' ∧ WA h' m p b CF' SF' EF ∧ WI c CF' SF' (Bq (s + 1) 0 0 0) ∧ WF h h' m := by
  intro k
  induction k with
  | zero =>
    intro f y h CF SF hy H W
    have e : y = 8 := by omega
    subst e
    refine ⟨h, CF, SF, ?_, H, W.cong (fun k a z hk ha hz => by
      unfold Bq
      by_cases d : k < s ∨ (k = s ∧ a < 8)
      · rw [if_pos d, if_pos (by omega)]
      · rw [if_neg d, if_neg (by omega), if_neg (by omega)]
        split
        · rw [if_neg (by omega)]
        · rfl), fun _ _ => rfl⟩
    show t_M_findWalks_115 _ _ _ _ _ _ = _
    unfold t_M_findWalks_115
    rw [if_pos (by decide), nI_1]
  | succ k ih =>
    intro f y h CF SF hy H W
    have hy8 : y < 8 := by omega
    obtain ⟨h1, CF1, SF1, E1, H1, W1, F1⟩ := M_w124 hE c2 hs hy8 k107 (f_M_findWalks_115 m k107 (f + k + 1)) 8 (FU - 9) 0 h CF SF rfl H W
    obtain ⟨h', CF', SF', G1, G2, G3, G4⟩ := ih f (y + 1) h1 CF1 SF1 (by omega) H1 (W1.cong (fun k a z hk ha hz => by
      unfold Bq
      by_cases d : k < s ∨ (k = s ∧ a < y)
      · rw [if_pos d, if_pos (by omega)]
      · rw [if_neg d]
        by_cases e : k = s ∧ a = y
        · rw [if_pos e, if_neg (by omega), if_pos (by omega)]
        · rw [if_neg e, if_neg (by omega)]
          split
          · rw [if_neg (by omega)]
          · rfl))
    refine ⟨h', CF', SF', ?_, G2, G3, F1.trans G4⟩
    rw [← G1, ← E1]
    show t_M_findWalks_115 _ _ (f_M_findWalks_115 m k107 (f + k + 1)) _ _ _ = _
    unfold t_M_findWalks_115
    rw [if_neg (show ¬ (8 : Int32) ≤ nI y from nI_ge (b := 8) hy8 (by decide))]
    rfl
theorem M_w107 (hE : ∀ i j, i < 8 → j < 8 → EF (10 * i + j) = nI (eg c i j)) (c2 : ∀ i j, eg c i j ≤ 2) : ∀ (k f s : Nat) (h : Hp) (CF SF : Nat → Int32), s + k = 8 → WA h m p b CF SF EF → WI c CF SF (Bq s 0 0 0) → ∃ h' CF' SF', f_M_findWalks_107 m (f + k + 1) (nI (s + 1)) h = some h' ∧ WA h' m p b CF' SF' EF ∧ WI c CF' SF' (Bq 8 0 0 0) ∧ WF h h' m := by
  intro k
  induction k with
  | zero =>
    intro f s h CF SF hs H W
    have e : s = 8 := by omega
    subst e
    refine ⟨h, CF, SF, ?_, H, W, fun _ _ => rfl⟩
    show t_M_findWalks_107 _ _ _ _ = _
    unfold t_M_findWalks_107
    rw [if_pos (by decide)]
  | succ k ih =>
    intro f s h CF SF hs H W
    have hs8 : s < 8 := by omega
    obtain ⟨h1, CF1, SF1, E1, H1, W1, F1⟩ := M_w115 hE c2 hs8 (f_M_findWalks_107 m (f + k + 1)) 8 (FU - 9) 0 h CF SF rfl H W
    obtain ⟨h', CF', SF', G1, G2, G3, G4⟩ := ih f (s + 1) h1 CF1 SF1 (by omega) H1 W1
    refine ⟨h', CF', SF', ?_, G2, G3, F1.trans G4⟩
    rw [← G1, ← E1]
    show t_M_findWalks_107 _ (f_M_findWalks_107 m (f + k + 1)) _ _ = _
    unfold t_M_findWalks_107
    rw [if_neg (show ¬ (8 : Int32) < nI (s + 1) from nI_nlt (a := 8) (by omega) (by decide))]
    rfl
end
theorem chz_2 (x y : Option Nat) : chz x y ≤ 2 := by
  unfold chz
  split
  · split
    · decide
    · split <;> decide
  · decide
theorem eg_2 {p : Nat → Nat} {am : Nat → Nat → Nat} (i j : Nat) : eg (chc p am) i j ≤ 2 := by
  unfold eg chc
  split
  · decide
  · exact chz_2 _ _
/-- what findWalks leaves -/
def WK (c : Nat → Nat → Nat) (CF SF EF : Nat → Int32) : Prop := (∀ k y z, k ≤ 8 → y < 8 → z < 8 → CF (100 * k + 10 * y + z) = bI (wk c k y z) ∧ SF (100 * k + 10 * y + z) = bI (ws c k y z)) ∧ ∀ i j, i < 8 → j < 8 → EF (10 * i + j) = nI (eg c i j)
theorem M_findWalks {h : Hp} {m w : Nat} {p b : Nat → Nat} {CF SF EF : Nat → Int32} (H : WA h m p b CF SF EF) (hw : w < 4) : ∃ h' CF' SF' EF', f_M_findWalks m (nI w) h = some h' ∧ WA h' m p b CF' SF' EF' ∧ WK (chc p (bam b w)) CF' SF' EF' ∧ WF h h' m := by
  obtain ⟨h1, CF1, SF1, E1, H1, Z1, F1⟩ := M_w2 (x1 := nI w) 1100 (FU - 1101) 0 h CF SF EF rfl H (fun j hj => absurd hj (by omega))
  obtain ⟨h2, EF2, E2, H2, Z2, F2⟩ := M_w52 hw 8 (FU - 9) 0 h1 EF rfl H1 (fun i j hi => absurd hi (by omega))
  have W0 : WI (chc p (bam b w)) CF1 SF1 (Bq 0 0 0 0) := by
    refine ⟨fun y z hy hz => ?_, fun k y z hk hy hz => ?_⟩
    · obtain ⟨a, b'⟩ := Z1 (10 * y + z) (by omega)
      rw [a, b']
      refine ⟨?_, rfl⟩
      unfold c0
      by_cases d : y = z
      · rw [decide_eq_true d, decide_eq_true (⟨by omega, by omega⟩ : 10 * y + z < 100 ∧ (10 * y + z) / 10 = (10 * y + z) % 10)]
      · rw [decide_eq_false d, decide_eq_false (fun x : 10 * y + z < 100 ∧ (10 * y + z) / 10 = (10 * y + z) % 10 => d (by omega))]
    · obtain ⟨a, b'⟩ := Z1 (100 * (k + 1) + 10 * y + z) (by omega)
      have e : Bq 0 0 0 0 k y z = 0 := by
        unfold Bq
        rw [if_neg (by omega)]
        split
        · rw [if_neg (by omega)]
        · rfl
      rw [a, b', e]
      refine ⟨?_, rfl⟩
      unfold c0
      rw [decide_eq_false (fun x : 100 * (k + 1) + 10 * y + z < 100 ∧ _ => by omega)]
      rfl
  obtain ⟨h3, CF3, SF3, E3, H3, W3, F3⟩ := M_w107 Z2 (fun i j => eg_2 i j) 8 (FU - 9) 0 h2 CF1 SF1 rfl H2 W0
  refine ⟨h3, CF3, SF3, EF2, ?_, H3, ⟨fun k y z hk hy hz => ?_, Z2⟩, (F1.trans F2).trans F3⟩
  · unfold f_M_findWalks
    rw [if_pos H.1.1.o, show f_M_findWalks_2 m FU (nI w) (0 : Int32) h = _ from E1, show f_M_findWalks_52 m FU (nI w) (0 : Int32) h1 = _ from E2]
    exact E3
  · cases k with
    | zero =>
      have := W3.1 y z hy hz
      rw [show 100 * 0 + 10 * y + z = 10 * y + z by omega]
      exact this
    | succ k =>
      have := W3.2 k y z (by omega) hy hz
      rw [show Bq 8 0 0 0 k y z = 8 by unfold Bq; rw [if_pos (by omega)]] at this
      exact this
