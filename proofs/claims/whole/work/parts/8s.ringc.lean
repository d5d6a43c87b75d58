/-! ===== the ring: the class's search ===== -/
theorem sh_b8 : ∀ s, s < 256 → ∀ g, g < 8 → ((nI s >>> (nI g &&& 31)) &&& (1 : Int32)) = if s.testBit g then nI 1 else nI 0 := by decide +kernel
theorem sh_8 : ∀ g, g < 8 → ((1 : Int32) <<< (nI g &&& 31)) = nI (2 ^ g) := by decide +kernel
section
variable {S : Nat} {p q : Nat → Nat} {A G : Nat → Int32} {c : Nat → Nat → Nat}
theorem K_year {h : Hp} {R : Nat → Int32} (H : KW h S p q A R G) {i : Nat} (hi : i < 8) : f_K_yearInRing (S + 53) h (nI i) = some (R i) := by
  obtain ⟨o, g0, g1, g2, g3⟩ := H.o
  unfold f_K_yearInRing
  rw [if_pos o, if_neg (nI_pos (by omega)), g2, Option.bind_some, Option.bind_some, an_any H.2.2.1 (by decide), Option.bind_some, if_pos (nI_lt hi (by decide)), Option.bind_some, Option.bind_some, ai_get H.2.2.1 hi (by decide)]
  rfl
theorem K_setYear {h : Hp} {R : Nat → Int32} (H : KW h S p q A R G) {i : Nat} (hi : i < 8) (x : Int32) : f_K_setYearInRing (S + 53) (nI i) x h = some (hup h (S + 55) (.inl (0, 8, .inl (upd R i x)))) ∧ KW (hup h (S + 55) (.inl (0, 8, .inl (upd R i x)))) S p q A (upd R i x) G := by
  obtain ⟨o, g0, g1, g2, g3⟩ := H.o
  obtain ⟨E, H1⟩ := H.r hi x
  refine ⟨?_, H1⟩
  unfold f_K_setYearInRing
  rw [if_pos o, if_neg (nI_pos (by omega)), g2, Option.bind_some, Option.bind_some, an_any H.2.2.1 (by decide), Option.bind_some, if_neg (nI_ge hi (by decide)), Option.bind_some, Option.bind_some, E]
  rfl
/-- what a search leaves in the row -/
def RwD (R R' : Nat → Int32) (at' n : Nat) (d : Option (List Nat)) : Prop := (∀ i, i < at' → R' i = R i) ∧ ∀ l, d = some l → ∀ t, t < n → R' (at' + t) = nI (l.getD t 0)
theorem K_closes (hA : CA A c) (c2 : ∀ i j, c i j ≤ 2) {f L : Nat} (hf : f < 8) (hL : L ≤ 8) : ∀ (n F a U : Nat) (s : Bool) (v : Nat) (h : Hp) (R : Nat → Int32), n + 1 ≤ F → 1 ≤ a → a + n = L → v < 8 → U < 256 → KW h S p q A R G → R 0 = nI f → R (a - 1) = nI v → ∃ h' R', f_K_closesFrom F (S + 53) (nI a) (nI L) (nI U) (bI s) h = some (bI (dfs c f n U s v).isSome, h') ∧ KW h' S p q A R' G ∧ RwD R R' a n (dfs c f n U s v) ∧ KF h h' S := by
  intro n
  induction n with
  | zero =>
    intro F a U s v h R hF ha hL2 hv hU H h0 hv1
    obtain ⟨F, rfl⟩ : ∃ F', F = F' + 1 := ⟨F - 1, by omega⟩
    obtain ⟨t, rfl⟩ : ∃ t, a = t + 1 := ⟨a - 1, by omega⟩
    have e : t + 1 = L := by omega
    subst e
    have hv1 : R t = nI v := hv1
    have := c2 v f
    refine ⟨h, R, ?_, H, ⟨fun _ _ => rfl, fun l _ t ht => absurd ht (by omega)⟩, fun _ _ => rfl⟩
    show t_K_closesFrom _ _ _ _ _ _ _ = _
    unfold t_K_closesFrom
    rw [if_pos H.o.1, nI_pred, K_year H (by omega), Option.bind_some, if_pos (nI_le (Nat.le_refl _) (by omega)), hv1]
    unfold f_K_closesFrom_20
    rw [show (0 : Int32) = nI 0 from rfl, K_year H (by omega), Option.bind_some, h0, K_choiceAt H hA hv hf, Option.bind_some]
    show _ = some (bI (if c v f = 2 ∨ (c v f = 1 ∧ s = true) then some ([] : List Nat) else none).isSome, h)
    by_cases d2 : c v f = 2
    · rw [if_pos (show nI (c v f) = (2 : Int32) by rw [d2]; rfl), if_pos (Or.inl d2)]
      rfl
    · rw [if_neg (show ¬ nI (c v f) = (2 : Int32) from fun e => d2 ((nI_eq (by omega) (by decide)).mp e))]
      by_cases d1 : c v f = 1
      · rw [if_pos (show nI (c v f) = (1 : Int32) by rw [d1]; rfl)]
        cases s with
        | true =>
          rw [if_neg (show ¬ bI true = nI 0 by decide), if_pos (Or.inr ⟨d1, rfl⟩)]
          rfl
        | false =>
          rw [if_pos (show bI false = nI 0 from rfl), if_neg (fun x => x.elim d2 (fun y => by cases y.2))]
          rfl
      · rw [if_neg (show ¬ nI (c v f) = (1 : Int32) from fun e => d1 ((nI_eq (by omega) (by decide)).mp e)), if_neg (fun x => x.elim d2 (fun y => d1 y.1))]
        rfl
  | succ n ih =>
    intro F a U s v h R hF ha hL2 hv hU H h0 hv1
    obtain ⟨F, rfl⟩ : ∃ F', F = F' + 1 := ⟨F - 1, by omega⟩
    have a8 : a < 8 := by omega
    -- the years, one after the other
    have loop : ∀ (k fu y : Nat) (h : Hp) (R : Nat → Int32), y + k = 8 → KW h S p q A R G → R 0 = nI f → R (a - 1) = nI v → ∃ h' R', f_K_closesFrom_65 (f_K_closesFrom F) (S + 53) (fu + k + 1) (nI a) (nI L) (nI U) (bI s) (nI v) (nI y) h = some (bI (sc (fun y => if U.testBit y = true ∨ c v y = 0 then none else (dfs c f n (U ||| 2 ^ y) (s || decide (c v y = 2)) y).map (List.cons y)) k y).isSome, h') ∧ KW h' S p q A R' G ∧ RwD R R' a (n + 1) (sc (fun y => if U.testBit y = true ∨ c v y = 0 then none else (dfs c f n (U ||| 2 ^ y) (s || decide (c v y = 2)) y).map (List.cons y)) k y) ∧ KF h h' S := by
      intro k
      induction k with
      | zero =>
        intro fu y h R hy H h0 hv1
        have e : y = 8 := by omega
        subst e
        refine ⟨h, R, ?_, H, ⟨fun _ _ => rfl, fun l e => (by cases e)⟩, fun _ _ => rfl⟩
        show t_K_closesFrom_65 _ _ _ _ _ _ _ _ _ _ = _
        unfold t_K_closesFrom_65
        rw [if_pos (by decide)]
        rfl
      | succ k ihk =>
        intro fu y h R hy H h0 hv1
        have y8 : y < 8 := by omega
        have := c2 v y
        -- not this year
        have skip : (if U.testBit y = true ∨ c v y = 0 then none else (dfs c f n (U ||| 2 ^ y) (s || decide (c v y = 2)) y).map (List.cons y)) = none → ∀ {h1 : Hp} {R1 : Nat → Int32}, KW h1 S p q A R1 G → (∀ i, i < a → R1 i = R i) → KF h h1 S → ∃ h' R', f_K_closesFrom_146 (f_K_closesFrom F) (S + 53) (f_K_closesFrom_65 (f_K_closesFrom F) (S + 53) (fu + k + 1)) (nI a) (nI L) (nI U) (bI s) (nI v) (nI y) h1 = some (bI (sc (fun y => if U.testBit y = true ∨ c v y = 0 then none else (dfs c f n (U ||| 2 ^ y) (s || decide (c v y = 2)) y).map (List.cons y)) (k + 1) y).isSome, h') ∧ KW h' S p q A R' G ∧ RwD R R' a (n + 1) (sc (fun y => if U.testBit y = true ∨ c v y = 0 then none else (dfs c f n (U ||| 2 ^ y) (s || decide (c v y = 2)) y).map (List.cons y)) (k + 1) y) ∧ KF h h' S := by
          intro e h1 R1 H1 o1 f1
          obtain ⟨h', R', G1, G2, G3, G4⟩ := ihk fu (y + 1) h1 R1 (by omega) H1 (by rw [o1 0 (by omega)]; exact h0) (by rw [o1 (a - 1) (by omega)]; exact hv1)
          rw [sc_s, e]
          refine ⟨h', R', ?_, G2, ⟨fun i hi => by rw [G3.1 i hi, o1 i hi], G3.2⟩, f1.trans G4⟩
          unfold f_K_closesFrom_146
          rw [nI_1]
          exact G1
        show ∃ h' R', t_K_closesFrom_65 _ _ (f_K_closesFrom_65 (f_K_closesFrom F) (S + 53) (fu + k + 1)) _ _ _ _ _ _ _ = _ ∧ _
        unfold t_K_closesFrom_65
        rw [if_neg (show ¬ (8 : Int32) ≤ nI y from nI_ge (b := 8) y8 (by decide)), sh_b8 U hU y y8]
        by_cases u1 : U.testBit y = true
        · rw [if_pos u1, if_pos (show nI 1 = (1 : Int32) from rfl)]
          unfold f_K_closesFrom_94
          rw [if_pos rfl]
          exact skip (if_pos (Or.inl u1)) H (fun _ _ => rfl) (fun _ _ => rfl)
        · rw [if_neg u1, if_neg (show ¬ nI 0 = (1 : Int32) by decide), K_choiceAt H hA hv y8, Option.bind_some]
          unfold f_K_closesFrom_94
          by_cases c0 : c v y = 0
          · rw [if_pos ((nI_eq0 (by omega)).mpr c0)]
            exact skip (if_pos (Or.inr c0)) H (fun _ _ => rfl) (fun _ _ => rfl)
          · rw [if_neg (fun e => c0 ((nI_eq0 (by omega)).mp e))]
            obtain ⟨E1, H1⟩ := K_setYear H a8 (nI y)
            rw [E1, Option.bind_some, nI_1, sh_8 y y8, n_or]
            have U2 : U ||| 2 ^ y < 256 := Nat.or_lt_two_pow (n := 8) hU (Nat.pow_lt_pow_right (by decide) y8)
            have F1 : KF h (hup h (S + 55) (.inl (0, 8, .inl (upd R a (nI y))))) S := fun c hc => hup_n (by omega)
            have r0 : upd R a (nI y) 0 = nI f := by rw [pk_un (by omega)]; exact h0
            have ra : upd R a (nI y) (a + 1 - 1) = nI y := by rw [show a + 1 - 1 = a by omega]; exact pk_us
            have ro : ∀ i, i < a → upd R a (nI y) i = R i := fun i hi => pk_un (by omega)
            have nn : ¬ (U.testBit y = true ∨ c v y = 0) := fun x => x.elim u1 c0
            -- the search goes on from y
            have go : ∀ s' : Bool, s' = (s || decide (c v y = 2)) → ∃ h' R', f_K_closesFrom_138 (f_K_closesFrom F) (S + 53) (f_K_closesFrom_65 (f_K_closesFrom F) (S + 53) (fu + k + 1)) (nI (a + 1)) (nI L) (nI (U ||| 2 ^ y)) (bI s') (nI a) (nI L) (nI U) (bI s) (nI v) (nI y) (hup h (S + 55) (.inl (0, 8, .inl (upd R a (nI y))))) = some (bI (sc (fun y => if U.testBit y = true ∨ c v y = 0 then none else (dfs c f n (U ||| 2 ^ y) (s || decide (c v y = 2)) y).map (List.cons y)) (k + 1) y).isSome, h') ∧ KW h' S p q A R' G ∧ RwD R R' a (n + 1) (sc (fun y => if U.testBit y = true ∨ c v y = 0 then none else (dfs c f n (U ||| 2 ^ y) (s || decide (c v y = 2)) y).map (List.cons y)) (k + 1) y) ∧ KF h h' S := by
              rintro s' rfl
              obtain ⟨h2, R2, E2, H2, W2, F2⟩ := ih F (a + 1) (U ||| 2 ^ y) (s || decide (c v y = 2)) y _ _ (by omega) (by omega) (by omega) y8 U2 H1 r0 ra
              unfold f_K_closesFrom_138
              rw [E2, zb2_s]
              have o2 : ∀ i, i < a → R2 i = R i := fun i hi => by rw [W2.1 i (by omega), ro i hi]
              cases hd : dfs c f n (U ||| 2 ^ y) (s || decide (c v y = 2)) y with
              | none =>
                rw [if_pos (show bI (Option.isSome (none : Option (List Nat))) = 0 from rfl)]
                exact skip (by rw [if_neg nn, hd]; rfl) H2 o2 (F1.trans F2)
              | some l =>
                rw [if_neg (show ¬ bI (Option.isSome (some l)) = 0 from show ¬ bI true = 0 by decide)]
                have es : sc (fun y => if U.testBit y = true ∨ c v y = 0 then none else (dfs c f n (U ||| 2 ^ y) (s || decide (c v y = 2)) y).map (List.cons y)) (k + 1) y = some (y :: l) := by
                  rw [sc_s, if_neg nn, hd]
                  rfl
                rw [es]
                refine ⟨h2, R2, rfl, H2, ⟨o2, fun l' e t ht => ?_⟩, F1.trans F2⟩
                cases e
                cases t with
                | zero =>
                  rw [Nat.add_zero, W2.1 a (by omega), pk_us]
                  rfl
                | succ t =>
                  have := W2.2 l hd t (by omega)
                  rw [show a + (t + 1) = a + 1 + t by omega, this]
                  rfl
            unfold f_K_closesFrom_133
            cases s with
            | true =>
              rw [if_neg (show ¬ bI true = 0 by decide)]
              exact go true (Bool.true_or _).symm
            | false =>
              rw [if_pos (show bI false = 0 from rfl)]
              by_cases d : c v y = 2
              · rw [if_pos (show nI (c v y) = (2 : Int32) by rw [d]; rfl)]
                exact go true (by rw [decide_eq_true d]; rfl)
              · rw [if_neg (show ¬ nI (c v y) = (2 : Int32) from fun e => d ((nI_eq (by omega) (by decide)).mp e))]
                exact go false (by rw [decide_eq_false d]; rfl)
    have fuq : FU - (8 - (f + 1)) - 1 + (8 - (f + 1)) + 1 = FU := by unfold FU; omega
    obtain ⟨h', R', E, H', W', F'⟩ := loop (8 - (f + 1)) (FU - (8 - (f + 1)) - 1) (f + 1) h R (by omega) H h0 hv1
    rw [fuq] at E
    refine ⟨h', R', ?_, H', W', F'⟩
    show t_K_closesFrom _ _ _ _ _ _ _ = _
    unfold t_K_closesFrom
    have ap : nI a - 1 = nI (a - 1) := by
      obtain ⟨t, rfl⟩ : ∃ t, a = t + 1 := ⟨a - 1, by omega⟩
      rw [nI_pred]
      rfl
    rw [if_pos H.o.1, ap, K_year H (by omega), Option.bind_some, if_neg (nI_ge (by omega) (by omega)), if_pos (show nI a < (8 : Int32) from nI_lt (b := 8) a8 (by decide)), hv1, show (0 : Int32) = nI 0 from rfl, K_year H (by omega), Option.bind_some, h0, nI_1]
    exact E
/-- what findRing leaves -/
def RgD (R' : Nat → Int32) (d : Option (Nat × Nat × List Nat)) : Prop := ∀ t, d = some t → R' 0 = nI t.2.1 ∧ ∀ i, i < t.1 - 1 → R' (1 + i) = nI (t.2.2.getD i 0)
def rgI (d : Option (Nat × Nat × List Nat)) : Int32 := match d with
  | none => 0
  | some t => nI t.1
theorem K_r15 (hA : CA A c) (c2 : ∀ i j, c i j ≤ 2) {L : Nat} (hL : L ≤ 8) (hL2 : 2 ≤ L) (k7 : Int32 → Hp → Option (Int32 × Hp)) : ∀ (k fu y : Nat) (h : Hp) (R : Nat → Int32), y + k = 8 → KW h S p q A R G → (∃ t h' R', sc (fun y => (dfs c y (L - 1) (2 ^ y) false y).map fun l => (L, y, l)) k y = some t ∧ f_K_findRing_24 (S + 53) k7 (fu + k + 1) (nI L) (nI y) h = some (nI t.1, h') ∧ KW h' S p q A R' G ∧ RgD R' (some t) ∧ KF h h' S) ∨ (sc (fun y => (dfs c y (L - 1) (2 ^ y) false y).map fun l => (L, y, l)) k y = none ∧ ∃ h' R', f_K_findRing_24 (S + 53) k7 (fu + k + 1) (nI L) (nI y) h = k7 (nI (L + 1)) h' ∧ KW h' S p q A R' G ∧ KF h h' S) := by
  intro k
  induction k with
  | zero =>
    intro fu y h R hy H
    have e : y = 8 := by omega
    subst e
    refine Or.inr ⟨rfl, h, R, ?_, H, fun _ _ => rfl⟩
    show t_K_findRing_24 _ _ _ _ _ _ = _
    unfold t_K_findRing_24
    rw [if_pos (by decide), nI_1]
  | succ k ih =>
    intro fu y h R hy H
    have y8 : y < 8 := by omega
    obtain ⟨E1, H1⟩ := K_setYear H (show 0 < 8 by decide) (nI y)
    have U2 : 2 ^ y < 256 := Nat.pow_lt_pow_right (n := 8) (by decide) y8
    obtain ⟨h2, R2, E2, H2, W2, F2⟩ := K_closes hA c2 y8 hL (L - 1) 12 1 (2 ^ y) false y _ _ (by omega) (by omega) (by omega) y8 U2 H1 pk_us pk_us
    have F1 : KF h (hup h (S + 55) (.inl (0, 8, .inl (upd R 0 (nI y))))) S := fun c hc => hup_n (by omega)
    have start : f_K_findRing_24 (S + 53) k7 (fu + (k + 1) + 1) (nI L) (nI y) h = if bI (dfs c y (L - 1) (2 ^ y) false y).isSome = 0 then f_K_findRing_24 (S + 53) k7 (fu + k + 1) (nI L) (nI (y + 1)) h2 else some (nI L, h2) := by
      show t_K_findRing_24 _ _ (f_K_findRing_24 (S + 53) k7 (fu + k + 1)) _ _ _ = _
      unfold t_K_findRing_24
      rw [if_neg (show ¬ (8 : Int32) ≤ nI y from nI_ge (b := 8) y8 (by decide)), show f_K_setYearInRing (S + 53) (0 : Int32) (nI y) h = _ from E1, Option.bind_some, sh_8 y y8, show f_K_closesFrom 12 (S + 53) (1 : Int32) (nI L) (nI (2 ^ y)) (0 : Int32) _ = _ from E2, zb2_s, nI_1]
    rw [start, sc_s]
    cases hd : dfs c y (L - 1) (2 ^ y) false y with
    | none =>
      rw [if_pos (show bI (Option.isSome (none : Option (List Nat))) = 0 from rfl)]
      rcases ih fu (y + 1) h2 R2 (by omega) H2 with ⟨t, h', R', a1, a2, a3, a4, a5⟩ | ⟨a1, h', R', a2, a3, a4⟩
      · exact Or.inl ⟨t, h', R', a1, a2, a3, a4, (F1.trans F2).trans a5⟩
      · exact Or.inr ⟨a1, h', R', a2, a3, (F1.trans F2).trans a4⟩
    | some l =>
      rw [if_neg (show ¬ bI (Option.isSome (some l)) = 0 from show ¬ bI true = 0 by decide)]
      refine Or.inl ⟨(L, y, l), h2, R2, rfl, rfl, H2, fun t e => ?_, F1.trans F2⟩
      cases e
      refine ⟨by rw [W2.1 0 (by omega), pk_us], fun i hi => ?_⟩
      exact W2.2 l hd i hi
theorem K_r7 (hA : CA A c) (c2 : ∀ i j, c i j ≤ 2) : ∀ (k fu L : Nat) (h : Hp) (R : Nat → Int32), L + k = 9 → 2 ≤ L → KW h S p q A R G → ∃ h' R', f_K_findRing_16 (S + 53) (fu + k + 1) (nI L) h = some (rgI (sc (fun k => sc (fun y => (dfs c y (k - 1) (2 ^ y) false y).map fun l => (k, y, l)) 8 0) k L), h') ∧ KW h' S p q A R' G ∧ RgD R' (sc (fun k => sc (fun y => (dfs c y (k - 1) (2 ^ y) false y).map fun l => (k, y, l)) 8 0) k L) ∧ KF h h' S := by
  intro k
  induction k with
  | zero =>
    intro fu L h R hL hL2 H
    have e : L = 9 := by omega
    subst e
    refine ⟨h, R, ?_, H, fun t e => (by cases e), fun _ _ => rfl⟩
    show t_K_findRing_16 _ _ _ _ = _
    unfold t_K_findRing_16
    rw [if_pos (by decide)]
    rfl
  | succ k ih =>
    intro fu L h R hL hL2 H
    have start : f_K_findRing_16 (S + 53) (fu + (k + 1) + 1) (nI L) h = f_K_findRing_24 (S + 53) (f_K_findRing_16 (S + 53) (fu + k + 1)) (FU - 9 + 8 + 1) (nI L) (nI 0) h := by
      show t_K_findRing_16 _ (f_K_findRing_16 (S + 53) (fu + k + 1)) _ _ = _
      unfold t_K_findRing_16
      rw [if_neg (show ¬ (8 : Int32) < nI L from nI_nlt (a := 8) (by omega) (by decide))]
      rfl
    rw [start, sc_s (f := fun k => sc (fun y => (dfs c y (k - 1) (2 ^ y) false y).map fun l => (k, y, l)) 8 0) (k := k) (i := L)]
    rcases K_r15 hA c2 (show L ≤ 8 by omega) hL2 (f_K_findRing_16 (S + 53) (fu + k + 1)) 8 (FU - 9) 0 h R rfl H with ⟨t, h', R', a1, a2, a3, a4, a5⟩ | ⟨a1, h', R', a2, a3, a4⟩
    · rw [a1]
      exact ⟨h', R', a2, a3, a4, a5⟩
    · rw [a1, a2]
      obtain ⟨h2, R2, b1, b2, b3, b4⟩ := ih fu (L + 1) h' R' (by omega) (by omega) a3
      exact ⟨h2, R2, b1, b2, b3, a4.trans b4⟩
end
