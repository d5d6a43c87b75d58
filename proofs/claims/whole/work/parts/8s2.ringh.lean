/-! ===== the ring: whether there is one, as the class asks it first ===== -/
theorem rgM_b {c : Nat → Nat → Nat} {t : Nat × Nat} (h : rgM c = some t) : 2 ≤ t.1 ∧ t.1 ≤ 8 ∧ t.2 < 8 ∧ ws c t.1 t.2 t.2 = true := by
  obtain ⟨k, h1, h2, h3⟩ := sc_some 7 2 h
  obtain ⟨y, h4, h5, h6⟩ := sc_some 8 0 h3
  split at h6
  · rename_i d
    cases h6
    exact ⟨h1, show k ≤ 8 by omega, show y < 8 by omega, d⟩
  · cases h6
section
variable {c : Nat → Nat → Nat}
/-- a sure step of a walk -/
theorem Wf_sure : ∀ (n : Nat) {y z : Nat}, y < 8 → Wf c n y z true → ∃ u v a b s1 s2, u < 8 ∧ v < 8 ∧ eg c u v = 2 ∧ Wf c a y u s1 ∧ Wf c b v z s2 := by
  intro n
  induction n with
  | zero =>
    rintro y z _ ⟨-, e⟩
    cases e
  | succ n ih =>
    rintro y z hy ⟨x, s', hx, he, hw, e⟩
    by_cases d : eg c y x = 2
    · exact ⟨y, x, 0, n, false, s', hy, hx, d, ⟨rfl, rfl⟩, hw⟩
    · rw [decide_eq_false d, Bool.false_or] at e
      subst e
      obtain ⟨u, v, a, b, s1, s2, h1, h2, h3, h4, h5⟩ := ih hx hw
      exact ⟨u, v, a + 1, b, _, s2, h1, h2, h3, ⟨x, s1, hx, he, h4, rfl⟩, h5⟩
theorem Wf_wk : ∀ (n : Nat) {y z : Nat} {s : Bool}, Wf c n y z s → wk c n y z = true := by
  intro n
  induction n with
  | zero =>
    rintro y z s ⟨e, -⟩
    exact decide_eq_true e
  | succ n ih =>
    rintro y z s ⟨x, s', hx, he, hw, -⟩
    exact wk_s.mpr ⟨x, hx, he, ih hw⟩
/-- where no year is surely ahead of one that leads back to it there is no ring -/
theorem rgC_none (c2 : ∀ i j, c i j ≤ 2) (H : ∀ y z, y < 8 → z < 8 → rch c y 8 z = true → c y z ≠ 2) : rgC c = none := by
  rw [ring_eq c2]
  cases h : rgM c with
  | none => rfl
  | some t =>
    obtain ⟨-, -, y8, hw⟩ := rgM_b h
    obtain ⟨s', w, e⟩ := (sw_W t.1 false t.2 t.2).mp (by rw [sw_f]; exact hw)
    rw [Bool.false_or] at e
    subst e
    obtain ⟨u, v, a, b, s1, s2, hu, hv, huv, w1, w2⟩ := Wf_sure t.1 y8 w
    obtain ⟨j, hj, e2⟩ := rch_t.mp (rch_all hu (b + a) v hv (Wf_wk (b + a) (Wf_cat b w2 w1)))
    have cuv : c u v = 2 := by
      unfold eg at huv
      split at huv
      · omega
      · exact huv
    exact absurd cuv (H u v hu hv (rch_t.mpr ⟨j, by omega, e2⟩))
end
section
variable {S : Nat} {p q : Nat → Nat} {A R : Nat → Int32} {c : Nat → Nat → Nat}
theorem K_findAsGood (hA : CA A c) (c2 : ∀ i j, c i j ≤ 2) {a : Nat} (ha : a < 8) {h : Hp} {G : Nat → Int32} (H : KW h S p q A R G) : ∃ h' G', f_K_findAsGood (S + 53) (nI a) h = some h' ∧ KW h' S p q A R G' ∧ GB G' (rch c a 8) ∧ KF h h' S := by
  obtain ⟨h2, G2, E2, H2, B2, F2⟩ := K_g2 (S := S) ha 8 (FU - 9) 0 h G rfl H (fun j hj => absurd hj (by omega))
  obtain ⟨h3, G3, E3, H3, B3, F3⟩ := K_g35 hA c2 7 (FU - 8) 1 h2 G2 _ rfl H2 B2
  refine ⟨h3, G3, ?_, H3, fun x hx => by rw [B3 x hx, gal_eq ha hx], F2.trans F3⟩
  unfold f_K_findAsGood
  rw [if_pos H.o.1, show f_K_findAsGood_2 (S + 53) FU (nI a) (0 : Int32) h = _ from E2]
  exact E3
theorem K_h15 (hA : CA A c) (c2 : ∀ i j, c i j ≤ 2) {y : Nat} (hy : y < 8) {h : Hp} {G : Nat → Int32} (H : KW h S p q A R G) (B : GB G (rch c y 8)) (k2 : Int32 → Hp → Option (Int32 × Hp)) : ∀ (k f z : Nat), z + k = 8 → f_K_hasRing_15 (S + 53) k2 (f + k + 1) (nI y) (nI z) h = some ((1 : Int32), h) ∨ ((∀ z', z ≤ z' → z' < 8 → rch c y 8 z' = true → c y z' ≠ 2) ∧ f_K_hasRing_15 (S + 53) k2 (f + k + 1) (nI y) (nI z) h = k2 (nI (y + 1)) h) := by
  obtain ⟨o, g0, g1, g2, g3⟩ := H.o
  intro k
  induction k with
  | zero =>
    intro f z hz
    have e : z = 8 := by omega
    subst e
    refine Or.inr ⟨fun z' h1 h2 => absurd h2 (by omega), ?_⟩
    show t_K_hasRing_15 _ _ _ _ _ _ = _
    unfold t_K_hasRing_15
    rw [g3, Option.bind_some, Option.bind_some, an_any H.2.2.2.1 (by decide), Option.bind_some, if_pos (by decide), nI_1]
  | succ k ih =>
    intro f z hz
    have z8 : z < 8 := by omega
    have cl := c2 y z
    have skip : (rch c y 8 z = true → c y z ≠ 2) → f_K_hasRing_15 (S + 53) k2 (f + (k + 1) + 1) (nI y) (nI z) h = f_K_hasRing_15 (S + 53) k2 (f + k + 1) (nI y) (nI (z + 1)) h → f_K_hasRing_15 (S + 53) k2 (f + (k + 1) + 1) (nI y) (nI z) h = some ((1 : Int32), h) ∨ ((∀ z', z ≤ z' → z' < 8 → rch c y 8 z' = true → c y z' ≠ 2) ∧ f_K_hasRing_15 (S + 53) k2 (f + (k + 1) + 1) (nI y) (nI z) h = k2 (nI (y + 1)) h) := by
      intro h0 e
      rw [e]
      rcases ih f (z + 1) (by omega) with h1 | ⟨h1, h2⟩
      · exact Or.inl h1
      · refine Or.inr ⟨fun z' a1 a2 => ?_, h2⟩
        by_cases d : z' = z
        · rw [d]; exact h0
        · exact h1 z' (by omega) a2
    have start : f_K_hasRing_15 (S + 53) k2 (f + (k + 1) + 1) (nI y) (nI z) h = if bI (rch c y 8 z) = 0 then f_K_hasRing_15 (S + 53) k2 (f + k + 1) (nI y) (nI (z + 1)) h else if nI (c y z) = (2 : Int32) then some ((1 : Int32), h) else f_K_hasRing_15 (S + 53) k2 (f + k + 1) (nI y) (nI (z + 1)) h := by
      show t_K_hasRing_15 _ _ (f_K_hasRing_15 (S + 53) k2 (f + k + 1)) _ _ _ = _
      unfold t_K_hasRing_15 f_K_hasRing_45
      rw [g3]
      simp only [Option.bind_some]
      rw [an_any H.2.2.2.1 (by decide)]
      simp only [Option.bind_some]
      rw [if_neg (nI_ge z8 (by decide)), ai_get H.2.2.2.1 z8 (by decide), B z z8]
      simp only [Option.bind_some]
      rw [K_choiceAt H hA hy z8]
      simp only [Option.bind_some]
      rw [nI_1]
    cases hr : rch c y 8 z with
    | false =>
      rw [hr, if_pos (show bI false = 0 from rfl)] at start
      exact skip (fun e => by rw [hr] at e; cases e) start
    | true =>
      rw [hr, if_neg (show ¬ bI true = 0 by decide)] at start
      by_cases d : c y z = 2
      · rw [if_pos (show nI (c y z) = (2 : Int32) by rw [d]; rfl)] at start
        exact Or.inl start
      · rw [if_neg (show ¬ nI (c y z) = (2 : Int32) from fun e => d ((nI_eq (by omega) (by decide)).mp e))] at start
        exact skip (fun _ => d) start
theorem K_h2 (hA : CA A c) (c2 : ∀ i j, c i j ≤ 2) : ∀ (k f y : Nat) (h : Hp) (G : Nat → Int32), y + k = 8 → KW h S p q A R G → ∃ t h' G', f_K_hasRing_2 (S + 53) (f + k + 1) (nI y) h = some (bI t, h') ∧ KW h' S p q A R G' ∧ KF h h' S ∧ (t = false → ∀ y' z', y ≤ y' → y' < 8 → z' < 8 → rch c y' 8 z' = true → c y' z' ≠ 2) := by
  intro k
  induction k with
  | zero =>
    intro f y h G hy H
    have e : y = 8 := by omega
    subst e
    refine ⟨false, h, G, ?_, H, fun _ _ => rfl, fun _ y' z' h1 h2 => absurd h2 (by omega)⟩
    show t_K_hasRing_2 _ _ _ _ = _
    unfold t_K_hasRing_2
    rw [if_pos (by decide)]
    rfl
  | succ k ih =>
    intro f y h G hy H
    have y8 : y < 8 := by omega
    obtain ⟨h1, G1, E1, H1, B1, F1⟩ := K_findAsGood hA c2 y8 H
    have start : f_K_hasRing_2 (S + 53) (f + (k + 1) + 1) (nI y) h = f_K_hasRing_15 (S + 53) (f_K_hasRing_2 (S + 53) (f + k + 1)) (FU - 9 + 8 + 1) (nI y) (nI 0) h1 := by
      show t_K_hasRing_2 _ (f_K_hasRing_2 (S + 53) (f + k + 1)) _ _ = _
      unfold t_K_hasRing_2
      rw [if_neg (show ¬ (8 : Int32) ≤ nI y from nI_ge (b := 8) y8 (by decide)), E1, Option.bind_some]
      rfl
    rw [start]
    rcases K_h15 hA c2 y8 H1 B1 (f_K_hasRing_2 (S + 53) (f + k + 1)) 8 (FU - 9) 0 rfl with e | ⟨no, e⟩
    · exact ⟨true, h1, G1, e, H1, F1, fun x => by cases x⟩
    · obtain ⟨t, h2, G2, E2, H2, F2, N2⟩ := ih f (y + 1) h1 G1 (by omega) H1
      refine ⟨t, h2, G2, e.trans E2, H2, F1.trans F2, fun ht y' z' a1 a2 a3 => ?_⟩
      by_cases d : y' = y
      · rw [d]; exact no z' (by omega) a3
      · exact N2 ht y' z' (by omega) a2 a3
end
theorem K_findRing2 {h : Hp} {S w : Nat} {p q : Nat → Nat} {A R G : Nat → Int32} (H : KW h S p q A R G) (hw : w < 4) {c : Nat → Nat → Nat} (hc : ∀ i j, i < 8 → j < 8 → chc p (amq q w) i j = c i j) (c2 : ∀ i j, c i j ≤ 2) : ∃ h' A' R' G', f_K_findRing (S + 53) (nI w) h = some (rgI (rgC c), h') ∧ KW h' S p q A' R' G' ∧ RgD R' (rgC c) ∧ KF h h' S := by
  obtain ⟨h1, A1, E1, H1, CA1, F1⟩ := K_chooseAll H hw
  have CA2 : CA A1 c := fun i j hi hj => by rw [CA1 i j hi hj, hc i j hi hj]
  obtain ⟨t, h2, G2, E2, H2, F2, N2⟩ := K_h2 CA2 c2 8 (FU - 9) 0 h1 G rfl H1
  have E2 : f_K_hasRing (S + 53) h1 = some (bI t, h2) := by
    unfold f_K_hasRing
    rw [if_pos H1.o.1]
    exact E2
  unfold f_K_findRing
  rw [if_pos H.o.1, E1, Option.bind_some, E2, zb2_s]
  cases t with
  | false =>
    rw [if_pos (show bI false = 0 from rfl), rgC_none c2 (fun y z a1 a2 => N2 rfl y z (Nat.zero_le _) a1 a2)]
    exact ⟨h2, A1, R, G2, rfl, H2, fun t e => (by cases e), F1.trans F2⟩
  | true =>
    rw [if_neg (show ¬ bI true = 0 by decide)]
    obtain ⟨h3, R3, E3, H3, W3, F3⟩ := K_r7 CA2 c2 7 (FU - 8) 2 h2 R rfl (by omega) H2
    exact ⟨h3, A1, R3, G2, E3, H3, W3, (F1.trans F2).trans F3⟩
