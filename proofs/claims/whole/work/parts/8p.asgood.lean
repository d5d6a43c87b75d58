/-! ===== likes: as good, the class's rows; the cheapest ===== -/
def GB (G : Nat → Int32) (g : Nat → Bool) : Prop := ∀ x, x < 8 → G x = bI (g x)
section
variable {S w : Nat} {p q : Nat → Nat} {A R : Nat → Int32} {c : Nat → Nat → Nat}
/-- as good, x on its way through the first years -/
def gz (c : Nat → Nat → Nat) (g : Nat → Bool) (x z : Nat) : Nat → Bool := fun j => if j = x then g x || anyb (fun z => g z && decide (0 < c x z)) z else g j
theorem K_g55 (hA : CA A c) (c2 : ∀ i j, c i j ≤ 2) {g : Nat → Bool} {x : Nat} (hx : x < 8) (x2 : Int32) (k35 : Int32 → Hp → Option Hp) (k43 : Int32 → Int32 → Hp → Option Hp) : ∀ (k f z : Nat) (h : Hp) (G : Nat → Int32), z + k = 8 → KW h S p q A R G → GB G (gz c g x z) → ∃ h' G', f_K_findAsGood_55 (S + 53) k35 k43 (f + k + 1) x2 (nI x) (nI z) h = k43 x2 (nI (x + 1)) h' ∧ KW h' S p q A R G' ∧ GB G' (gsx c g x) ∧ KF h h' S := by
  intro k
  induction k with
  | zero =>
    intro f z h G hz H B
    have e : z = 8 := by omega
    subst e
    obtain ⟨o, g0, g1, g2, g3⟩ := H.o
    refine ⟨h, G, ?_, H, B, fun _ _ => rfl⟩
    show t_K_findAsGood_55 _ _ _ _ _ _ _ _ = _
    unfold t_K_findAsGood_55
    rw [g3, Option.bind_some, Option.bind_some, an_any H.2.2.2.1 (by decide), Option.bind_some, if_pos (by decide)]
    unfold f_K_findAsGood_111
    rw [nI_1]
  | succ k ih =>
    intro f z h G hz H B
    have z8 : z < 8 := by omega
    obtain ⟨o, g0, g1, g2, g3⟩ := H.o
    have rx : aI h 2 (S + 56) (nI x) = some (bI (gz c g x z x)) := by rw [ai_get H.2.2.2.1 hx (by decide), B x hx]
    have rz : aI h 2 (S + 56) (nI z) = some (bI (gz c g x z z)) := by rw [ai_get H.2.2.2.1 z8 (by decide), B z z8]
    show ∃ h' G', t_K_findAsGood_55 _ _ _ (f_K_findAsGood_55 (S + 53) k35 k43 (f + k + 1)) _ _ _ _ = _ ∧ _
    unfold t_K_findAsGood_55
    rw [g3]
    simp only [Option.bind_some]
    rw [an_any H.2.2.2.1 (by decide)]
    simp only [Option.bind_some]
    rw [if_neg (nI_ge z8 (by decide)), rx]
    simp only [Option.bind_some]
    have e1 : gz c g x z x = (g x || anyb (fun z => g z && decide (0 < c x z)) z) := by unfold gz; rw [if_pos rfl]
    cases hv : gz c g x z x with
    | true =>
      rw [if_neg (show ¬ bI true = 0 by decide)]
      refine ⟨h, G, ?_, H, fun j hj => ?_, fun _ _ => rfl⟩
      · unfold f_K_findAsGood_111
        rw [nI_1]
      · rw [B j hj]
        unfold gz gsx
        by_cases d : j = x
        · subst d
          rw [if_pos rfl, if_pos rfl]
          rw [e1] at hv
          rw [hv]
          congr 1
          symm
          rw [Bool.or_eq_true] at hv ⊢
          rcases hv with hv | hv
          · exact Or.inl hv
          · obtain ⟨y, hy, e⟩ := anyb_t.mp hv
            exact Or.inr (anyb_t.mpr ⟨y, by omega, e⟩)
        · rw [if_neg d, if_neg d]
    | false =>
      rw [if_pos (show bI false = 0 from rfl), rz]
      simp only [Option.bind_some]
      rw [e1, Bool.or_eq_false_iff] at hv
      have ez : gz c g x z z = g z := by
        unfold gz
        by_cases d : z = x
        · subst d; rw [if_pos rfl, hv.1, hv.2]; rfl
        · rw [if_neg d]
      rw [ez]
      have st : ∀ t : Bool, t = (g z && decide (0 < c x z)) → ∃ h' G', f_K_findAsGood_104 (S + 53) k35 k43 (f_K_findAsGood_55 (S + 53) k35 k43 (f + k + 1)) (S + 56) (nI x) (bI t) x2 (nI x) (nI z) h = k43 x2 (nI (x + 1)) h' ∧ KW h' S p q A R G' ∧ GB G' (gsx c g x) ∧ KF h h' S := by
        rintro t rfl
        obtain ⟨E, H1⟩ := H.g (k := x) hx (g z && decide (0 < c x z))
        obtain ⟨h', G', Q1, Q2, Q3, Q4⟩ := ih f (z + 1) _ _ (by omega) H1 (fun j hj => by
          by_cases d : j = x
          · subst d
            rw [pk_us]
            unfold gz
            rw [if_pos rfl, hv.1, Bool.false_or]
            show _ = bI (anyb _ z || (g z && decide (0 < c j z)))
            rw [hv.2, Bool.false_or]
          · rw [pk_un d, B j hj]
            unfold gz
            rw [if_neg d, if_neg d])
        refine ⟨h', G', ?_, Q2, Q3, fun c hc => by rw [Q4 c hc, hup_n (by omega)]⟩
        rw [← Q1]
        unfold f_K_findAsGood_104
        rw [E, Option.bind_some, nI_1]
      unfold f_K_findAsGood_103
      cases hg : g z with
      | false =>
        rw [if_pos (show bI false = 0 from rfl)]
        exact st false (by rw [hg]; rfl)
      | true =>
        rw [if_neg (show ¬ bI true = 0 by decide), K_choiceAt H hA hx z8]
        simp only [Option.bind_some]
        have := c2 x z
        by_cases d : c x z = 0
        · rw [if_pos ((nI_le0 (by omega)).mpr d)]
          exact st false (by rw [hg, d]; rfl)
        · rw [if_neg (fun e => d ((nI_le0 (by omega)).mp e))]
          exact st true (by rw [hg, decide_eq_true (by omega : 0 < c x z)]; rfl)
theorem K_g43 (hA : CA A c) (c2 : ∀ i j, c i j ≤ 2) (x2 : Int32) (k35 : Int32 → Hp → Option Hp) : ∀ (k f x : Nat) (h : Hp) (G : Nat → Int32) (g : Nat → Bool), x + k = 8 → KW h S p q A R G → GB G g → ∃ h' G', f_K_findAsGood_43 (S + 53) k35 (f + k + 1) x2 (nI x) h = k35 (x2 + 1) h' ∧ KW h' S p q A R G' ∧ GB G' (grd c g k x) ∧ KF h h' S := by
  intro k
  induction k with
  | zero =>
    intro f x h G g hx H B
    have e : x = 8 := by omega
    subst e
    obtain ⟨o, g0, g1, g2, g3⟩ := H.o
    refine ⟨h, G, ?_, H, B, fun _ _ => rfl⟩
    show t_K_findAsGood_43 _ _ _ _ _ _ = _
    unfold t_K_findAsGood_43
    rw [g3, Option.bind_some, Option.bind_some, an_any H.2.2.2.1 (by decide), Option.bind_some, if_pos (by decide)]
  | succ k ih =>
    intro f x h G g hx H B
    have x8 : x < 8 := by omega
    obtain ⟨o, g0, g1, g2, g3⟩ := H.o
    obtain ⟨h1, G1, E1, H1, B1, F1⟩ := K_g55 hA c2 (g := g) x8 x2 k35 (f_K_findAsGood_43 (S + 53) k35 (f + k + 1)) 8 (FU - 9) 0 h G rfl H (fun j hj => by
      rw [B j hj]
      unfold gz
      by_cases d : j = x
      · subst d; rw [if_pos rfl]; show bI (g j) = bI (g j || false); rw [Bool.or_false]
      · rw [if_neg d])
    obtain ⟨h', G', Q1, Q2, Q3, Q4⟩ := ih f (x + 1) h1 G1 (gsx c g x) (by omega) H1 B1
    refine ⟨h', G', ?_, Q2, Q3, F1.trans Q4⟩
    rw [← Q1, ← E1]
    show t_K_findAsGood_43 _ _ (f_K_findAsGood_43 (S + 53) k35 (f + k + 1)) _ _ _ = _
    unfold t_K_findAsGood_43
    rw [g3, Option.bind_some, Option.bind_some, an_any H.2.2.2.1 (by decide), Option.bind_some, if_neg (nI_ge x8 (by decide))]
    rfl
theorem K_g35 (hA : CA A c) (c2 : ∀ i j, c i j ≤ 2) : ∀ (k f r : Nat) (h : Hp) (G : Nat → Int32) (g : Nat → Bool), r + k = 8 → KW h S p q A R G → GB G g → ∃ h' G', f_K_findAsGood_35 (S + 53) (f + k + 1) (nI r) h = some h' ∧ KW h' S p q A R G' ∧ GB G' (gal c g k) ∧ KF h h' S := by
  intro k
  induction k with
  | zero =>
    intro f r h G g hr H B
    have e : r = 8 := by omega
    subst e
    refine ⟨h, G, ?_, H, B, fun _ _ => rfl⟩
    show t_K_findAsGood_35 _ _ _ _ = _
    unfold t_K_findAsGood_35
    rw [if_pos (by decide)]
  | succ k ih =>
    intro f r h G g hr H B
    obtain ⟨h1, G1, E1, H1, B1, F1⟩ := K_g43 hA c2 (nI r) (f_K_findAsGood_35 (S + 53) (f + k + 1)) 8 (FU - 9) 0 h G g rfl H B
    obtain ⟨h', G', Q1, Q2, Q3, Q4⟩ := ih f (r + 1) h1 G1 _ (by omega) H1 B1
    refine ⟨h', G', ?_, Q2, Q3, F1.trans Q4⟩
    rw [← Q1, ← nI_1, ← E1]
    show t_K_findAsGood_35 _ (f_K_findAsGood_35 (S + 53) (f + k + 1)) _ _ = _
    unfold t_K_findAsGood_35
    rw [if_neg (show ¬ (8 : Int32) ≤ nI r from nI_ge (b := 8) (by omega) (by decide))]
    rfl
theorem K_g2 {a : Nat} (ha : a < 8) : ∀ (k f x : Nat) (h : Hp) (G : Nat → Int32), x + k = 8 → KW h S p q A R G → (∀ j, j < x → G j = bI (decide (j = a))) → ∃ h' G', f_K_findAsGood_2 (S + 53) (f + k + 1) (nI a) (nI x) h = f_K_findAsGood_35 (S + 53) FU 1 h' ∧ KW h' S p q A R G' ∧ GB G' (fun x => decide (x = a)) ∧ KF h h' S := by
  intro k
  induction k with
  | zero =>
    intro f x h G hx H B
    have e : x = 8 := by omega
    subst e
    obtain ⟨o, g0, g1, g2, g3⟩ := H.o
    refine ⟨h, G, ?_, H, B, fun _ _ => rfl⟩
    show t_K_findAsGood_2 _ _ _ _ _ = _
    unfold t_K_findAsGood_2
    rw [g3, Option.bind_some, Option.bind_some, an_any H.2.2.2.1 (by decide), Option.bind_some, if_pos (by decide)]
  | succ k ih =>
    intro f x h G hx H B
    have x8 : x < 8 := by omega
    obtain ⟨o, g0, g1, g2, g3⟩ := H.o
    obtain ⟨E, H1⟩ := H.g (k := x) x8 (decide (x = a))
    obtain ⟨h', G', Q1, Q2, Q3, Q4⟩ := ih f (x + 1) _ _ (by omega) H1 (fun j hj => by
      by_cases d : j = x
      · subst d; exact pk_us
      · rw [pk_un d]; exact B j (by omega))
    refine ⟨h', G', ?_, Q2, Q3, fun c hc => by rw [Q4 c hc, hup_n (by omega)]⟩
    rw [← Q1]
    show t_K_findAsGood_2 _ (f_K_findAsGood_2 (S + 53) (f + k + 1)) _ _ _ = _
    unfold t_K_findAsGood_2 f_K_findAsGood_26
    rw [g3]
    simp only [Option.bind_some]
    rw [an_any H.2.2.2.1 (by decide)]
    simp only [Option.bind_some]
    rw [if_neg (nI_ge x8 (by decide))]
    by_cases d : x = a
    · rw [decide_eq_true d] at E ⊢
      rw [if_pos (show nI x = nI a by rw [d]), show (1 : Int32) = bI true from rfl, E, Option.bind_some]
      show f_K_findAsGood_2 (S + 53) (f + k + 1) (nI a) (nI x + 1) _ = _
      rw [nI_1]
    · rw [decide_eq_false d] at E ⊢
      rw [if_neg (fun e => d ((nI_eq (by omega) (by omega)).mp e)), show (0 : Int32) = bI false from rfl, E, Option.bind_some, nI_1]
/-- the cheapest basket among some years -/
abbrev Ck : Type := Option (Nat × Nat)
def cks (cost : Nat → Option Nat) (x : Nat) (st : Ck) : Ck := match cost x with
  | none => st
  | some u => match st with
    | none => some (x, u)
    | some y => if u < y.2 then some (x, u) else some y
def ckf (g : Nat → Bool) (cost : Nat → Option Nat) : Nat → Nat → Ck → Ck
  | 0, _, st => st
  | k + 1, x, st => ckf g cost k (x + 1) (if g x then cks cost x st else st)
def ckI (st : Ck) : Int32 := match st with
  | some y => nI y.1
  | none => -1
def ckL (d : Int32) (st : Ck) : Int32 := match st with
  | some y => nI y.2
  | none => d
def ckok (cost : Nat → Option Nat) (st : Ck) : Prop := ∀ y, st = some y → y.1 < 8 ∧ cost y.1 = some y.2 ∧ y.2 ≤ 53460
theorem cks_ok {cost : Nat → Option Nat} (hc : ∀ x u, x < 8 → cost x = some u → u ≤ 53460) {x : Nat} (hx : x < 8) {st : Ck} (h : ckok cost st) : ckok cost (cks cost x st) := by
  unfold cks
  cases hv : cost x with
  | none => exact h
  | some u =>
    cases st with
    | none => intro y e; cases e; exact ⟨hx, hv, hc x u hx hv⟩
    | some y =>
      dsimp only
      split
      · intro z e; cases e; exact ⟨hx, hv, hc x u hx hv⟩
      · exact h
theorem ckf_ok {g : Nat → Bool} {cost : Nat → Option Nat} (hc : ∀ x u, x < 8 → cost x = some u → u ≤ 53460) : ∀ (k x : Nat) (st : Ck), x + k ≤ 8 → ckok cost st → ckok cost (ckf g cost k x st) := by
  intro k
  induction k with
  | zero => intro x st _ h; exact h
  | succ k ih =>
    intro x st hx h
    refine ih (x + 1) _ (by omega) ?_
    split
    · exact cks_ok hc (by omega) h
    · exact h
theorem ckf_cong {g g' : Nat → Bool} {cost : Nat → Option Nat} (e : ∀ x, x < 8 → g x = g' x) : ∀ (k x : Nat) (st : Ck), x + k ≤ 8 → ckf g cost k x st = ckf g' cost k x st := by
  intro k
  induction k with
  | zero => intro x st _; rfl
  | succ k ih =>
    intro x st hx
    show ckf g cost k (x + 1) _ = ckf g' cost k (x + 1) _
    rw [e x (by omega), ih _ _ (by omega)]
theorem K_ch (hw : w < 4) {G : Nat → Int32} {g : Nat → Bool} {b : Nat} (hb : b < 8) {h : Hp} (H : KW h S p q A R G) (B : GB G g) : ∀ (k f x : Nat) (st : Ck), x + k = 8 → ckok (fun x => cs0 p (amq q w) b x) st → f_K_cheapestAsGood_19 (S + 53) (f + k + 1) (nI w) (nI b) (ckI st) (ckL (-1) st) (nI x) h = some (ckI (ckf g (fun x => cs0 p (amq q w) b x) k x st), h) := by
  obtain ⟨o, g0, g1, g2, g3⟩ := H.o
  intro k
  induction k with
  | zero =>
    intro f x st hx ok
    have e : x = 8 := by omega
    subst e
    show t_K_cheapestAsGood_19 _ _ _ _ _ _ _ _ = _
    unfold t_K_cheapestAsGood_19
    rw [g3, Option.bind_some, Option.bind_some, an_any H.2.2.2.1 (by decide), Option.bind_some, if_pos (by decide)]
    rfl
  | succ k ih =>
    intro f x st hx ok
    have x8 : x < 8 := by omega
    have hc : ∀ x u, x < 8 → cs0 p (amq q w) b x = some u → u ≤ 53460 := fun x u hx e => H.2.2.2.2.cost_le hw hb hx u e
    have ed : ckf g (fun x => cs0 p (amq q w) b x) (k + 1) x st = ckf g (fun x => cs0 p (amq q w) b x) k (x + 1) (if g x then cks (fun x => cs0 p (amq q w) b x) x st else st) := rfl
    rw [ed]
    have keep : f_K_cheapestAsGood_92 (S + 53) (f_K_cheapestAsGood_19 (S + 53) (f + k + 1)) (nI w) (nI b) (ckI st) (ckL (-1) st) (nI x) h = some (ckI (ckf g (fun x => cs0 p (amq q w) b x) k (x + 1) st), h) := by
      unfold f_K_cheapestAsGood_92
      rw [nI_1]
      exact ih f (x + 1) st (by omega) ok
    show t_K_cheapestAsGood_19 _ (f_K_cheapestAsGood_19 (S + 53) (f + k + 1)) _ _ _ _ _ _ = _
    unfold t_K_cheapestAsGood_19
    rw [g3, Option.bind_some, Option.bind_some, an_any H.2.2.2.1 (by decide), Option.bind_some, if_neg (nI_ge x8 (by decide)), Option.bind_some, Option.bind_some, ai_get H.2.2.2.1 x8 (by decide), B x x8, Option.bind_some]
    unfold f_K_cheapestAsGood_62
    cases hg : g x with
    | false =>
      rw [if_pos (show bI false = 0 from rfl), if_neg (show ¬ false = true by decide)]
      unfold f_K_cheapestAsGood_63
      rw [if_pos rfl]
      exact keep
    | true =>
      rw [if_neg (show ¬ bI true = 0 by decide), if_pos rfl, g0, Option.bind_some]
      simp only [zm]
      rw [Option.bind_some, Option.bind_some, show (31 : Int32) = nI 31 from rfl, B_costOver H.2.2.2.2 hw hb x8 (by decide), Option.bind_some]
      show f_K_cheapestAsGood_63 _ _ (cI (cs0 p (amq q w) b x)) _ _ _ _ _ _ = _
      unfold f_K_cheapestAsGood_63
      have ok' := cks_ok (cost := fun x => cs0 p (amq q w) b x) hc x8 ok
      cases hv : cs0 p (amq q w) b x with
      | none =>
        rw [if_pos (show cI none = (-1 : Int32) from rfl), show cks (fun x => cs0 p (amq q w) b x) x st = st by unfold cks; dsimp only; rw [hv]]
        exact keep
      | some u =>
        have ul := hc x u x8 hv
        rw [if_neg (show ¬ cI (some u) = (-1 : Int32) from nI_m1 (by omega))]
        have new : cks (fun x => cs0 p (amq q w) b x) x st = some (x, u) → f_K_cheapestAsGood_84 (S + 53) (f_K_cheapestAsGood_19 (S + 53) (f + k + 1)) (nI w) (nI b) (nI x) (cI (some u)) h = some (ckI (ckf g (fun x => cs0 p (amq q w) b x) k (x + 1) (cks (fun x => cs0 p (amq q w) b x) x st)), h) := by
          intro e
          rw [e] at ok' ⊢
          unfold f_K_cheapestAsGood_84 f_K_cheapestAsGood_92
          rw [nI_1]
          exact ih f (x + 1) (some (x, u)) (by omega) ok'
        cases st with
        | none =>
          rw [if_pos (show ckI none = (-1 : Int32) from rfl)]
          exact new (by unfold cks; dsimp only; rw [hv])
        | some y =>
          obtain ⟨y8, -, yl⟩ := ok y rfl
          rw [if_neg (show ¬ ckI (some y) = (-1 : Int32) from nI_m1 (by omega))]
          have ec : cks (fun x => cs0 p (amq q w) b x) x (some y) = if u < y.2 then some (x, u) else some y := by unfold cks; dsimp only; rw [hv]
          by_cases d : u < y.2
          · rw [if_neg (show ¬ ckL (-1) (some y) ≤ cI (some u) from nI_ge d (by omega))]
            exact new (by rw [ec, if_pos d])
          · rw [if_pos (show ckL (-1) (some y) ≤ cI (some u) from nI_le (by omega) (by omega)), ec, if_neg d]
            exact keep
theorem K_cheapest {G : Nat → Int32} {h : Hp} (H : KW h S p q A R G) (hw : w < 4) {a b : Nat} (ha : a < 8) (hb : b < 8) : ∃ h' A' G', f_K_cheapestAsGood (S + 53) (nI w) (nI a) (nI b) h = some (ckI (ckf (rch (chc p (amq q w)) a 8) (fun x => cs0 p (amq q w) b x) 8 0 none), h') ∧ KW h' S p q A' R G' ∧ KF h h' S := by
  unfold f_K_cheapestAsGood
  rw [if_pos H.o.1]
  obtain ⟨h1, A1, E1, H1, CA1, F1⟩ := K_chooseAll H hw
  have c2 : ∀ i j, chc p (amq q w) i j ≤ 2 := fun i j => chz_2 _ _
  obtain ⟨h2, G2, E2, H2, B2, F2⟩ := K_g2 (S := S) ha 8 (FU - 9) 0 h1 G rfl H1 (fun j hj => absurd hj (by omega))
  obtain ⟨h3, G3, E3, H3, B3, F3⟩ := K_g35 CA1 c2 7 (FU - 8) 1 h2 G2 _ rfl H2 B2
  rw [E1, Option.bind_some]
  have E23 : f_K_findAsGood (S + 53) (nI a) h1 = some h3 := by
    unfold f_K_findAsGood
    rw [if_pos H1.o.1, show f_K_findAsGood_2 (S + 53) FU (nI a) (0 : Int32) h1 = _ from E2]
    exact E3
  rw [E23, Option.bind_some]
  have := K_ch hw hb H3 B3 8 (FU - 9) 0 none rfl (fun y e => by cases e)
  rw [show f_K_cheapestAsGood_19 (S + 53) FU (nI w) (nI b) (-1 : Int32) (-1 : Int32) (0 : Int32) h3 = _ from this]
  rw [ckf_cong (g' := rch (chc p (amq q w)) a 8) (fun x hx => gal_eq ha hx) 8 0 none (by omega)]
  exact ⟨h3, A1, G3, rfl, H3, (F1.trans F2).trans F3⟩
end
