/-! ===== likes: the class's choices; what is as good ===== -/
def KW (h : Hp) (S : Nat) (p q : Nat → Nat) (A R G : Nat → Int32) : Prop := h (S + 53) = some (.inr (3, [.ref (S + 1), .ref (S + 54), .ref (S + 55), .ref (S + 56)])) ∧ h (S + 54) = some (.inl (0, 64, .inl A)) ∧ h (S + 55) = some (.inl (0, 8, .inl R)) ∧ h (S + 56) = some (.inl (2, 8, .inl G)) ∧ BK h (S + 1) p q
def KF (h h' : Hp) (S : Nat) : Prop := ∀ c, ¬ (S + 54 ≤ c ∧ c < S + 57) → h' c = h c
theorem KF.trans {h h1 h2 : Hp} {S : Nat} (a : KF h h1 S) (b : KF h1 h2 S) : KF h h2 S := fun c x => by rw [b c x, a c x]
/-- the choices are told -/
def CA (A : Nat → Int32) (c : Nat → Nat → Nat) : Prop := ∀ i j, i < 8 → j < 8 → A (i * 8 + j) = nI (c i j)
section
variable {h : Hp} {S w : Nat} {p q : Nat → Nat} {A R G : Nat → Int32}
theorem KW.o (H : KW h S p q A R G) : isO h (S + 53) 3 = true ∧ gA h (S + 53) 3 0 = some (some (S + 1)) ∧ gA h (S + 53) 3 1 = some (some (S + 54)) ∧ gA h (S + 53) 3 2 = some (some (S + 55)) ∧ gA h (S + 53) 3 3 = some (some (S + 56)) := by
  simp [isO, gA, gV, H.1]
theorem KW.ki (H : KW h S p q A R G) : KI h S := ⟨H.1, ⟨A, H.2.1⟩, ⟨R, H.2.2.1⟩, ⟨G, H.2.2.2.1⟩⟩
theorem KW.a (H : KW h S p q A R G) {k : Nat} (hk : k < 64) (x : Int32) : sI h (S + 54) (nI k) x = some (hup h (S + 54) (.inl (0, 64, .inl (upd A k x)))) ∧ KW (hup h (S + 54) (.inl (0, 64, .inl (upd A k x)))) S p q (upd A k x) R G := by
  obtain ⟨a, b, c, d, e⟩ := H
  exact ⟨ai_set b hk (by decide), by rw [hup_n (by omega)]; exact a, hup_s, by rw [hup_n (by omega)]; exact c, by rw [hup_n (by omega)]; exact d, e.cong fun c _ _ => hup_n (by omega)⟩
theorem KW.r (H : KW h S p q A R G) {k : Nat} (hk : k < 8) (x : Int32) : sI h (S + 55) (nI k) x = some (hup h (S + 55) (.inl (0, 8, .inl (upd R k x)))) ∧ KW (hup h (S + 55) (.inl (0, 8, .inl (upd R k x)))) S p q A (upd R k x) G := by
  obtain ⟨a, b, c, d, e⟩ := H
  exact ⟨ai_set c hk (by decide), by rw [hup_n (by omega)]; exact a, by rw [hup_n (by omega)]; exact b, hup_s, by rw [hup_n (by omega)]; exact d, e.cong fun c _ _ => hup_n (by omega)⟩
theorem KW.g (H : KW h S p q A R G) {k : Nat} (hk : k < 8) (t : Bool) : sZ h (S + 56) (nI k) (bI t) = some (hup h (S + 56) (.inl (2, 8, .inl (upd G k (bI t))))) ∧ KW (hup h (S + 56) (.inl (2, 8, .inl (upd G k (bI t))))) S p q A R (upd G k (bI t)) := by
  obtain ⟨a, b, c, d, e⟩ := H
  exact ⟨sZ_set d hk (by decide), by rw [hup_n (by omega)]; exact a, by rw [hup_n (by omega)]; exact b, by rw [hup_n (by omega)]; exact c, hup_s, e.cong fun c _ _ => hup_n (by omega)⟩
theorem K_all_loop (hw : w < 4) : ∀ (k f i : Nat) (h : Hp) (A : Nat → Int32), i + k = 64 → KW h S p q A R G → (∀ j, j < i → A j = nI (chc p (amq q w) (j / 8) (j % 8))) → ∃ h' A', f_K_chooseAll_2 (S + 53) (f + k + 1) (nI w) (nI i) h = some h' ∧ KW h' S p q A' R G ∧ (∀ j, j < 64 → A' j = nI (chc p (amq q w) (j / 8) (j % 8))) ∧ KF h h' S := by
  intro k
  induction k with
  | zero =>
    intro f i h A hi H Z
    have e : i = 64 := by omega
    subst e
    obtain ⟨o, g0, g1, g2, g3⟩ := H.o
    refine ⟨h, A, ?_, H, Z, fun _ _ => rfl⟩
    show t_K_chooseAll_2 _ _ _ _ _ = _
    unfold t_K_chooseAll_2
    rw [g1, Option.bind_some, Option.bind_some, an_any H.2.1 (by decide), Option.bind_some, if_pos (by decide)]
  | succ k ih =>
    intro f i h A hi H Z
    have lt : i < 64 := by omega
    obtain ⟨o, g0, g1, g2, g3⟩ := H.o
    obtain ⟨d1, d2⟩ := nI_div8 lt
    obtain ⟨E, H1⟩ := H.a (k := i) lt (nI (chc p (amq q w) (i / 8) (i % 8)))
    obtain ⟨h', A', G1, G2, G3, G4⟩ := ih f (i + 1) _ _ (by omega) H1 (fun j hj => by
      by_cases c : j = i
      · subst c; exact pk_us
      · rw [pk_un c]; exact Z j (by omega))
    refine ⟨h', A', ?_, G2, G3, fun c hc => by rw [G4 c hc, hup_n (by omega)]⟩
    rw [← G1]
    show t_K_chooseAll_2 _ (f_K_chooseAll_2 (S + 53) (f + k + 1)) _ _ _ = _
    unfold t_K_chooseAll_2
    rw [g1, Option.bind_some, Option.bind_some, an_any H.2.1 (by decide), Option.bind_some, if_neg (nI_ge lt (by decide)), Option.bind_some, Option.bind_some, d2, d1, K_choice H.ki H.2.2.2.2 hw (by omega) (by omega), Option.bind_some]
    show ((sI h (S + 54) (nI i) (nI (chc p (amq q w) (i / 8) (i % 8)))).bind _) = _
    rw [E, Option.bind_some, nI_1]
theorem K_chooseAll (H : KW h S p q A R G) (hw : w < 4) : ∃ h' A', f_K_chooseAll (S + 53) (nI w) h = some h' ∧ KW h' S p q A' R G ∧ CA A' (chc p (amq q w)) ∧ KF h h' S := by
  unfold f_K_chooseAll
  rw [if_pos H.o.1]
  obtain ⟨h', A', E, H', Z, F⟩ := K_all_loop hw 64 (FU - 65) 0 h A rfl H (fun j hj => absurd hj (by omega))
  refine ⟨h', A', E, H', fun i j hi hj => ?_, F⟩
  have := Z (i * 8 + j) (by omega)
  rw [show (i * 8 + j) / 8 = i by omega, show (i * 8 + j) % 8 = j by omega] at this
  exact this
theorem K_choiceAt (H : KW h S p q A R G) {c : Nat → Nat → Nat} (hA : CA A c) {y z : Nat} (hy : y < 8) (hz : z < 8) : f_K_choiceAt (S + 53) h (nI y) (nI z) = some (nI (c y z)) := by
  obtain ⟨o, g0, g1, g2, g3⟩ := H.o
  have ix : nI y * (8 : Int32) + nI z = nI (y * 8 + z) := by rw [i8, pk_mul, nI_add]
  unfold f_K_choiceAt
  rw [if_pos o, noy hy, Option.bind_some, if_pos rfl, noy hz, Option.bind_some, if_pos rfl, g1, Option.bind_some, Option.bind_some, an_any H.2.1 (by decide), Option.bind_some, ix, if_pos (nI_lt (by omega) (by decide)), Option.bind_some, Option.bind_some, ai_get H.2.1 (by omega) (by decide), hA y z hy hz]
  rfl
end
/-! what is as good -/
section
variable (c : Nat → Nat → Nat)
def gsx (g : Nat → Bool) (x : Nat) : Nat → Bool := fun j => if j = x then g x || anyb (fun z => g z && decide (0 < c x z)) 8 else g j
def grd (g : Nat → Bool) : Nat → Nat → Nat → Bool
  | 0, _ => g
  | k + 1, x => grd (gsx c g x) k (x + 1)
def gal (g : Nat → Bool) : Nat → Nat → Bool
  | 0 => g
  | k + 1 => gal (grd c g 8 0) k
end
/-- reached in so many steps at most -/
def rch (c : Nat → Nat → Nat) (a r x : Nat) : Bool := anyb (fun k => wk c k x a) (r + 1)
theorem rch_t {c : Nat → Nat → Nat} {a r x : Nat} : rch c a r x = true ↔ ∃ k, k ≤ r ∧ wk c k x a = true := by
  unfold rch
  rw [anyb_t]
  constructor
  · rintro ⟨k, h1, h2⟩; exact ⟨k, by omega, h2⟩
  · rintro ⟨k, h1, h2⟩; exact ⟨k, by omega, h2⟩
theorem wk_s {c : Nat → Nat → Nat} {n y z : Nat} : wk c (n + 1) y z = true ↔ ∃ x, x < 8 ∧ 0 < eg c y x ∧ wk c n x z = true := by
  show stW c (fun x => wk c n x z) y 8 = true ↔ _
  unfold stW
  rw [anyb_t]
  constructor
  · rintro ⟨x, h1, h2⟩
    rw [Bool.and_eq_true, decide_eq_true_eq] at h2
    exact ⟨x, h1, h2⟩
  · rintro ⟨x, h1, h2, h3⟩
    exact ⟨x, h1, by rw [Bool.and_eq_true, decide_eq_true_eq]; exact ⟨h2, h3⟩⟩
def cN (f : Nat → Bool) : Nat → Nat
  | 0 => 0
  | n + 1 => cN f n + if f n then 1 else 0
theorem cN_le {f : Nat → Bool} : ∀ n, cN f n ≤ n := by
  intro n
  induction n with
  | zero => exact Nat.le_refl _
  | succ n ih =>
    unfold cN
    split <;> omega
theorem cN_mono {f g : Nat → Bool} : ∀ n, (∀ x, x < n → f x = true → g x = true) → cN f n ≤ cN g n := by
  intro n
  induction n with
  | zero => intro _; exact Nat.le_refl _
  | succ n ih =>
    intro h
    have := ih fun x hx => h x (by omega)
    have hn := h n (by omega)
    unfold cN
    by_cases d : f n = true
    · rw [if_pos d, if_pos (hn d)]; omega
    · rw [if_neg d]
      split <;> omega
theorem cN_lt {f g : Nat → Bool} : ∀ n, (∀ x, x < n → f x = true → g x = true) → (∃ x, x < n ∧ g x = true ∧ f x = false) → cN f n < cN g n := by
  intro n
  induction n with
  | zero => rintro _ ⟨x, hx, _⟩; omega
  | succ n ih =>
    rintro h ⟨x, hx, gx, fx⟩
    have hn := h n (by omega)
    unfold cN
    by_cases d : x = n
    · subst d
      have := cN_mono x fun y hy => h y (by omega)
      rw [if_pos gx, if_neg (by rw [fx]; decide)]
      omega
    · have := ih (fun y hy => h y (by omega)) ⟨x, by omega, gx, fx⟩
      by_cases e : f n = true
      · rw [if_pos e, if_pos (hn e)]; omega
      · rw [if_neg e]
        split <;> omega
theorem cN_ge {f : Nat → Bool} {n x : Nat} (hx : x < n) (h : f x = true) : 1 ≤ cN f n := by
  induction n with
  | zero => omega
  | succ n ih =>
    unfold cN
    by_cases d : x = n
    · subst d; rw [if_pos h]; omega
    · have := ih (by omega); omega
theorem rch_all {c : Nat → Nat → Nat} {a : Nat} (ha : a < 8) : ∀ k x, x < 8 → wk c k x a = true → rch c a 7 x = true := by
  -- somewhere nothing new comes
  have gro : ∀ r, (∃ r', r' < r ∧ ∀ x, x < 8 → rch c a (r' + 1) x = true → rch c a r' x = true) ∨ r + 1 ≤ cN (rch c a r) 8 := by
    intro r
    induction r with
    | zero =>
      refine Or.inr (cN_ge ha (rch_t.mpr ⟨0, Nat.le_refl _, ?_⟩))
      show decide (a = a) = true
      exact decide_eq_true rfl
    | succ r ih =>
      rcases ih with ⟨r', h1, h2⟩ | h
      · exact Or.inl ⟨r', by omega, h2⟩
      · by_cases st : ∀ x, x < 8 → rch c a (r + 1) x = true → rch c a r x = true
        · exact Or.inl ⟨r, by omega, st⟩
        · refine Or.inr ?_
          have nw : ∃ x, x < 8 ∧ rch c a (r + 1) x = true ∧ rch c a r x = false := by
            apply Classical.byContradiction
            intro no
            apply st
            intro x hx h1
            cases h2 : rch c a r x with
            | true => rfl
            | false => exact absurd ⟨x, hx, h1, h2⟩ no
          have := cN_lt 8 (fun x _ h1 => by
            obtain ⟨k, hk, e⟩ := rch_t.mp h1
            exact rch_t.mpr ⟨k, by omega, e⟩) nw
          omega
  obtain ⟨r, hr, st⟩ : ∃ r, r < 8 ∧ ∀ x, x < 8 → rch c a (r + 1) x = true → rch c a r x = true := by
    rcases gro 8 with h | h
    · exact h
    · have := cN_le (f := rch c a 8) 8
      omega
  have main : ∀ k x, x < 8 → wk c k x a = true → rch c a r x = true := by
    intro k
    induction k with
    | zero => intro x _ h; exact rch_t.mpr ⟨0, by omega, h⟩
    | succ k ih =>
      intro x hx h
      obtain ⟨z, hz, e, h2⟩ := wk_s.mp h
      obtain ⟨j, hj, h3⟩ := rch_t.mp (ih z hz h2)
      exact st x hx (rch_t.mpr ⟨j + 1, by omega, wk_s.mpr ⟨z, hz, e, h3⟩⟩)
  intro k x hx h
  obtain ⟨j, hj, e⟩ := rch_t.mp (main k x hx h)
  exact rch_t.mpr ⟨j, by omega, e⟩
section
variable {c : Nat → Nat → Nat} {a : Nat}
/-- nothing is as good that does not lead to a -/
def snd (c : Nat → Nat → Nat) (a : Nat) (g : Nat → Bool) : Prop := ∀ x, x < 8 → g x = true → ∃ k, wk c k x a = true
theorem snd_gsx {g : Nat → Bool} (H : snd c a g) {x : Nat} (hx : x < 8) : snd c a (gsx c g x) := by
  intro y hy h
  unfold gsx at h
  by_cases e : y = x
  · subst e
    rw [if_pos rfl, Bool.or_eq_true] at h
    rcases h with h | h
    · exact H y hy h
    · obtain ⟨z, hz, h2⟩ := anyb_t.mp h
      rw [Bool.and_eq_true, decide_eq_true_eq] at h2
      by_cases d : y = z
      · subst d; exact H y hy h2.1
      · obtain ⟨k, hk⟩ := H z hz h2.1
        exact ⟨k + 1, wk_s.mpr ⟨z, hz, by unfold eg; rw [if_neg d]; exact h2.2, hk⟩⟩
  · rw [if_neg e] at h
    exact H y hy h
theorem snd_grd : ∀ (k x : Nat) (g : Nat → Bool), x + k ≤ 8 → snd c a g → snd c a (grd c g k x) := by
  intro k
  induction k with
  | zero => intro x g _ H; exact H
  | succ k ih => intro x g hx H; exact ih (x + 1) _ (by omega) (snd_gsx H (by omega))
theorem snd_gal : ∀ (k : Nat) (g : Nat → Bool), snd c a g → snd c a (gal c g k) := by
  intro k
  induction k with
  | zero => intro g H; exact H
  | succ k ih => intro g H; exact ih _ (snd_grd 8 0 g (by omega) H)
theorem gsx_up {g : Nat → Bool} {x y : Nat} (h : g y = true) : gsx c g x y = true := by
  unfold gsx
  by_cases e : y = x
  · subst e; rw [if_pos rfl, h, Bool.true_or]
  · rw [if_neg e]; exact h
theorem grd_up : ∀ (k x : Nat) (g : Nat → Bool) (y : Nat), g y = true → grd c g k x y = true := by
  intro k
  induction k with
  | zero => intro x g y h; exact h
  | succ k ih => intro x g y h; exact ih (x + 1) _ y (gsx_up h)
theorem grd_new : ∀ (k x : Nat) (g : Nat → Bool) (y z : Nat), x ≤ y → y < x + k → z < 8 → g z = true → 0 < c y z → grd c g k x y = true := by
  intro k
  induction k with
  | zero => intro x g y z h1 h2; omega
  | succ k ih =>
    intro x g y z h1 h2 hz h hc
    by_cases e : y = x
    · subst e
      refine grd_up k (y + 1) _ y ?_
      unfold gsx
      rw [if_pos rfl, Bool.or_eq_true]
      exact Or.inr (anyb_t.mpr ⟨z, hz, by rw [Bool.and_eq_true, decide_eq_true_eq]; exact ⟨h, hc⟩⟩)
    · exact ih (x + 1) _ y z (by omega) (by omega) hz (gsx_up h) hc
theorem gal_cov : ∀ (k r : Nat) (g : Nat → Bool), (∀ j x, j ≤ r → x < 8 → wk c j x a = true → g x = true) → ∀ j x, j ≤ r + k → x < 8 → wk c j x a = true → gal c g k x = true := by
  intro k
  induction k with
  | zero => intro r g H; exact H
  | succ k ih =>
    intro r g H j x hj hx h
    refine ih (r + 1) (grd c g 8 0) (fun j x hj hx h => ?_) j x (by omega) hx h
    cases j with
    | zero => exact grd_up 8 0 g x (H 0 x (by omega) hx h)
    | succ j =>
      obtain ⟨z, hz, e, h2⟩ := wk_s.mp h
      refine grd_new 8 0 g x z (by omega) (by omega) hz (H j z (by omega) hz h2) ?_
      unfold eg at e
      split at e
      · omega
      · exact e
theorem gal_eq (ha : a < 8) {x : Nat} (hx : x < 8) : gal c (fun x => decide (x = a)) 7 x = rch c a 8 x := by
  have s0 : snd c a (fun x => decide (x = a)) := fun x _ h => ⟨0, h⟩
  have s7 := snd_gal 7 _ s0
  have v7 := gal_cov (c := c) (a := a) 7 0 (fun x => decide (x = a)) (fun j x hj hx h => by
    have : j = 0 := by omega
    subst this
    exact h)
  cases h : rch c a 8 x with
  | true =>
    obtain ⟨k, hk, e⟩ := rch_t.mp h
    obtain ⟨j, hj, e2⟩ := rch_t.mp (rch_all ha k x hx e)
    exact v7 j x (by omega) hx e2
  | false =>
    cases h2 : gal c (fun x => decide (x = a)) 7 x with
    | false => rfl
    | true =>
      obtain ⟨k, e⟩ := s7 x hx h2
      obtain ⟨j, hj, e2⟩ := rch_t.mp (rch_all ha k x hx e)
      rw [rch_t.mpr ⟨j, by omega, e2⟩] at h
      cases h
end
