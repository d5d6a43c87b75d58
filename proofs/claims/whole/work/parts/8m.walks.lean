/-! ===== likes: walks, as the reference finds them ===== -/
def eg (c : Nat → Nat → Nat) (y x : Nat) : Nat := if y = x then 0 else c y x
def anyb (f : Nat → Bool) : Nat → Bool
  | 0 => false
  | n + 1 => anyb f n || f n
theorem anyb_t {f : Nat → Bool} : ∀ {n : Nat}, anyb f n = true ↔ ∃ x, x < n ∧ f x = true := by
  intro n
  induction n with
  | zero => exact ⟨fun h => (by cases h), fun ⟨x, h, _⟩ => absurd h (by omega)⟩
  | succ n ih =>
    unfold anyb
    rw [Bool.or_eq_true, ih]
    constructor
    · rintro (⟨x, a, b⟩ | h)
      · exact ⟨x, by omega, b⟩
      · exact ⟨n, by omega, h⟩
    · rintro ⟨x, a, b⟩
      by_cases c : x = n
      · subst c; exact Or.inr b
      · exact Or.inl ⟨x, by omega, b⟩
/-- one edge more, over the first years -/
def stW (c : Nat → Nat → Nat) (f : Nat → Bool) (y : Nat) : Nat → Bool := anyb fun x => decide (0 < eg c y x) && f x
def stS (c : Nat → Nat → Nat) (f g : Nat → Bool) (y : Nat) : Nat → Bool := anyb fun x => decide (0 < eg c y x) && (g x || (decide (eg c y x = 2) && f x))
def wk (c : Nat → Nat → Nat) : Nat → Nat → Nat → Bool
  | 0, y, z => decide (y = z)
  | n + 1, y, z => stW c (fun x => wk c n x z) y 8
def ws (c : Nat → Nat → Nat) : Nat → Nat → Nat → Bool
  | 0, _, _ => false
  | n + 1, y, z => stS c (fun x => wk c n x z) (fun x => ws c n x z) y 8
def BW (h : Hp) (m : Nat) (p b : Nat → Nat) : Prop := MB h m p b ∧ gA h m 8 37 = some (some (m + 22)) ∧ gA h m 8 38 = some (some (m + 23)) ∧ gA h m 8 39 = some (some (m + 24))
theorem BW.up {h : Hp} {m : Nat} {p b : Nat → Nat} {a : Nat} {e : zE} (H : BW h m p b) (ha : m + 22 ≤ a) : BW (hup h a e) m p b := by
  obtain ⟨⟨⟨F, f0, f1, f2⟩, i1, i2, i3, i4⟩, g1, g2, g3⟩ := H
  have gg : ∀ k v, gA h m 8 k = some v → gA (hup h a e) m 8 k = some v := fun k v x => by
    unfold gA gV at *
    rw [hup_n (by omega)]
    exact x
  exact ⟨⟨⟨F, by rw [hup_n (by omega)]; exact f0, f1, f2⟩, i1.up (by omega), i2.up (by omega), i3, i4⟩, gg _ _ g1, gg _ _ g2, gg _ _ g3⟩
def WA (h : Hp) (m : Nat) (p b : Nat → Nat) (CF SF EF : Nat → Int32) : Prop := BW h m p b ∧ h (m + 22) = some (.inl (2, 1100, .inl CF)) ∧ h (m + 23) = some (.inl (2, 1100, .inl SF)) ∧ h (m + 24) = some (.inl (0, 100, .inl EF))
/-- cells of the walks alone change -/
def WF (h h' : Hp) (m : Nat) : Prop := ∀ c, ¬ (m + 22 ≤ c ∧ c < m + 25) → h' c = h c
theorem WF.trans {h h1 h2 : Hp} {m : Nat} (a : WF h h1 m) (b : WF h1 h2 m) : WF h h2 m := fun c x => by rw [b c x, a c x]
theorem sZ_set {h : Hp} {a n k : Nat} {F : Nat → Int32} {t : Bool} (H : h a = some (.inl (2, n, .inl F))) (hk : k < n) (hn : n < 2 ^ 31) : sZ h a (nI k) (bI t) = some (hup h a (.inl (2, n, .inl (upd F k (bI t))))) := by
  unfold sZ
  rw [H]
  simp only []
  rw [if_pos ⟨trivial, nI_in hk hn⟩, nI_clamp (by omega), show vp_nar .boolean (bI t) = bI t by cases t <;> decide +kernel]
section
variable {h : Hp} {m w : Nat} {p b : Nat → Nat} {CF SF EF : Nat → Int32}
theorem WA.c (H : WA h m p b CF SF EF) {k : Nat} (hk : k < 1100) (t : Bool) : sZ h (m + 22) (nI k) (bI t) = some (hup h (m + 22) (.inl (2, 1100, .inl (upd CF k (bI t))))) ∧ WA (hup h (m + 22) (.inl (2, 1100, .inl (upd CF k (bI t))))) m p b (upd CF k (bI t)) SF EF := by
  obtain ⟨a, b', c, d⟩ := H
  exact ⟨sZ_set b' hk (by decide), a.up (by omega), hup_s, by rw [hup_n (by omega)]; exact c, by rw [hup_n (by omega)]; exact d⟩
theorem WA.s (H : WA h m p b CF SF EF) {k : Nat} (hk : k < 1100) (t : Bool) : sZ h (m + 23) (nI k) (bI t) = some (hup h (m + 23) (.inl (2, 1100, .inl (upd SF k (bI t))))) ∧ WA (hup h (m + 23) (.inl (2, 1100, .inl (upd SF k (bI t))))) m p b CF (upd SF k (bI t)) EF := by
  obtain ⟨a, b', c, d⟩ := H
  exact ⟨sZ_set c hk (by decide), a.up (by omega), by rw [hup_n (by omega)]; exact b', hup_s, by rw [hup_n (by omega)]; exact d⟩
theorem WA.e (H : WA h m p b CF SF EF) {k : Nat} (hk : k < 100) (x : Int32) : sI h (m + 24) (nI k) x = some (hup h (m + 24) (.inl (0, 100, .inl (upd EF k x)))) ∧ WA (hup h (m + 24) (.inl (0, 100, .inl (upd EF k x)))) m p b CF SF (upd EF k x) := by
  obtain ⟨a, b', c, d⟩ := H
  exact ⟨ai_set d hk (by decide), a.up (by omega), by rw [hup_n (by omega)]; exact b', by rw [hup_n (by omega)]; exact c, hup_s⟩
theorem nI_div10 {i : Nat} (h : i < 100) : nI i / (10 : Int32) = nI (i / 10) ∧ nI i - nI i / (10 : Int32) * (10 : Int32) = nI (i % 10) := by
  have : ∀ i, i < 100 → nI i / (10 : Int32) = nI (i / 10) ∧ nI i - nI i / (10 : Int32) * (10 : Int32) = nI (i % 10) := by decide +kernel
  exact this i h
/-- the start of the walks -/
def c0 (i : Nat) : Bool := decide (i < 100 ∧ i / 10 = i % 10)
theorem M_w2 {x1 : Int32} : ∀ (k f i : Nat) (h : Hp) (CF SF EF : Nat → Int32), i + k = 1100 → WA h m p b CF SF EF → (∀ j, j < i → CF j = bI (c0 j) ∧ SF j = bI false) → ∃ h' CF' SF', f_M_findWalks_2 m (f + k + 1) x1 (nI i) h = f_M_findWalks_52 m FU x1 0 h' ∧ WA h' m p b CF' SF' EF ∧ (∀ j, j < 1100 → CF' j = bI (c0 j) ∧ SF' j = bI false) ∧ WF h h' m := by
  intro k
  induction k with
  | zero =>
    intro f i h CF SF EF hi H Z
    have e : i = 1100 := by omega
    subst e
    refine ⟨h, CF, SF, ?_, H, Z, fun _ _ => rfl⟩
    show t_M_findWalks_2 _ _ _ _ _ = _
    unfold t_M_findWalks_2
    rw [if_pos (show (1100 : Int32) ≤ nI 1100 by decide)]
  | succ k ih =>
    intro f i h CF SF EF hi H Z
    obtain ⟨-, g37, g38, g39⟩ := H.1
    obtain ⟨E1, H1⟩ := H.c (k := i) (by omega) (c0 i)
    obtain ⟨E2, H2⟩ := H1.s (k := i) (by omega) false
    obtain ⟨h', CF', SF', G1, G2, G3, G4⟩ := ih f (i + 1) _ _ _ EF (by omega) H2 (fun j hj => by
      by_cases c : j = i
      · subst c; exact ⟨pk_us, pk_us⟩
      · rw [pk_un c, pk_un c]; exact Z j (by omega))
    refine ⟨h', CF', SF', ?_, G2, G3, fun c hc => by rw [G4 c hc, hup_n (by omega), hup_n (by omega)]⟩
    rw [← G1]
    have st : ∀ t : Bool, t = c0 i → f_M_findWalks_36 m (f_M_findWalks_2 m (f + k + 1)) (m + 22) (nI i) (bI t) x1 (nI i) h = f_M_findWalks_2 m (f + k + 1) x1 (nI (i + 1)) (hup (hup h (m + 22) (.inl (2, 1100, .inl (upd CF i (bI (c0 i)))))) (m + 23) (.inl (2, 1100, .inl (upd SF i (bI false))))) := by
      rintro t rfl
      unfold f_M_findWalks_36
      rw [E1, Option.bind_some, H1.1.2.2.1, Option.bind_some, Option.bind_some, show (0 : Int32) = bI false from rfl, E2, Option.bind_some, nI_1]
    show t_M_findWalks_2 _ (f_M_findWalks_2 m (f + k + 1)) _ _ _ = _
    unfold t_M_findWalks_2
    rw [if_neg (show ¬ (1100 : Int32) ≤ nI i from nI_ge (b := 1100) (by omega) (by decide)), g37, Option.bind_some]
    by_cases c : i < 100
    · rw [if_neg (show ¬ (100 : Int32) ≤ nI i from nI_ge (b := 100) c (by decide)), (nI_div10 c).2, (nI_div10 c).1]
      by_cases d : i / 10 = i % 10
      · rw [if_pos (by rw [d]), Option.bind_some]
        exact st true (decide_eq_true ⟨c, d⟩).symm
      · rw [if_neg (fun e => d ((nI_eq (by omega) (by omega)).mp e)), Option.bind_some]
        unfold f_M_findWalks_35
        exact st false (decide_eq_false (fun x => d x.2)).symm
    · rw [if_pos (show (100 : Int32) ≤ nI i from nI_le (a := 100) (by omega) (by omega)), Option.bind_some]
      unfold f_M_findWalks_35
      exact st false (decide_eq_false (fun x => c x.1)).symm
theorem ix10 {y z : Nat} : (10 : Int32) * nI y + nI z = nI (10 * y + z) := by rw [show (10 : Int32) = nI 10 from rfl, pk_mul, nI_add]
/-- what is chosen ahead, year by year -/
def chc (p : Nat → Nat) (am : Nat → Nat → Nat) (y z : Nat) : Nat := chz (cs0 p am y y) (cs0 p am y z)
theorem M_w60 (hw : w < 4) {y : Nat} (hy : y < 8) (k52 : Int32 → Int32 → Hp → Option Hp) : ∀ (k f z : Nat) (h : Hp) (EF : Nat → Int32), z + k = 8 → WA h m p b CF SF EF → (∀ j, j < z → EF (10 * y + j) = nI (eg (chc p (bam b w)) y j)) → ∃ h' EF', f_M_findWalks_60 m k52 (f + k + 1) (nI w) (nI y) (nI z) h = k52 (nI w) (nI (y + 1)) h' ∧ WA h' m p b CF SF EF' ∧ (∀ j, j < 8 → EF' (10 * y + j) = nI (eg (chc p (bam b w)) y j)) ∧ (∀ i, i < 10 * y → EF' i = EF i) ∧ WF h h' m := by
  intro k
  induction k with
  | zero =>
    intro f z h EF hz H Z
    have e : z = 8 := by omega
    subst e
    refine ⟨h, EF, ?_, H, Z, fun _ _ => rfl, fun _ _ => rfl⟩
    show t_M_findWalks_60 _ _ _ _ _ _ _ = _
    unfold t_M_findWalks_60
    rw [if_pos (by decide), nI_1]
  | succ k ih =>
    intro f z h EF hz H Z
    obtain ⟨mb, g37, g38, g39⟩ := H.1
    obtain ⟨E1, H1⟩ := H.e (k := 10 * y + z) (by omega) (nI (eg (chc p (bam b w)) y z))
    obtain ⟨h', EF', G1, G2, G3, G4, G5⟩ := ih f (z + 1) _ _ (by omega) H1 (fun j hj => by
      by_cases c : j = z
      · subst c; exact pk_us
      · rw [pk_un (by omega)]; exact Z j (by omega))
    refine ⟨h', EF', ?_, G2, G3, fun i hi => by rw [G4 i hi, pk_un (by omega)], fun c hc => by rw [G5 c hc, hup_n (by omega)]⟩
    rw [← G1]
    show t_M_findWalks_60 _ _ (f_M_findWalks_60 m k52 (f + k + 1)) _ _ _ _ = _
    unfold t_M_findWalks_60
    rw [if_neg (show ¬ (8 : Int32) ≤ nI z from nI_ge (b := 8) (by omega) (by decide)), g39, Option.bind_some]
    have st : ∀ x : Int32, x = nI (eg (chc p (bam b w)) y z) → f_M_findWalks_92 m k52 (f_M_findWalks_60 m k52 (f + k + 1)) (m + 24) ((10 : Int32) * nI y + nI z) x (nI w) (nI y) (nI z) h = f_M_findWalks_60 m k52 (f + k + 1) (nI w) (nI y) (nI (z + 1)) (hup h (m + 24) (.inl (0, 100, .inl (upd EF (10 * y + z) (nI (eg (chc p (bam b w)) y z)))))) := by
      rintro x rfl
      unfold f_M_findWalks_92
      rw [ix10, E1, Option.bind_some, nI_1]
    by_cases c : y = z
    · rw [if_pos (show nI y = nI z by rw [c]), Option.bind_some]
      exact st 0 (by unfold eg; rw [if_pos c]; rfl)
    · rw [if_neg (fun e => c ((nI_eq (by omega) (by omega)).mp e)), Option.bind_some, M_ahead mb hw hy (by omega), Option.bind_some]
      exact st _ (by unfold eg; rw [if_neg c]; rfl)
theorem M_w52 (hw : w < 4) : ∀ (k f y : Nat) (h : Hp) (EF : Nat → Int32), y + k = 8 → WA h m p b CF SF EF → (∀ i j, i < y → j < 8 → EF (10 * i + j) = nI (eg (chc p (bam b w)) i j)) → ∃ h' EF', f_M_findWalks_52 m (f + k + 1) (nI w) (nI y) h = f_M_findWalks_107 m FU 1 h' ∧ WA h' m p b CF SF EF' ∧ (∀ i j, i < 8 → j < 8 → EF' (10 * i + j) = nI (eg (chc p (bam b w)) i j)) ∧ WF h h' m := by
  intro k
  induction k with
  | zero =>
    intro f y h EF hy H Z
    have e : y = 8 := by omega
    subst e
    refine ⟨h, EF, ?_, H, Z, fun _ _ => rfl⟩
    show t_M_findWalks_52 _ _ _ _ _ = _
    unfold t_M_findWalks_52
    rw [if_pos (by decide)]
  | succ k ih =>
    intro f y h EF hy H Z
    obtain ⟨h1, EF1, E1, H1, Z1, O1, W1⟩ := M_w60 (CF := CF) (SF := SF) hw (show y < 8 by omega) (f_M_findWalks_52 m (f + k + 1)) 8 (FU - 9) 0 h EF rfl H (fun j hj => absurd hj (by omega))
    obtain ⟨h', EF', G1, G2, G3, G4⟩ := ih f (y + 1) h1 EF1 (by omega) H1 (fun i j hi hj => by
      by_cases c : i = y
      · subst c; exact Z1 j hj
      · rw [O1 _ (by omega)]; exact Z i j (by omega) hj)
    refine ⟨h', EF', ?_, G2, G3, W1.trans G4⟩
    rw [← G1, ← E1]
    show t_M_findWalks_52 _ (f_M_findWalks_52 m (f + k + 1)) _ _ _ = _
    unfold t_M_findWalks_52
    rw [if_neg (show ¬ (8 : Int32) ≤ nI y from nI_ge (b := 8) (by omega) (by decide))]
    rfl
end
