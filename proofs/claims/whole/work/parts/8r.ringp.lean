/-! ===== the ring: walks and searches ===== -/
section
variable {c : Nat → Nat → Nat}
/-- a walk that is sure in the end, sure or not so far -/
def sw (c : Nat → Nat → Nat) (n : Nat) (s : Bool) (y z : Nat) : Bool := ws c n y z || (s && wk c n y z)
theorem ws_s {n y z : Nat} : ws c (n + 1) y z = true ↔ ∃ x, x < 8 ∧ 0 < eg c y x ∧ (ws c n x z = true ∨ (eg c y x = 2 ∧ wk c n x z = true)) := by
  show stS c (fun x => wk c n x z) (fun x => ws c n x z) y 8 = true ↔ _
  unfold stS
  rw [anyb_t]
  constructor
  · rintro ⟨x, h1, h2⟩
    rw [Bool.and_eq_true, decide_eq_true_eq, Bool.or_eq_true, Bool.and_eq_true, decide_eq_true_eq] at h2
    exact ⟨x, h1, h2⟩
  · rintro ⟨x, h1, h2, h3⟩
    exact ⟨x, h1, by rw [Bool.and_eq_true, decide_eq_true_eq, Bool.or_eq_true, Bool.and_eq_true, decide_eq_true_eq]; exact ⟨h2, h3⟩⟩
theorem sw_t {n : Nat} {s : Bool} {y z : Nat} : sw c n s y z = true ↔ ws c n y z = true ∨ (s = true ∧ wk c n y z = true) := by
  unfold sw
  rw [Bool.or_eq_true, Bool.and_eq_true]
theorem sw_s {n : Nat} {s : Bool} {y z : Nat} : sw c (n + 1) s y z = true ↔ ∃ x, x < 8 ∧ 0 < eg c y x ∧ sw c n (s || decide (eg c y x = 2)) x z = true := by
  rw [sw_t, ws_s, wk_s]
  constructor
  · rintro (⟨x, h1, h2, h3⟩ | ⟨hs, x, h1, h2, h3⟩)
    · refine ⟨x, h1, h2, sw_t.mpr ?_⟩
      rcases h3 with h3 | ⟨h3, h4⟩
      · exact Or.inl h3
      · exact Or.inr ⟨by rw [decide_eq_true h3, Bool.or_true], h4⟩
    · exact ⟨x, h1, h2, sw_t.mpr (Or.inr ⟨by rw [hs, Bool.true_or], h3⟩)⟩
  · rintro ⟨x, h1, h2, h3⟩
    rcases sw_t.mp h3 with h3 | ⟨h3, h4⟩
    · exact Or.inl ⟨x, h1, h2, Or.inl h3⟩
    · rw [Bool.or_eq_true, decide_eq_true_eq] at h3
      rcases h3 with h3 | h3
      · exact Or.inr ⟨h3, x, h1, h2, h4⟩
      · exact Or.inl ⟨x, h1, h2, Or.inr ⟨h3, h4⟩⟩
/-- a walk, and whether it has a sure step -/
def Wf (c : Nat → Nat → Nat) : Nat → Nat → Nat → Bool → Prop
  | 0, y, z, s => y = z ∧ s = false
  | n + 1, y, z, s => ∃ x s', x < 8 ∧ 0 < eg c y x ∧ Wf c n x z s' ∧ s = (decide (eg c y x = 2) || s')
theorem sw_W : ∀ (n : Nat) (s : Bool) (y z : Nat), sw c n s y z = true ↔ ∃ s', Wf c n y z s' ∧ (s || s') = true := by
  intro n
  induction n with
  | zero =>
    intro s y z
    rw [sw_t]
    constructor
    · rintro (h | ⟨h, h2⟩)
      · cases h
      · have e : y = z := of_decide_eq_true h2
        exact ⟨false, ⟨e, rfl⟩, by rw [h]; rfl⟩
    · rintro ⟨s', ⟨e, rfl⟩, h⟩
      rw [Bool.or_false] at h
      exact Or.inr ⟨h, decide_eq_true e⟩
  | succ n ih =>
    intro s y z
    rw [sw_s]
    constructor
    · rintro ⟨x, h1, h2, h3⟩
      obtain ⟨s', h4, h5⟩ := (ih _ x z).mp h3
      exact ⟨_, ⟨x, s', h1, h2, h4, rfl⟩, by rw [← Bool.or_assoc]; exact h5⟩
    · rintro ⟨s', ⟨x, s'', h1, h2, h3, rfl⟩, h4⟩
      exact ⟨x, h1, h2, (ih _ x z).mpr ⟨s'', h3, by rw [Bool.or_assoc]; exact h4⟩⟩
theorem Wf_cat : ∀ (a : Nat) {b y x z : Nat} {s1 s2 : Bool}, Wf c a y x s1 → Wf c b x z s2 → Wf c (a + b) y z (s1 || s2) := by
  intro a
  induction a with
  | zero =>
    rintro b y x z s1 s2 ⟨rfl, rfl⟩ h
    rw [Nat.zero_add, Bool.false_or]
    exact h
  | succ a ih =>
    rintro b y x z s1 s2 ⟨t, s', h1, h2, h3, rfl⟩ h
    rw [show a + 1 + b = a + b + 1 by omega, Bool.or_assoc]
    exact ⟨t, _, h1, h2, ih h3 h, rfl⟩
theorem Wf_snoc {a y x z : Nat} {s1 : Bool} (h : Wf c a y x s1) (hz : z < 8) (he : 0 < eg c x z) : Wf c (a + 1) y z (s1 || decide (eg c x z = 2)) := Wf_cat a h ⟨z, false, hz, he, ⟨rfl, rfl⟩, by rw [Bool.or_false]⟩
/-- no ring shorter -/
def NoS (c : Nat → Nat → Nat) (k : Nat) : Prop := ∀ l, 1 ≤ l → l < k → ∀ y, y < 8 → sw c l false y y = false
theorem NoS.w {k l y : Nat} (H : NoS c k) (h1 : 1 ≤ l) (h2 : l < k) (hy : y < 8) : ¬ Wf c l y y true := fun h => by
  have := (sw_W l false y y).mpr ⟨true, h, rfl⟩
  rw [H l h1 h2 y hy] at this
  cases this
/-- a row that has begun: from f over U to v -/
def Pf (c : Nat → Nat → Nat) (f j U : Nat) (s : Bool) (v : Nat) : Prop := v < 8 ∧ f < 8 ∧ U.testBit v = true ∧ U.testBit f = true ∧ Wf c j f v s ∧ ∀ u, u < 8 → U.testBit u = true → ∃ i s1 s2, i ≤ j ∧ Wf c i f u s1 ∧ Wf c (j - i) u v s2 ∧ s = (s1 || s2)
theorem tb_or {U y u : Nat} : (U ||| 2 ^ y).testBit u = (U.testBit u || decide (y = u)) := by
  rw [Nat.testBit_or, Nat.testBit_two_pow]
theorem Pf.one {f : Nat} (hf : f < 8) : Pf c f 0 (2 ^ f) false f := by
  have t : (2 ^ f).testBit f = true := by rw [Nat.testBit_two_pow, decide_eq_true rfl]
  refine ⟨hf, hf, t, t, ⟨rfl, rfl⟩, fun u _ h => ?_⟩
  rw [Nat.testBit_two_pow] at h
  have : f = u := of_decide_eq_true h
  subst this
  exact ⟨0, false, false, Nat.le_refl _, ⟨rfl, rfl⟩, ⟨rfl, rfl⟩, rfl⟩
theorem Pf.ext {f j U v y : Nat} {s : Bool} (H : Pf c f j U s v) (hy : y < 8) (he : 0 < eg c v y) : Pf c f (j + 1) (U ||| 2 ^ y) (s || decide (eg c v y = 2)) y := by
  obtain ⟨hv, hf, uv, uf, w, all⟩ := H
  have wy := Wf_snoc w hy he
  refine ⟨hy, hf, by rw [tb_or, decide_eq_true rfl, Bool.or_true], by rw [tb_or, uf, Bool.true_or], wy, fun u hu h => ?_⟩
  rw [tb_or, Bool.or_eq_true] at h
  rcases h with h | h
  · obtain ⟨i, s1, s2, h1, h2, h3, h4⟩ := all u hu h
    refine ⟨i, s1, s2 || decide (eg c v y = 2), by omega, h2, ?_, by rw [h4, Bool.or_assoc]⟩
    rw [show j + 1 - i = j - i + 1 by omega]
    exact Wf_snoc h3 hy he
  · have e : y = u := of_decide_eq_true h
    subst e
    refine ⟨j + 1, _, false, Nat.le_refl _, wy, ?_, by rw [Bool.or_false]⟩
    rw [Nat.sub_self]
    exact ⟨rfl, rfl⟩
theorem Pf.new {k f j U v n x : Nat} {s : Bool} (N : NoS c k) (Lf : ∀ y, y < f → sw c k false y y = false) (H : Pf c f j U s v) (hx : x < 8) (he : 0 < eg c v x) (hn : 1 ≤ n) (hk : j + 1 + n = k) (hs : sw c n (s || decide (eg c v x = 2)) x f = true) : U.testBit x = false ∧ f < x := by
  obtain ⟨hv, hf, uv, uf, w, all⟩ := H
  obtain ⟨s3, w3, t3⟩ := (sw_W n _ x f).mp hs
  have nx : U.testBit x = false := by
    cases h : U.testBit x with
    | false => rfl
    | true =>
      obtain ⟨i, s1, s2, h1, h2, h4, h5⟩ := all x hx h
      have a1 : Wf c (j - i + 1) x x (s2 || decide (eg c v x = 2)) := Wf_snoc h4 hx he
      have a2 : Wf c (i + n) f f (s1 || s3) := Wf_cat i h2 w3
      have : (s2 || decide (eg c v x = 2)) = true ∨ (s1 || s3) = true := by
        rw [h5] at t3
        revert t3
        cases s1 <;> cases s2 <;> cases s3 <;> cases decide (eg c v x = 2) <;> simp
      rcases this with t | t
      · rw [t] at a1
        exact absurd a1 (N.w (by omega) (by omega) hx)
      · rw [t] at a2
        exact absurd a2 (N.w (by omega) (by omega) hf)
  refine ⟨nx, ?_⟩
  have ne : x ≠ f := fun e => by rw [e, uf] at nx; cases nx
  rcases Nat.lt_or_ge x f with h | h
  · have a : Wf c (n + (j + 1)) x x (s3 || (s || decide (eg c v x = 2))) := Wf_cat n w3 (Wf_snoc w hx he)
    have t : (s3 || (s || decide (eg c v x = 2))) = true := by rw [Bool.or_comm]; exact t3
    rw [t, show n + (j + 1) = k by omega] at a
    have := (sw_W k false x x).mpr ⟨true, a, rfl⟩
    rw [Lf x h] at this
    cases this
  · omega
/-- the class's search: n years more are to be placed -/
def dfs (c : Nat → Nat → Nat) (f : Nat) : Nat → Nat → Bool → Nat → Option (List Nat)
  | 0, _, s, v => if c v f = 2 ∨ (c v f = 1 ∧ s = true) then some [] else none
  | n + 1, U, s, v => sc (fun y => if U.testBit y = true ∨ c v y = 0 then none else (dfs c f n (U ||| 2 ^ y) (s || decide (c v y = 2)) y).map (List.cons y)) (8 - (f + 1)) (f + 1)
/-- the next year of the first row -/
def nxt (c : Nat → Nat → Nat) (f n : Nat) (s : Bool) (v : Nat) : Option Nat := sc (fun x => if 0 < eg c v x ∧ sw c n (s || decide (eg c v x = 2)) x f = true then some x else none) 8 0
def gl (c : Nat → Nat → Nat) (f : Nat) : Nat → Bool → Nat → List Nat
  | 0, _, _ => []
  | n + 1, s, v => match nxt c f (n + 1) s v with
    | none => []
    | some x => x :: gl c f n (s || decide (eg c v x = 2)) x
theorem sc_split {α : Type} {g : Nat → Option α} : ∀ (a b i : Nat), sc g (a + b) i = match sc g a i with
    | some x => some x
    | none => sc g b (i + a) := by
  intro a
  induction a with
  | zero => intro b i; rw [Nat.zero_add]; rfl
  | succ a ih =>
    intro b i
    rw [show a + 1 + b = (a + b) + 1 by omega, sc_s, sc_s]
    cases g i with
    | some x => rfl
    | none =>
      dsimp only
      rw [ih b (i + 1), show i + 1 + a = i + (a + 1) by omega]
theorem sc_all {α : Type} {g : Nat → Option α} : ∀ (k i : Nat), (∀ j, i ≤ j → j < i + k → g j = none) → sc g k i = none := by
  intro k
  induction k with
  | zero => intro i _; rfl
  | succ k ih =>
    intro i h
    rw [sc_s, h i (by omega) (by omega)]
    exact ih (i + 1) fun j a b => h j (by omega) (by omega)
theorem sc_at {α : Type} {g : Nat → Option α} {x : α} {k i j : Nat} (h1 : i ≤ j) (h2 : j < i + k) (h3 : ∀ t, i ≤ t → t < j → g t = none) (h4 : g j = some x) : sc g k i = some x := by
  have e : k = (j - i) + (i + k - j) := by omega
  rw [e, sc_split, sc_all (j - i) i fun t a b => h3 t a (by omega)]
  dsimp only
  obtain ⟨d, hd⟩ : ∃ d, i + k - j = d + 1 := ⟨i + k - j - 1, by omega⟩
  rw [hd, show i + (j - i) = j by omega, sc_s, h4]
theorem sc_map {α β : Type} {g : Nat → Option α} {t : α → β} : ∀ (k i : Nat), sc (fun x => (g x).map t) k i = (sc g k i).map t := by
  intro k
  induction k with
  | zero => intro i; rfl
  | succ k ih =>
    intro i
    rw [sc_s, sc_s]
    cases g i with
    | some x => rfl
    | none => exact ih (i + 1)
theorem nxt_none {f n v : Nat} {s : Bool} : nxt c f n s v = none ↔ sw c (n + 1) s v f = false := by
  constructor
  · intro h
    cases hs : sw c (n + 1) s v f with
    | false => rfl
    | true =>
      obtain ⟨x, h1, h2, h3⟩ := sw_s.mp hs
      have := sc_none 8 0 h x (by omega) (by omega)
      rw [if_pos ⟨h2, h3⟩] at this
      cases this
  · intro h
    unfold nxt
    refine sc_all 8 0 fun x _ hx => ?_
    rw [if_neg]
    rintro ⟨h2, h3⟩
    rw [sw_s.mpr ⟨x, by omega, h2, h3⟩] at h
    cases h
theorem nxt_some {f n v x : Nat} {s : Bool} (h : nxt c f n s v = some x) : x < 8 ∧ 0 < eg c v x ∧ sw c n (s || decide (eg c v x = 2)) x f = true := by
  obtain ⟨j, -, h2, h3, -⟩ := sc_fst 8 0 h
  split at h3
  · rename_i e
    cases h3
    exact ⟨by omega, e⟩
  · cases h3
theorem dfs_gl (c2 : ∀ i j, c i j ≤ 2) {k f : Nat} (N : NoS c k) (Lf : ∀ y, y < f → sw c k false y y = false) : ∀ (n j U : Nat) (s : Bool) (v : Nat), Pf c f j U s v → j + n + 1 = k → (n = 0 → v ≠ f) → dfs c f n U s v = if sw c (n + 1) s v f = true then some (gl c f n s v) else none := by
  intro n
  induction n with
  | zero =>
    intro j U s v H hk hv
    have vf := hv rfl
    have e : eg c v f = c v f := by unfold eg; rw [if_neg vf]
    have := c2 v f
    have iff1 : sw c 1 s v f = true ↔ (c v f = 2 ∨ (c v f = 1 ∧ s = true)) := by
      rw [sw_s]
      constructor
      · rintro ⟨x, h1, h2, h3⟩
        rcases sw_t.mp h3 with h3 | ⟨h5, h4⟩
        · cases h3
        · have ex : x = f := of_decide_eq_true h4
          subst ex
          rw [e] at h2 h5
          rw [Bool.or_eq_true, decide_eq_true_eq] at h5
          rcases h5 with h5 | h5
          · by_cases d : c v x = 2
            · exact Or.inl d
            · exact Or.inr ⟨by omega, h5⟩
          · exact Or.inl h5
      · intro h
        refine ⟨f, H.2.1, by rw [e]; omega, sw_t.mpr (Or.inr ⟨?_, decide_eq_true rfl⟩)⟩
        rw [e, Bool.or_eq_true, decide_eq_true_eq]
        rcases h with h | h
        · exact Or.inr h
        · exact Or.inl h.2
    show (if c v f = 2 ∨ (c v f = 1 ∧ s = true) then some [] else none) = if sw c 1 s v f = true then some [] else none
    by_cases d : c v f = 2 ∨ (c v f = 1 ∧ s = true)
    · rw [if_pos d, if_pos (iff1.mpr d)]
    · rw [if_neg d, if_neg (fun x => d (iff1.mp x))]
  | succ n ih =>
    intro j U s v H hk _
    obtain ⟨hv, hf, uv, uf, w, all⟩ := H
    have H : Pf c f j U s v := ⟨hv, hf, uv, uf, w, all⟩
    -- one year
    have low : ∀ x, x < 8 → x ≤ f → (if 0 < eg c v x ∧ sw c (n + 1) (s || decide (eg c v x = 2)) x f = true then some x else none : Option Nat) = none := by
      intro x hx hxf
      rw [if_neg]
      rintro ⟨h1, h2⟩
      have := (Pf.new N Lf H hx h1 (by omega) (by omega) h2).2
      omega
    have high : ∀ x, f < x → x < 8 → (if U.testBit x = true ∨ c v x = 0 then none else (dfs c f n (U ||| 2 ^ x) (s || decide (c v x = 2)) x).map (List.cons x)) = (if 0 < eg c v x ∧ sw c (n + 1) (s || decide (eg c v x = 2)) x f = true then some x else none : Option Nat).map (fun x => x :: gl c f n (s || decide (eg c v x = 2)) x) := by
      intro x hfx hx
      by_cases d : U.testBit x = true ∨ c v x = 0
      · rw [if_pos d, if_neg]
        · rfl
        · rintro ⟨h1, h2⟩
          rcases d with d | d
          · have := (Pf.new N Lf H hx h1 (by omega) (by omega) h2).1
            rw [d] at this
            cases this
          · unfold eg at h1
            split at h1 <;> omega
      · have d1 : U.testBit x = false := by
          cases h : U.testBit x with
          | false => rfl
          | true => exact absurd (Or.inl h) d
        have xv : v ≠ x := fun e => by rw [← e, uv] at d1; cases d1
        have e : eg c v x = c v x := by unfold eg; rw [if_neg xv]
        have he : 0 < eg c v x := by
          rw [e]
          rcases Nat.eq_zero_or_pos (c v x) with h | h
          · exact absurd (Or.inr h) d
          · exact h
        have := ih (j + 1) (U ||| 2 ^ x) (s || decide (eg c v x = 2)) x (H.ext hx he) (by omega) (fun _ => by omega)
        rw [e] at this
        rw [if_neg d, this, e]
        by_cases t : sw c (n + 1) (s || decide (c v x = 2)) x f = true
        · rw [if_pos t, if_pos ⟨by omega, t⟩, Option.map_some, Option.map_some, e]
        · rw [if_neg t, if_neg (fun q => t q.2)]
          rfl
    have e8 : sc (fun y => if U.testBit y = true ∨ c v y = 0 then none else (dfs c f n (U ||| 2 ^ y) (s || decide (c v y = 2)) y).map (List.cons y)) (8 - (f + 1)) (f + 1) = (nxt c f (n + 1) s v).map (fun x => x :: gl c f n (s || decide (eg c v x = 2)) x) := by
      unfold nxt
      rw [← sc_map, sc_cong (g := fun x => (if 0 < eg c v x ∧ sw c (n + 1) (s || decide (eg c v x = 2)) x f = true then some x else none : Option Nat).map (fun x => x :: gl c f n (s || decide (eg c v x = 2)) x)) (8 - (f + 1)) (f + 1) (fun x h1 h2 => high x (by omega) (by omega))]
      have sp := sc_split (g := fun x => (if 0 < eg c v x ∧ sw c (n + 1) (s || decide (eg c v x = 2)) x f = true then some x else none : Option Nat).map (fun x => x :: gl c f n (s || decide (eg c v x = 2)) x)) (f + 1) (8 - (f + 1)) 0
      rw [show f + 1 + (8 - (f + 1)) = 8 by omega, Nat.zero_add, sc_all (f + 1) 0 (fun x _ hx => by
        rw [low x (by omega) (by omega)]
        rfl)] at sp
      exact sp.symm
    show sc _ _ _ = _
    rw [e8]
    have eg1 : gl c f (n + 1) s v = match nxt c f (n + 1) s v with
      | none => []
      | some x => x :: gl c f n (s || decide (eg c v x = 2)) x := rfl
    cases hn : nxt c f (n + 1) s v with
    | none =>
      rw [if_neg (by rw [nxt_none.mp hn]; decide)]
      rfl
    | some x =>
      have : sw c (n + 1 + 1) s v f = true := by
        cases h : sw c (n + 1 + 1) s v f with
        | true => rfl
        | false => rw [nxt_none.mpr h] at hn; cases hn
      rw [if_pos this, eg1, hn]
      rfl
theorem dfs_sound (c2 : ∀ i j, c i j ≤ 2) {f : Nat} (hf : f < 8) : ∀ (n U : Nat) (s : Bool) (v : Nat) (l : List Nat), dfs c f n U s v = some l → U.testBit v = true → (n = 0 → v ≠ f) → sw c (n + 1) s v f = true ∧ l.length = n := by
  intro n
  induction n with
  | zero =>
    intro U s v l h uv hv
    have e : eg c v f = c v f := by unfold eg; rw [if_neg (hv rfl)]
    have h : (if c v f = 2 ∨ (c v f = 1 ∧ s = true) then some [] else none) = some l := h
    split at h
    · rename_i d
      cases h
      refine ⟨sw_s.mpr ⟨f, hf, by rw [e]; omega, sw_t.mpr (Or.inr ⟨?_, decide_eq_true rfl⟩)⟩, rfl⟩
      rw [e, Bool.or_eq_true, decide_eq_true_eq]
      rcases d with d | d
      · exact Or.inr d
      · exact Or.inl d.2
    · cases h
  | succ n ih =>
    intro U s v l h uv _
    obtain ⟨y, h1, h2, h3, -⟩ := sc_fst _ _ h
    split at h3
    · cases h3
    · rename_i d
      cases hd : dfs c f n (U ||| 2 ^ y) (s || decide (c v y = 2)) y with
      | none => rw [hd] at h3; cases h3
      | some l' =>
        rw [hd] at h3
        cases h3
        have yv : v ≠ y := fun e => d (Or.inl (by rw [← e]; exact uv))
        have e : eg c v y = c v y := by unfold eg; rw [if_neg yv]
        obtain ⟨a, b⟩ := ih _ _ _ _ hd (by rw [tb_or, decide_eq_true rfl, Bool.or_true]) (fun _ => by omega)
        refine ⟨sw_s.mpr ⟨y, by omega, ?_, by rw [e]; exact a⟩, by rw [List.length_cons, b]⟩
        rw [e]
        rcases Nat.eq_zero_or_pos (c v y) with q | q
        · exact absurd (Or.inr q) d
        · exact q
/-- the ring that the class finds; that the reference finds -/
def rgC (c : Nat → Nat → Nat) : Option (Nat × Nat × List Nat) := sc (fun k => sc (fun y => (dfs c y (k - 1) (2 ^ y) false y).map fun l => (k, y, l)) 8 0) 7 2
def rgM (c : Nat → Nat → Nat) : Option (Nat × Nat) := sc (fun k => sc (fun y => if ws c k y y = true then some (k, y) else none) 8 0) 7 2
theorem sw_f {n y z : Nat} : sw c n false y z = ws c n y z := by
  unfold sw
  rw [Bool.false_and, Bool.or_false]
theorem ring_eq (c2 : ∀ i j, c i j ≤ 2) : rgC c = (rgM c).map fun t => (t.1, t.2, gl c t.2 (t.1 - 1) false t.2) := by
  have no : ∀ k y, 2 ≤ k → y < 8 → ws c k y y = false → dfs c y (k - 1) (2 ^ y) false y = none := by
    intro k y hk hy h
    cases hd : dfs c y (k - 1) (2 ^ y) false y with
    | none => rfl
    | some l =>
      have := (dfs_sound c2 hy (k - 1) (2 ^ y) false y l hd (by rw [Nat.testBit_two_pow, decide_eq_true rfl]) (fun e => by omega)).1
      rw [show k - 1 + 1 = k by omega, sw_f, h] at this
      cases this
  cases h : rgM c with
  | none =>
    refine sc_all 7 2 fun k h1 h2 => sc_all 8 0 fun y _ hy => ?_
    have := sc_none 8 0 (sc_none 7 2 h k h1 h2) y (by omega) (by omega)
    split at this
    · cases this
    · rename_i d
      rw [no k y (by omega) (by omega) (by simpa using d)]
      rfl
  | some t =>
    obtain ⟨k, h1, h2, h3, h4⟩ := sc_fst 7 2 h
    obtain ⟨y, h5, h6, h7, h8⟩ := sc_fst 8 0 h3
    split at h7
    · rename_i d
      cases h7
      have nos : NoS c k := by
        intro l l1 l2 z hz
        rw [sw_f]
        by_cases e : l = 1
        · subst e
          cases hw : ws c 1 z z with
          | false => rfl
          | true =>
            obtain ⟨x, hx, he, hh⟩ := ws_s.mp hw
            rcases hh with hh | ⟨-, hh⟩
            · cases hh
            · have ex : x = z := of_decide_eq_true hh
              subst ex
              unfold eg at he
              rw [if_pos rfl] at he
              omega
        · have := sc_none 8 0 (h4 l (by omega) l2) z (by omega) (by omega)
          split at this
          · cases this
          · rename_i q; simpa using q
      have lf : ∀ z, z < y → sw c k false z z = false := by
        intro z hz
        rw [sw_f]
        have := h8 z (by omega) hz
        split at this
        · cases this
        · rename_i q; simpa using q
      refine sc_at h1 h2 (fun l l1 l2 => sc_all 8 0 fun z _ hz => ?_) (sc_at (j := y) (by omega) h6 (fun z _ hz => ?_) ?_)
      · have e := nos l (by omega) l2 z (by omega)
        rw [sw_f] at e
        rw [no l z l1 (by omega) e]
        rfl
      · have e := lf z hz
        rw [sw_f] at e
        rw [no k z h1 (by omega) e]
        rfl
      · dsimp only
        rw [dfs_gl c2 nos lf (k - 1) 0 (2 ^ y) false y (Pf.one (by omega)) (by omega) (fun e => by omega), show k - 1 + 1 = k by omega, sw_f, if_pos d]
        rfl
    · cases h7
end
