/-! ===== sims: clash ===== -/
/-- the laws that a number keeps, from one law on -/
def ksg (K : Nat → Bool) : Nat → Nat → Nat → Nat
  | 0, _, a => a
  | k + 1, l, a => ksg K k (l + 1) (if K l then a ||| 2 ^ l else a)
theorem ksg_lt (K : Nat → Bool) : ∀ (k l a : Nat), l + k ≤ 7 → a < 128 → ksg K k l a < 128 := by
  intro k
  induction k with
  | zero => intro l a _ h; exact h
  | succ k ih =>
    intro l a hl h
    unfold ksg
    refine ih (l + 1) _ (by omega) ?_
    split
    · exact Nat.or_lt_two_pow (n := 7) h (Nat.pow_lt_pow_right (by decide) (by omega))
    · exact h
/-- does number n keep a law -/
def kpb (T : Nt) (pr br : Nat → Nat) (w n law : Nat) : Bool := (brkQ (nW T n) (nM T n) pr br w law).isNone
def kq (T : Nt) (pr br : Nat → Nat) (w n : Nat) : Nat := ksg (kpb T pr br w n) 7 0 0
theorem sh_7 : ∀ g, g < 7 → ((1 : Int32) <<< (nI g &&& 31)) = nI (2 ^ g) := by decide +kernel
theorem sh_b7 : ∀ s, s < 128 → ∀ g, g < 7 → ((nI s >>> (nI g &&& 31)) &&& (1 : Int32)) = if s.testBit g then nI 1 else nI 0 := by decide +kernel
/-- a set is kept by one of the first numbers -/
def sbK (s k : Nat) : Bool := decide ((nI s &&& (nI k ^^^ (-1 : Int32))) = 0)
def kbo (K : Nat → Nat) (s : Nat) : Nat → Nat → Bool
  | 0, _ => false
  | k + 1, n => sbK s (K n) || kbo K s k (n + 1)
/-- the least set, by sizes -/
def lkS (P : Nat → Bool) (size : Nat) : Nat → Option Nat := fun s => if bc s = size ∧ P s = true then some s else none
def lkn (P : Nat → Bool) : Option Nat := sc (fun size => sc (lkS P size) 128 0) 8 0
/-- the least set, one after the other -/
def mfo (P : Nat → Bool) : Nat → Nat → Option Nat → Option Nat
  | 0, _, x => x
  | k + 1, s, x => mfo P k (s + 1) (if P s then (match x with
    | none => some s
    | some b => if bc s < bc b then some s else some b) else x)
theorem mfo_n {P : Nat → Bool} {k s : Nat} (x : Option Nat) (h : P s = false) : mfo P (k + 1) s x = mfo P k (s + 1) x := by
  show mfo P k (s + 1) (if P s = true then _ else x) = _
  rw [if_neg (by rw [h]; decide)]
theorem mfo_y {P : Nat → Bool} {k s : Nat} (h : P s = true) : mfo P (k + 1) s none = mfo P k (s + 1) (some s) ∧ ∀ b, mfo P (k + 1) s (some b) = mfo P k (s + 1) (if bc s < bc b then some s else some b) := by
  constructor
  · rw [mfo, if_pos h]
  · intro b
    rw [mfo, if_pos h]
def Bst (P : Nat → Bool) (k : Nat) (x : Option Nat) : Prop := (x = none ∧ ∀ s, s < k → P s = false) ∨ ∃ b, b < k ∧ x = some b ∧ P b = true ∧ ∀ s, s < k → P s = true → bc b < bc s ∨ (bc b = bc s ∧ b ≤ s)
theorem mfo_b {P : Nat → Bool} : ∀ (k s : Nat) (x : Option Nat), Bst P s x → Bst P (s + k) (mfo P k s x) := by
  intro k
  induction k with
  | zero => intro s x h; exact h
  | succ k ih =>
    intro s x h
    unfold mfo
    rw [show s + (k + 1) = s + 1 + k by omega]
    apply ih
    cases hP : P s with
    | false =>
      rw [if_neg (by decide)]
      rcases h with ⟨rfl, h⟩ | ⟨b, hb, rfl, pb, h⟩
      · refine Or.inl ⟨rfl, fun t ht => ?_⟩
        by_cases c : t = s
        · rw [c]; exact hP
        · exact h t (by omega)
      · refine Or.inr ⟨b, by omega, rfl, pb, fun t ht pt => ?_⟩
        by_cases c : t = s
        · rw [c, hP] at pt; cases pt
        · exact h t (by omega) pt
    | true =>
      rw [if_pos rfl]
      rcases h with ⟨rfl, h⟩ | ⟨b, hb, rfl, pb, h⟩
      · refine Or.inr ⟨s, by omega, rfl, hP, fun t ht pt => ?_⟩
        by_cases c : t = s
        · subst c; exact Or.inr ⟨rfl, Nat.le_refl _⟩
        · rw [h t (by omega)] at pt; cases pt
      · dsimp only
        by_cases c : bc s < bc b
        · rw [if_pos c]
          refine Or.inr ⟨s, by omega, rfl, hP, fun t ht pt => ?_⟩
          by_cases d : t = s
          · subst d; exact Or.inr ⟨rfl, Nat.le_refl _⟩
          · have := h t (by omega) pt
            omega
        · rw [if_neg c]
          refine Or.inr ⟨b, by omega, rfl, pb, fun t ht pt => ?_⟩
          by_cases d : t = s
          · subst d; omega
          · exact h t (by omega) pt
theorem sc_s {α : Type} {f : Nat → Option α} {k i : Nat} : sc f (k + 1) i = (match f i with
    | some x => some x
    | none => sc f k (i + 1)) := rfl
theorem sc_none {α : Type} {f : Nat → Option α} : ∀ (k i : Nat), sc f k i = none → ∀ j, i ≤ j → j < i + k → f j = none := by
  intro k
  induction k with
  | zero => intro i _ j h1 h2; omega
  | succ k ih =>
    intro i h j h1 h2
    unfold sc at h
    cases hf : f i with
    | some y => rw [hf] at h; cases h
    | none =>
      rw [hf] at h
      by_cases c : j = i
      · rw [c]; exact hf
      · exact ih (i + 1) h j (by omega) (by omega)
theorem sc_fst {α : Type} {f : Nat → Option α} {x : α} : ∀ (k i : Nat), sc f k i = some x → ∃ j, i ≤ j ∧ j < i + k ∧ f j = some x ∧ ∀ t, i ≤ t → t < j → f t = none := by
  intro k
  induction k with
  | zero => intro i h; cases h
  | succ k ih =>
    intro i h
    unfold sc at h
    cases hf : f i with
    | none =>
      rw [hf] at h
      obtain ⟨j, a, b, c, d⟩ := ih (i + 1) h
      exact ⟨j, by omega, by omega, c, fun t h1 h2 => by
        by_cases e : t = i
        · rw [e]; exact hf
        · exact d t (by omega) h2⟩
    | some y =>
      rw [hf] at h
      exact ⟨i, by omega, by omega, by rw [hf]; exact h, fun t h1 h2 => by omega⟩
theorem bc_le : ∀ s, s < 128 → bc s < 8 := by decide +kernel
theorem lkn_b (P : Nat → Bool) : Bst P 128 (lkn P) := by
  cases h : lkn P with
  | none =>
    refine Or.inl ⟨rfl, fun s hs => ?_⟩
    have h1 := sc_none 8 0 h (bc s) (by omega) (by have := bc_le s hs; omega)
    have h2 := sc_none 128 0 h1 s (by omega) (by omega)
    unfold lkS at h2
    split at h2
    · cases h2
    · rename_i c
      cases hP : P s with
      | false => rfl
      | true => exact absurd ⟨rfl, hP⟩ c
  | some b =>
    obtain ⟨z, -, hz, h1, h2⟩ := sc_fst 8 0 h
    obtain ⟨s, -, hs, h3, h4⟩ := sc_fst 128 0 h1
    unfold lkS at h3
    split at h3
    · rename_i c
      cases h3
      refine Or.inr ⟨b, by omega, rfl, c.2, fun t ht pt => ?_⟩
      by_cases d : bc t < z
      · have := sc_none 128 0 (h2 (bc t) (by omega) d) t (by omega) (by omega)
        unfold lkS at this
        rw [if_pos ⟨rfl, pt⟩] at this
        cases this
      · by_cases e : bc t = z
        · refine Or.inr ⟨by omega, ?_⟩
          rcases Nat.lt_or_ge t b with f | f
          · have := h4 t (by omega) f
            unfold lkS at this
            rw [if_pos ⟨e, pt⟩] at this
            cases this
          · exact f
        · omega
    · cases h3
theorem bst_uq {P : Nat → Bool} {k : Nat} {x y : Option Nat} (hx : Bst P k x) (hy : Bst P k y) : x = y := by
  rcases hx with ⟨rfl, h⟩ | ⟨b, hb, rfl, pb, h⟩
  · rcases hy with ⟨rfl, -⟩ | ⟨c, hc, rfl, pc, -⟩
    · rfl
    · rw [h c hc] at pc; cases pc
  · rcases hy with ⟨rfl, h'⟩ | ⟨c, hc, rfl, pc, h'⟩
    · rw [h' b hb] at pb; cases pb
    · have a1 := h c hc pc
      have a2 := h' b hb pb
      congr 1
      omega
theorem lk_eq (P : Nat → Bool) : lkn P = mfo P 128 0 none := bst_uq (lkn_b P) (by
  have := mfo_b (P := P) 128 0 none (Or.inl ⟨rfl, fun s h => absurd h (by omega)⟩)
  rw [Nat.zero_add] at this
  exact this)
section
variable {h : Hp} {S m mk : Nat} {T : Nt} {p q pr br tx : Nat → Nat} {len : Nat} {lf : Int32} {F : Nat → Value}
/-- what no number keeps -/
def Pq (K : Nat → Nat) (mk s : Nat) : Bool := !kbo K s mk 0
/-! the class's side -/
theorem L_kept_loop (H : isO h (S + 45) 2 = true) (g7 : gA h (S + 45) 2 7 = some (some (S + 50))) {A : Nat → Int32} {K : Nat → Nat} (hA : h (S + 50) = some (.inl (0, 8, .inl A))) (hK : ∀ n, n < mk → A n = nI (K n)) (hm : mk ≤ 8) {s : Nat} : ∀ (k f n : Nat), n + k = mk → f_L_isKeptByOne_2 (S + 45) h (f + k + 1) (nI s) (nI mk) (nI n) = some (bI (kbo K s k n)) := by
  intro k
  induction k with
  | zero =>
    intro f n hn
    have e : n = mk := by omega
    subst e
    show t_L_isKeptByOne_2 _ _ _ _ _ _ = _
    unfold t_L_isKeptByOne_2
    rw [if_pos (nI_le (Nat.le_refl _) (by omega))]
    rfl
  | succ k ih =>
    intro f n hn
    show t_L_isKeptByOne_2 _ _ (f_L_isKeptByOne_2 (S + 45) h (f + k + 1)) _ _ _ = _
    unfold t_L_isKeptByOne_2
    rw [if_neg (nI_ge (by omega) (by omega)), g7, Option.bind_some, Option.bind_some, an_any hA (by decide), Option.bind_some, if_neg (nI_ge (by omega) (by decide)), Option.bind_some, Option.bind_some, ai_get hA (by omega) (by decide), Option.bind_some, hK n (by omega)]
    unfold kbo sbK
    by_cases c : (nI s &&& (nI (K n) ^^^ (-1 : Int32))) = 0
    · rw [if_pos c, decide_eq_true c]
      rfl
    · rw [if_neg c, decide_eq_false c, nI_1, ih f (n + 1) (by omega)]
      rfl
theorem L_lk10 (H : isO h (S + 45) 2 = true) (g7 : gA h (S + 45) 2 7 = some (some (S + 50))) {A : Nat → Int32} {K : Nat → Nat} (hA : h (S + 50) = some (.inl (0, 8, .inl A))) (hK : ∀ n, n < mk → A n = nI (K n)) (hm : mk ≤ 8) {size : Nat} (hz : size < 8) (k2 : Int32 → Int32 → Option Int32) : ∀ (k f s : Nat), s + k = 128 → f_L_leastKeptByNone_10 (S + 45) h k2 (f + k + 1) (nI mk) (nI size) (nI s) = match sc (lkS (Pq K mk) size) k s with
    | some x => some (nI x)
    | none => k2 (nI mk) (nI (size + 1)) := by
  intro k
  induction k with
  | zero =>
    intro f s hs
    have e : s = 128 := by omega
    subst e
    show t_L_leastKeptByNone_10 _ _ _ _ _ _ _ = _
    unfold t_L_leastKeptByNone_10
    rw [if_pos (by decide), nI_1]
    rfl
  | succ k ih =>
    intro f s hs
    have s128 : s < 128 := by omega
    have b8 := bc_le s s128
    show t_L_leastKeptByNone_10 _ _ _ (f_L_leastKeptByNone_10 (S + 45) h k2 (f + k + 1)) _ _ _ = _
    unfold t_L_leastKeptByNone_10
    rw [if_neg (show ¬ (128 : Int32) ≤ nI s from nI_ge (b := 128) s128 (by decide)), bitC s128, Option.bind_some]
    unfold sc lkS
    by_cases c : bc s = size
    · rw [if_pos (show nI (bc s) = nI size by rw [c])]
      unfold f_L_isKeptByOne
      rw [if_pos H]
      have fu : FU - mk - 1 + mk + 1 = FU := by unfold FU; omega
      have := L_kept_loop H g7 hA hK hm (s := s) mk (FU - mk - 1) 0 (by omega)
      rw [fu] at this
      rw [show f_L_isKeptByOne_2 (S + 45) h FU (nI s) (nI mk) (0 : Int32) = _ from this, Option.bind_some]
      unfold Pq
      cases kbo K s mk 0 with
      | false =>
        rw [if_pos (show bI false = 0 from rfl), if_pos ⟨c, rfl⟩]
      | true =>
        rw [if_neg (show ¬ bI true = 0 by decide), if_neg (fun x => by cases x.2)]
        unfold f_L_leastKeptByNone_36
        rw [nI_1]
        exact ih f (s + 1) (by omega)
    · rw [if_neg (fun e => c ((nI_eq (by omega) (by omega)).mp e)), if_neg (fun x => c x.1)]
      unfold f_L_leastKeptByNone_36
      rw [nI_1]
      exact ih f (s + 1) (by omega)
theorem L_lk2 (H : isO h (S + 45) 2 = true) (g7 : gA h (S + 45) 2 7 = some (some (S + 50))) {A : Nat → Int32} {K : Nat → Nat} (hA : h (S + 50) = some (.inl (0, 8, .inl A))) (hK : ∀ n, n < mk → A n = nI (K n)) (hm : mk ≤ 8) : ∀ (k f size : Nat), size + k = 8 → f_L_leastKeptByNone_2 (S + 45) h (f + k + 1) (nI mk) (nI size) = some (oC (sc (fun size => sc (lkS (Pq K mk) size) 128 0) k size)) := by
  intro k
  induction k with
  | zero =>
    intro f size hs
    have e : size = 8 := by omega
    subst e
    rfl
  | succ k ih =>
    intro f size hs
    show t_L_leastKeptByNone_2 _ _ (f_L_leastKeptByNone_2 (S + 45) h (f + k + 1)) _ _ = _
    unfold t_L_leastKeptByNone_2
    rw [if_neg (show ¬ (7 : Int32) < nI size from nI_nlt (a := 7) (by omega) (by decide))]
    have := L_lk10 H g7 hA hK hm (show size < 8 by omega) (f_L_leastKeptByNone_2 (S + 45) h (f + k + 1)) 128 (FU - 129) 0 rfl
    rw [show f_L_leastKeptByNone_10 (S + 45) h (f_L_leastKeptByNone_2 (S + 45) h (f + k + 1)) FU (nI mk) (nI size) 0 = _ from this]
    rw [sc_s (f := fun size => sc (lkS (Pq K mk) size) 128 0) (k := k) (i := size)]
    cases sc (lkS (Pq K mk) size) 128 0 with
    | some x => rfl
    | none => exact ih f (size + 1) (by omega)
theorem CI.kept (H : CI h S mk T p q pr br tx len lf) (hm : mk ≤ 8) {A : Nat → Int32} : CI (hup h (S + 50) (.inl (0, 8, .inl A))) S mk T p q pr br tx len lf := by
  obtain ⟨a, ⟨PF, b1, b2⟩, c, d, f, ⟨g1, g2⟩, i, A0, j⟩ := H
  obtain ⟨pl, w, t, rc, FF, V, F49, oF, oT, P⟩ := d
  obtain ⟨vb, ⟨pt, qt, tr⟩, z, l, u, v, k, x, y⟩ := V
  have e' : ∀ c, c ≠ S + 50 → (hup h (S + 50) (.inl (0, 8, .inl A))) c = h c := fun c hc => hup_n hc
  exact ⟨by rw [e' _ (by omega)]; exact a, ⟨PF, by rw [e' _ (by omega)]; exact b1, b2⟩, fun k hk => by
    obtain ⟨s, WF, MF, X⟩ := c k hk
    exact ⟨s, WF, MF, X.cong fun c _ _ => e' c (by omega)⟩, ⟨pl, w, t, rc, FF, ⟨vb.cong fun c _ _ => e' c (by omega), ⟨pt, qt, tr.cong fun c _ _ => e' c (by omega)⟩, z.cong fun c _ _ => e' c (by omega), by rw [e' _ (by omega)]; exact l, by rw [e' _ (by omega)]; exact u, by rw [e' _ (by omega)]; exact v, by rw [e' _ (by omega)]; exact k, x.cong (e' _ (by omega)), y.cong (e' _ (by omega))⟩, by rw [e' _ (by omega)]; exact F49, oF, oT, P.cong hm fun c _ _ => e' c (by omega)⟩, f.cong fun c _ _ => e' c (by omega), ⟨g1.cong (e' _ (by omega)), g2.cong (e' _ (by omega))⟩, i.cong fun c _ _ => e' c (by omega), A, hup_s⟩
theorem CI.l7 (H : CI h S mk T p q pr br tx len lf) : isO h (S + 45) 2 = true ∧ gA h (S + 45) 2 7 = some (some (S + 50)) := by
  obtain ⟨-, -, -, ⟨pl, w, t, rc, FF, V, -⟩, -⟩ := H
  exact ⟨V.o, V.a.2.2.2.2.2.2.2.1⟩
theorem Y_cl26 (B : RB p q pr br) (hm : mk ≤ 8) {w n : Nat} (hw : w < 4) (hn : n < mk) (k13 : Int32 → Int32 → Hp → Option (Int32 × Hp)) {A : Nat → Int32} : ∀ (k f law a : Nat) (h : Hp), law + k = 7 → CI h S mk T p q pr br tx len lf → h (S + 50) = some (.inl (0, 8, .inl A)) → ∃ h', f_Y_clash_26 S k13 (f + k + 1) (nI w) (nI n) (nI a) (nI law) h = k13 (nI w) (nI (n + 1)) h' ∧ CI h' S mk T p q pr br tx len lf ∧ h' (S + 50) = some (.inl (0, 8, .inl (upd A n (nI (ksg (kpb T pr br w n) k law a))))) ∧ ∀ c, S + 59 ≤ c → h' c = h c := by
  intro k
  induction k with
  | zero =>
    intro f law a h hl C h50
    have e : law = 7 := by omega
    subst e
    obtain ⟨-, -, -, -, -, a5, -⟩ := C.a
    obtain ⟨o, g7⟩ := C.l7
    refine ⟨_, ?_, C.kept hm (A := upd A n (nI a)), hup_s, fun c hc => hup_n (by omega)⟩
    show t_Y_clash_26 _ _ _ _ _ _ _ _ = _
    unfold t_Y_clash_26
    rw [if_pos (by decide), a5, Option.bind_some, Option.bind_some]
    unfold f_L_setKept
    rw [if_pos o, if_neg (nI_pos (by omega)), g7, Option.bind_some, Option.bind_some, an_any h50 (by decide), Option.bind_some, if_neg (nI_ge (by omega) (by decide)), Option.bind_some, Option.bind_some, ai_set h50 (by omega) (by decide), Option.bind_some, Option.bind_some, nI_1]
  | succ k ih =>
    intro f law a h hl C h50
    obtain ⟨-, -, -, -, -, a5, -⟩ := C.a
    obtain ⟨h1, E1, L1, F1⟩ := L_breachOf C.2.2.2.1 B hm hn hw (show law < 7 by omega)
    have C1 := C.la hm L1 F1
    have h50' : h1 (S + 50) = some (.inl (0, 8, .inl A)) := by rw [F1 _ (by omega) (by omega) (by omega) (by omega)]; exact h50
    obtain ⟨h', G1, G2, G3, G4⟩ := ih f (law + 1) (if kpb T pr br w n law then a ||| 2 ^ law else a) h1 (by omega) C1 h50'
    refine ⟨h', ?_, G2, G3, fun c hc => by rw [G4 c hc, F1 c (by omega) (by omega) (by omega) (by omega)]⟩
    rw [← G1]
    show t_Y_clash_26 _ _ (f_Y_clash_26 S k13 (f + k + 1)) _ _ _ _ _ = _
    unfold t_Y_clash_26
    rw [if_neg (show ¬ (7 : Int32) ≤ nI law from nI_ge (b := 7) (by omega) (by decide)), a5, Option.bind_some, Option.bind_some, (Y_num_in C hm hn).2, Option.bind_some, Option.bind_some, E1, zb2_s]
    have c1 := cd_1 (law := law) (x := brkQ (nW T n) (nM T n) pr br w law) (fun t e => brk_b e)
    unfold kpb f_Y_clash_60
    cases hx : brkQ (nW T n) (nM T n) pr br w law with
    | none =>
      rw [hx] at c1
      rw [if_pos (c1.mpr rfl), if_pos (show Option.isNone none = true from rfl), sh_7 law (by omega), n_or, nI_1]
    | some t =>
      rw [hx] at c1
      rw [if_neg (fun e => by have := c1.mp e; cases this), if_neg (show ¬ Option.isNone (some t) = true by simp), nI_1]
theorem Y_cl13 (B : RB p q pr br) (hm : mk ≤ 8) {w : Nat} (hw : w < 4) : ∀ (k f n : Nat) (h : Hp) (A : Nat → Int32), n + k = mk → CI h S mk T p q pr br tx len lf → h (S + 50) = some (.inl (0, 8, .inl A)) → (∀ j, j < n → A j = nI (kq T pr br w j)) → ∃ h', f_Y_clash_13 S (f + k + 1) (nI w) (nI n) h = some (oC (lkn (Pq (kq T pr br w) mk)), h') ∧ CI h' S mk T p q pr br tx len lf ∧ ∀ c, S + 59 ≤ c → h' c = h c := by
  intro k
  induction k with
  | zero =>
    intro f n h A hn C h50 hA
    have e : n = mk := by omega
    subst e
    obtain ⟨-, -, -, -, -, a5, -, -, -, a9, -⟩ := C.a
    obtain ⟨o, g7⟩ := C.l7
    refine ⟨h, ?_, C, fun _ _ => rfl⟩
    show t_Y_clash_13 _ _ _ _ _ = _
    unfold t_Y_clash_13
    rw [a9, Option.bind_some, if_pos (nI_le (Nat.le_refl _) (by omega)), a5, Option.bind_some, Option.bind_some, Option.bind_some]
    unfold f_L_leastKeptByNone
    rw [if_pos o, show f_L_leastKeptByNone_2 (S + 45) h FU (nI n) (0 : Int32) = _ from L_lk2 o g7 h50 hA hm 8 (FU - 9) 0 rfl]
    rfl
  | succ k ih =>
    intro f n h A hn C h50 hA
    obtain ⟨-, -, -, -, -, a5, -, -, -, a9, -⟩ := C.a
    obtain ⟨h1, E1, C1, h51, F1⟩ := Y_cl26 B hm hw (show n < mk by omega) (f_Y_clash_13 S (f + k + 1)) 7 (FU - 8) 0 0 h rfl C h50
    obtain ⟨h', G1, G2, G3⟩ := ih f (n + 1) h1 _ (by omega) C1 h51 (fun j hj => by
      by_cases c : j = n
      · subst c; rw [pk_us]; rfl
      · rw [pk_un c]; exact hA j (by omega))
    refine ⟨h', ?_, G2, fun c hc => by rw [G3 c hc, F1 c hc]⟩
    rw [← G1, ← E1]
    show t_Y_clash_13 _ (f_Y_clash_13 S (f + k + 1)) _ _ _ = _
    unfold t_Y_clash_13
    rw [a9, Option.bind_some, if_neg (nI_ge (by omega) (by omega))]
    rfl
end
