/-! ===== the reference: a law ===== -/
def lawQ (W M p b : Nat → Nat) (w law a z c : Nat) : LR :=
  if law = 0 then sameQ W M p (bam b w) a z
  else if law = 1 then backQ (evw W M p (bam b w)) a z
  else if law = 2 then thirdQ (evw W M p (bam b w)) a z c
  else if law = 3 then twiceQ W M p (bam b w) a z
  else if law = 4 then unitsQ W M p b w a z c
  else if law = 5 then upQ W M p (bam b w) a z c
  else betwQ (evw W M p (bam b w)) p a z
/-- the reference between two works -/
def MS (h : Hp) (m base n : Nat) (p b W M : Nat → Nat) (F : Nat → Value) : Prop := ∃ s u l r, s.1 = F ∧ MX h m base n p b W M s ∧ MK h m F u l r ∧ MWas h m F
/-- all cells but the reference's own stay -/
def MFs (h h' : Hp) (m : Nat) : Prop := ∀ c, ¬ ((m ≤ c ∧ c < m + 3) ∨ (m + 8 ≤ c ∧ c < m + 21)) → h' c = h c
theorem MFs.trans {h h1 h2 : Hp} {m : Nat} (a : MFs h h1 m) (b : MFs h1 h2 m) : MFs h h2 m := fun c x => by rw [b c x, a c x]
theorem MFr.s {h h1 : Hp} {m : Nat} (a : MFr h h1 m) : MFs h h1 m := fun c x => a c (by omega)
def LawR (x : Option (Int32 × Hp)) (h : Hp) (m base n : Nat) (p b W M : Nat → Nat) (F : Nat → Value) (res : LR) : Prop := ∃ h' F', x = some (cod res, h') ∧ MS h' m base n p b W M F' ∧ MEq F F' ∧ MFs h h' m
section
variable {h : Hp} {m base n : Nat} {p b W M : Nat → Nat} {s : St} {res : LR} {x : Option (Int32 × Hp)}
theorem MLaw.r (A : MWas h m s.1) (H : MLaw x h m base n p b W M s res) : LawR x h m base n p b W M s.1 res := by
  obtain ⟨h', s', u', l', r', e, H1, K1, e1, f1⟩ := H
  exact ⟨h', s'.1, e, ⟨s', u', l', r', rfl, H1, K1, A.cong (fun c _ _ => f1 c (by omega)) e1⟩, e1, f1.s⟩
theorem MLawB.r (H : MLawB x h m base n p b W M s res) : LawR x h m base n p b W M s.1 res := by
  obtain ⟨h', s', u', l', r', e, H1, K1, e1, a1, f1⟩ := H
  exact ⟨h', s'.1, e, ⟨s', u', l', r', rfl, H1, K1, a1⟩, e1, f1⟩
end
/-- what a law's third part may be -/
def lmost (law : Nat) : Nat := if law = 2 then 8 else if law = 4 ∨ law = 5 then 5 else 1
theorem M_law {h : Hp} {m num n w : Nat} {p b W M : Nat → Nat} {F : Nat → Value} (H : MS h m (40 * num) n p b W M F) (hg : good W M 8 0 n) (hn : n ≤ 20) (h99 : ∀ k, k < 40 → p k ≤ 99) (h9 : ∀ k, k < 150 → b k ≤ 9) {law a z c : Nat} (hw : w < 4) (hl : law < 7) (ha : a < 8) (hz : z < 8) (hc : c < lmost law) : LawR (f_M_law m (nI num) (nI w) (nI law) (nI a) (nI z) (nI c) h) h m (40 * num) n p b W M F (lawQ W M p b w law a z c) := by
  obtain ⟨s, u, l, r, rfl, X, K, A⟩ := H
  have nl : ∀ k : Nat, k < 7 → law ≠ k → ¬ nI law = nI k := fun k hk hne e => hne ((nI_eq (by omega) (by omega)).mp e)
  have st : ∀ {x : Option (Int32 × Hp)} {res : LR}, LawR x h m (40 * num) n p b W M s.1 res → LawR (zb2 x fun i g => some (i, g)) h m (40 * num) n p b W M s.1 res := by
    rintro x res ⟨h', F', e, R⟩
    exact ⟨h', F', by rw [e]; rfl, R⟩
  unfold f_M_law lawQ
  rw [if_pos X.o]
  by_cases c0 : law = 0
  · subst c0
    rw [if_pos (show nI 0 = (0 : Int32) from rfl), if_pos (show 0 = 0 from rfl)]
    exact st (M_sameLaw X K A hg hn hw ha hz).r
  rw [if_neg (show ¬ nI law = (0 : Int32) from nl 0 (by decide) c0), if_neg c0]
  by_cases c1 : law = 1
  · subst c1
    rw [if_pos (show nI 1 = (1 : Int32) from rfl), if_pos (show 1 = 1 from rfl)]
    exact st ((M_backLaw X K hg hn hw ha hz).r A)
  rw [if_neg (show ¬ nI law = (1 : Int32) from nl 1 (by decide) c1), if_neg c1]
  by_cases c2 : law = 2
  · subst c2
    rw [if_pos (show nI 2 = (2 : Int32) from rfl), if_pos (show 2 = 2 from rfl)]
    exact st ((M_thirdLaw X K hg hn hw ha hz (show c < 8 from hc)).r A)
  rw [if_neg (show ¬ nI law = (2 : Int32) from nl 2 (by decide) c2), if_neg c2]
  by_cases c3 : law = 3
  · subst c3
    rw [if_pos (show nI 3 = (3 : Int32) from rfl), if_pos (show 3 = 3 from rfl)]
    exact st (M_twiceLaw X K A hg hn hw ha hz (fun g hg => h99 _ (by omega))).r
  rw [if_neg (show ¬ nI law = (3 : Int32) from nl 3 (by decide) c3), if_neg c3]
  by_cases c4 : law = 4
  · subst c4
    have hc5 : c < 5 := hc
    rw [if_pos (show nI 4 = (4 : Int32) from rfl), if_pos (show 4 = 4 from rfl)]
    exact st (M_unitsLaw X K A hg hn hw ha hz hc5 (fun y hy => h99 _ (by omega)) h9).r
  rw [if_neg (show ¬ nI law = (4 : Int32) from nl 4 (by decide) c4), if_neg c4]
  by_cases c5 : law = 5
  · subst c5
    have hc5 : c < 5 := hc
    rw [if_pos (show nI 5 = (5 : Int32) from rfl), if_pos (show 5 = 5 from rfl)]
    exact st ((M_upLaw X K hg hn hw ha hz hc5 (h99 _ (by omega))).r A)
  rw [if_neg (show ¬ nI law = (5 : Int32) from nl 5 (by decide) c5), if_neg c5]
  exact st ((M_betweenLaw X K hg hn hw ha hz).r A)
/-! ===== the first breach ===== -/
def sc {α : Type} (f : Nat → Option α) : Nat → Nat → Option α
  | 0, _ => none
  | k + 1, i => match f i with
    | some x => some x
    | none => sc f k (i + 1)
theorem sc_cong {α : Type} {f g : Nat → Option α} : ∀ (k i : Nat), (∀ j, i ≤ j → j < i + k → f j = g j) → sc f k i = sc g k i := by
  intro k
  induction k with
  | zero => intro i _; rfl
  | succ k ih =>
    intro i h
    unfold sc
    rw [h i (by omega) (by omega), ih (i + 1) (fun j a b => h j (by omega) (by omega))]
/-- is the third part wanted -/
def wnt (law all a z c : Nat) : Bool := if law = 2 then decide (c ≠ a ∧ c ≠ z) else if law = 4 ∨ law = 5 then all.testBit c else true
def brkC (bad : Nat → Nat → Nat → Bool) (law all a z : Nat) : Nat → Option (Nat × Nat × Nat) := fun c => if wnt law all a z c && bad a z c then some (a, z, c) else none
def brkB (bad : Nat → Nat → Nat → Bool) (law all a : Nat) : Nat → Option (Nat × Nat × Nat) := fun z => if a = z then none else sc (brkC bad law all a z) (lmost law) 0
def brkA (bad : Nat → Nat → Nat → Bool) (law all : Nat) : Nat → Option (Nat × Nat × Nat) := fun a => sc (brkB bad law all a) 8 0
def brk (bad : Nat → Nat → Nat → Bool) (law all : Nat) : Option (Nat × Nat × Nat) := sc (brkA bad law all) 8 0
def badQ (W M p b : Nat → Nat) (w law a z c : Nat) : Bool := match lawQ W M p b w law a z c with
  | .ok t => !t
  | .error _ => false
theorem cod_0 {x : LR} (k : ∀ e, x = .error e → e ≠ 0) : cod x = 0 ↔ ∃ y, x = .ok y ∧ y = false := by
  cases x with
  | ok t => cases t <;> simp [cod, bI]
  | error e => simp [cod, k e rfl]
/-- no law's refusal is 0 -/
def lok (x : LR) : Prop := ∀ e, x = .error e → e = eNOT ∨ e = eLARGE
theorem alike_ok {x y : QR} (h1 : qok x) (h2 : qok y) : lok (alikeQ x y) := by
  unfold alikeQ lok
  intro e
  cases x with
  | error e1 => intro h; cases h; exact h1
  | ok q =>
    cases y with
    | error e2 => intro h; cases h; exact h2
    | ok q2 =>
      dsimp only
      cases qord q q2 with
      | error e3 => intro h; cases h; exact Or.inr rfl
      | ok z => intro h; cases h
theorem isOne_ok {x : QR} (h1 : qok x) : lok (isOneQ x) := by
  unfold isOneQ lok
  intro e
  cases x with
  | error e1 => intro h; cases h; exact h1
  | ok q => intro h; cases h
