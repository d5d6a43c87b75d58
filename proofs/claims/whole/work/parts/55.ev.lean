/-! ===== a number as words and marks, and what it is worth ===== -/
/-- the words from i to j are one E, d deep at most -/
def good (W M : Nat → Nat) : Nat → Nat → Nat → Prop
  | 0, _, _ => False
  | d + 1, i, j => (W i < 6 ∧ j = i + 1 ∧ (W i = 3 → M i < 8)) ∨ (6 ≤ W i ∧ W i < 10 ∧ good W M d (i + 1) (M i) ∧ good W M d (M i) j) ∨ (10 ≤ W i ∧ W i < 13 ∧ good W M d (i + 1) j)
theorem good_lt {W M : Nat → Nat} : ∀ (d i j : Nat), good W M d i j → i < j := by
  intro d
  induction d with
  | zero => intro i j h; exact h.elim
  | succ d ih =>
    intro i j h
    rcases h with h | ⟨-, -, h1, h2⟩ | ⟨-, -, h⟩
    · omega
    · have := ih _ _ h1; have := ih _ _ h2; omega
    · have := ih _ _ h; omega
/-- one cost by another -/
def frc2 (x y : Option Nat) : QR := match x, y with
  | some u, some l => if l = 0 then .error eNOT else qmk u l false
  | _, _ => .error eNOT
def oadd (x y : Option Nat) : Option Nat := match x, y with
  | some u, some v => some (u + v)
  | _, _ => none
/-- the sum of the shares, its lower number, how many; none at a hole -/
def plgo (fa fb : Nat → Nat) (set : Nat) : Nat → Nat → Nat → Nat → Nat → Option (Nat × Nat × Nat)
  | 0, _, s, l, m => some (s, l, m)
  | k + 1, g, s, l, m => if set.testBit g then (if fa g = 0 ∨ fb g = 0 then none else plgo fa fb set k (g + 1) (s * fa g + fb g * l) (l * fa g) (m + 1)) else plgo fa fb set k (g + 1) s l m
def plq (fa fb : Nat → Nat) (set : Nat) : QR := match plgo fa fb set 5 0 0 1 0 with
  | none => .error eNOT
  | some r => if r.2.2 = 0 then .error eNOT else qmk r.1 (r.2.1 * r.2.2) false
def nx (up : Bool) (y : Nat) : Nat := if up then y + 1 else y - 1
/-- steps that are multiplied -/
def lnk (f : Nat → Nat → QR) (up : Bool) : Nat → Nat → QR → QR
  | 0, _, acc => acc
  | k + 1, y, acc => lnk f up k (nx up y) (qmul acc (f y (nx up y)))
def far (a b : Nat) : Nat := (a - b) + (b - a)
def lnq (f : Nat → Nat → QR) (a b : Nat) : QR := if a = b then .ok (1, 1, false) else lnk f (decide (a < b)) (far a b - 1) (nx (decide (a < b)) a) (f a (nx (decide (a < b)) a))
/-- a pair of worths made one -/
def pair (k : Nat) (p q : Nat × Nat × Bool) : QR :=
  if k = 8 then (match qord q p with | .error _ => .error eLARGE | .ok o => if o = -1 then .ok q else .ok p)
  else if k = 9 then (match qord q p with | .error _ => .error eLARGE | .ok o => if o = 1 then .ok q else .ok p)
  else if p.2.2 = true ∨ q.2.2 = true then .error eNOT
  else if k = 7 then qadd p.1 p.2.1 q.1 q.2.1 2
  else qmk (p.1 * q.1) (p.2.1 * q.2.1) true
def lfq (p : Nat → Nat) (am : Nat → Nat → Nat) (k v a b set : Nat) : QR :=
  let f := fun y g => p (y * 5 + g)
  let c := fun y z => cst (f y) (msk set (am z))
  if k = 0 then frc2 (c b a) (c a a)
  else if k = 1 then frc2 (c b b) (c a b)
  else if k = 2 then frc2 (oadd (c b a) (c b b)) (oadd (c a a) (c a b))
  else if k = 3 then frc2 (c b v) (c a v)
  else if k = 4 then plq (f a) (f b) set
  else frc2 (cst (f b) (msk set fun _ => 1)) (cst (f a) (msk set fun _ => 1))
/-- WORTH -/
def ev (W M p : Nat → Nat) (am : Nat → Nat → Nat) : Nat → Nat → Nat → Nat → Nat → QR
  | 0, _, _, _, _ => .error eNOT
  | d + 1, i, a, b, set =>
    if W i < 6 then lfq p am (W i) (M i) a b set
    else if W i < 10 then (match ev W M p am d (i + 1) a b set with
      | .error e => .error e
      | .ok r => match ev W M p am d (M i) a b set with
        | .error e => .error e
        | .ok s => pair (W i) r s)
    else if W i = 10 then qinv (ev W M p am d (i + 1) b a set)
    else if W i = 11 then lnq (fun y z => ev W M p am d (i + 1) y z set) a b
    else ev W M p am d (i + 1) a b (set &&& (pmk fun g => p (a * 5 + g)) &&& (pmk fun g => p (b * 5 + g)))
theorem frc2_ok (x y : Option Nat) : qok (frc2 x y) := by
  unfold frc2
  split
  · split
    · exact Or.inl rfl
    · exact qmk_ok (by omega) _
  · exact Or.inl rfl
theorem plgo_pos {fa fb : Nat → Nat} {set : Nat} : ∀ (k g s l m : Nat) (r : Nat × Nat × Nat), 0 < l → plgo fa fb set k g s l m = some r → 0 < r.2.1 := by
  intro k
  induction k with
  | zero => intro g s l m r hl e; cases e; exact hl
  | succ k ih =>
    intro g s l m r hl e
    unfold plgo at e
    split at e
    · split at e
      · cases e
      · rename_i h0
        exact ih _ _ _ _ r (Nat.mul_pos hl (by omega)) e
    · exact ih _ _ _ _ r hl e
theorem plq_ok (fa fb : Nat → Nat) (set : Nat) : qok (plq fa fb set) := by
  unfold plq
  split
  · exact Or.inl rfl
  · rename_i r e
    split
    · exact Or.inl rfl
    · exact qmk_ok (Nat.mul_pos (plgo_pos _ _ _ _ _ _ (by decide) e) (by omega)) _
theorem pair_ok {k : Nat} {p q : Nat × Nat × Bool} (h1 : qok (.ok p)) (h2 : qok (.ok q)) : qok (pair k p q) := by
  unfold pair
  split
  · split
    · exact Or.inr rfl
    · split
      · exact h2
      · exact h1
  split
  · split
    · exact Or.inr rfl
    · split
      · exact h2
      · exact h1
  split
  · exact Or.inl rfl
  split
  · exact qadd_ok h1.2.1 h2.2.1 (by decide)
  · exact qmk_ok (Nat.mul_pos h1.2.1 h2.2.1) _
theorem lnk_ok {f : Nat → Nat → QR} (up : Bool) (hf : ∀ a b, qok (f a b)) : ∀ (k y : Nat) (acc : QR), qok acc → qok (lnk f up k y acc) := by
  intro k
  induction k with
  | zero => intro y acc h; exact h
  | succ k ih => intro y acc h; exact ih _ _ (qmul_ok h (hf _ _))
theorem one_ok : qok (.ok (1, 1, false)) := ⟨by decide, by decide, by decide, by decide⟩
theorem lnq_ok {f : Nat → Nat → QR} {a b : Nat} (hf : ∀ a b, qok (f a b)) : qok (lnq f a b) := by
  unfold lnq
  split
  · exact one_ok
  · exact lnk_ok _ hf _ _ _ (hf _ _)
theorem lfq_ok (p : Nat → Nat) (am : Nat → Nat → Nat) (k v a b set : Nat) : qok (lfq p am k v a b set) := by
  unfold lfq
  dsimp only
  repeat' split
  all_goals first | exact frc2_ok _ _ | exact plq_ok _ _ _
theorem ev_ok (W M p : Nat → Nat) (am : Nat → Nat → Nat) : ∀ (d i a b set : Nat), qok (ev W M p am d i a b set) := by
  intro d
  induction d with
  | zero => intro i a b set; exact Or.inl rfl
  | succ d ih =>
    intro i a b set
    unfold ev
    split
    · exact lfq_ok _ _ _ _ _ _ _
    split
    · have h1 := ih (i + 1) a b set
      have h2 := ih (M i) a b set
      split
      · rename_i e h; rw [h] at h1; exact h1
      · rename_i r h
        rw [h] at h1
        split
        · rename_i e g; rw [g] at h2; exact h2
        · rename_i s g
          rw [g] at h2
          exact pair_ok h1 h2
    split
    · exact qinv_ok (ih _ _ _ _)
    split
    · exact lnq_ok fun y z => ih _ y z set
    · exact ih _ _ _ _
theorem lnk_err {f : Nat → Nat → QR} {up : Bool} {e : Int32} : ∀ (k y : Nat), lnk f up k y (.error e) = .error e := by
  intro k
  induction k with
  | zero => intro y; rfl
  | succ k ih => intro y; exact ih _
