/-! ===== numbers as trees, and what they are worth ===== -/
inductive TM where
  | leaf (k v : Nat)
  | two (k : Nat) (x y : TM)
  | one (k : Nat) (x : TM)
def TM.size : TM → Nat
  | .leaf _ _ => 1
  | .two _ x y => 1 + x.size + y.size
  | .one _ x => 1 + x.size
def TM.dep : TM → Nat
  | .leaf _ _ => 1
  | .two _ x y => 1 + max x.dep y.dep
  | .one _ x => 1 + x.dep
theorem TM.dep_pos (t : TM) : 0 < t.dep := by cases t <;> simp only [TM.dep] <;> omega
theorem TM.size_pos (t : TM) : 0 < t.size := by cases t <;> simp only [TM.size] <;> omega
/-- the words W and the marks M from i on are those of t -/
def Lay (W M : Nat → Int32) : Nat → TM → Prop
  | i, .leaf k v => W i = nI k ∧ k < 6 ∧ (k = 3 → M i = nI v ∧ v < 8)
  | i, .two k x y => W i = nI k ∧ 6 ≤ k ∧ k < 10 ∧ M i = nI (i + 1 + x.size) ∧ Lay W M (i + 1) x ∧ Lay W M (i + 1 + x.size) y
  | i, .one k x => W i = nI k ∧ 10 ≤ k ∧ k < 13 ∧ Lay W M (i + 1) x
theorem Lay.cong {W M W' M' : Nat → Int32} : ∀ (t : TM) (i : Nat), (∀ j, i ≤ j → j < i + t.size → W' j = W j ∧ M' j = M j) → Lay W M i t → Lay W' M' i t := by
  intro t
  induction t with
  | leaf k v =>
    intro i e h
    have := e i (Nat.le_refl i) (by simp [TM.size])
    unfold Lay at h ⊢
    rw [this.1, this.2]
    exact h
  | two k x y hx hy =>
    intro i e h
    simp only [TM.size] at e
    have := e i (Nat.le_refl i) (by omega)
    unfold Lay at h ⊢
    rw [this.1, this.2]
    exact ⟨h.1, h.2.1, h.2.2.1, h.2.2.2.1, hx _ (fun j h1 h2 => e j (by omega) (by omega)) h.2.2.2.2.1, hy _ (fun j h1 h2 => e j (by omega) (by omega)) h.2.2.2.2.2⟩
  | one k x hx =>
    intro i e h
    simp only [TM.size] at e
    have := e i (Nat.le_refl i) (by omega)
    unfold Lay at h ⊢
    rw [this.1]
    exact ⟨h.1, h.2.1, h.2.2.1, hx _ (fun j h1 h2 => e j (by omega) (by omega)) h.2.2.2⟩
/-- one cost by another -/
def frc2 (x y : Option Nat) : QR := match x, y with
  | some u, some l => if l = 0 then .error eNOT else qmk u l false
  | _, _ => .error eNOT
def oadd (x y : Option Nat) : Option Nat := match x, y with
  | some u, some v => some (u + v)
  | _, _ => none
/-- the sum of the shares, its lower number, how many; none at a hole -/
def plgo (fa fb : Nat → Nat) (set : Nat) : Nat → Nat → Nat → Nat → Nat → Option (Nat × Nat × Nat)
  | 0, _, s, l, m => some (s, l, m)
  | k + 1, g, s, l, m => if set.testBit g then (if fa g = 0 ∨ fb g = 0 then none else plgo fa fb set k (g + 1) (s * fa g + fb g * l) (l * fa g) (m + 1)) else plgo fa fb set k (g + 1) s l m
def plq (fa fb : Nat → Nat) (set : Nat) : QR := match plgo fa fb set 5 0 0 1 0 with
  | none => .error eNOT
  | some r => if r.2.2 = 0 then .error eNOT else qmk r.1 (r.2.1 * r.2.2) false
def nx (up : Bool) (y : Nat) : Nat := if up then y + 1 else y - 1
/-- steps that are multiplied -/
def lnk (f : Nat → Nat → QR) (up : Bool) : Nat → Nat → QR → QR
  | 0, _, acc => acc
  | k + 1, y, acc => lnk f up k (nx up y) (qmul acc (f y (nx up y)))
def far (a b : Nat) : Nat := (a - b) + (b - a)
def lnq (f : Nat → Nat → QR) (a b : Nat) : QR := if a = b then .ok (1, 1, false) else lnk f (decide (a < b)) (far a b - 1) (nx (decide (a < b)) a) (f a (nx (decide (a < b)) a))
/-- a pair of worths made one -/
def pair (k : Nat) (p q : Nat × Nat × Bool) : QR :=
  if k = 8 then (match qord q p with | .error _ => .error eLARGE | .ok o => if o = -1 then .ok q else .ok p)
  else if k = 9 then (match qord q p with | .error _ => .error eLARGE | .ok o => if o = 1 then .ok q else .ok p)
  else if p.2.2 = true ∨ q.2.2 = true then .error eNOT
  else if k = 7 then qadd p.1 p.2.1 q.1 q.2.1 2
  else qmk (p.1 * q.1) (p.2.1 * q.2.1) true
def lfq (p : Nat → Nat) (am : Nat → Nat → Nat) (k v a b set : Nat) : QR :=
  let f := fun y g => p (y * 5 + g)
  let c := fun y z => cst (f y) (msk set (am z))
  if k = 0 then frc2 (c b a) (c a a)
  else if k = 1 then frc2 (c b b) (c a b)
  else if k = 2 then frc2 (oadd (c b a) (c b b)) (oadd (c a a) (c a b))
  else if k = 3 then frc2 (c b v) (c a v)
  else if k = 4 then plq (f a) (f b) set
  else frc2 (cst (f b) (msk set fun _ => 1)) (cst (f a) (msk set fun _ => 1))
/-- WORTH -/
def ev (p : Nat → Nat) (am : Nat → Nat → Nat) : TM → Nat → Nat → Nat → QR
  | .leaf k v, a, b, set => lfq p am k v a b set
  | .two k x y, a, b, set => match ev p am x a b set with
    | .error e => .error e
    | .ok r => match ev p am y a b set with
      | .error e => .error e
      | .ok s => pair k r s
  | .one k x, a, b, set =>
    if k = 10 then qinv (ev p am x b a set)
    else if k = 11 then lnq (fun y z => ev p am x y z set) a b
    else ev p am x a b (set &&& (pmk fun g => p (a * 5 + g)) &&& (pmk fun g => p (b * 5 + g)))
theorem frc2_ok (x y : Option Nat) : qok (frc2 x y) := by
  unfold frc2
  split
  · split
    · exact Or.inl rfl
    · exact qmk_ok (by omega) _
  · exact Or.inl rfl
theorem plgo_pos {fa fb : Nat → Nat} {set : Nat} : ∀ (k g s l m : Nat) (r : Nat × Nat × Nat), 0 < l → plgo fa fb set k g s l m = some r → 0 < r.2.1 := by
  intro k
  induction k with
  | zero => intro g s l m r hl e; cases e; exact hl
  | succ k ih =>
    intro g s l m r hl e
    unfold plgo at e
    split at e
    · split at e
      · cases e
      · rename_i h0
        exact ih _ _ _ _ r (Nat.mul_pos hl (by omega)) e
    · exact ih _ _ _ _ r hl e
theorem plq_ok (fa fb : Nat → Nat) (set : Nat) : qok (plq fa fb set) := by
  unfold plq
  split
  · exact Or.inl rfl
  · rename_i r e
    split
    · exact Or.inl rfl
    · exact qmk_ok (Nat.mul_pos (plgo_pos _ _ _ _ _ _ (by decide) e) (by omega)) _
theorem pair_ok {k : Nat} {p q : Nat × Nat × Bool} (h1 : qok (.ok p)) (h2 : qok (.ok q)) : qok (pair k p q) := by
  unfold pair
  split
  · split
    · exact Or.inr rfl
    · split
      · exact h2
      · exact h1
  split
  · split
    · exact Or.inr rfl
    · split
      · exact h2
      · exact h1
  split
  · exact Or.inl rfl
  split
  · exact qadd_ok h1.2.1 h2.2.1 (by decide)
  · exact qmk_ok (Nat.mul_pos h1.2.1 h2.2.1) _
theorem lnk_ok {f : Nat → Nat → QR} (up : Bool) (hf : ∀ a b, qok (f a b)) : ∀ (k y : Nat) (acc : QR), qok acc → qok (lnk f up k y acc) := by
  intro k
  induction k with
  | zero => intro y acc h; exact h
  | succ k ih => intro y acc h; exact ih _ _ (qmul_ok h (hf _ _))
theorem one_ok : qok (.ok (1, 1, false)) := ⟨by decide, by decide, by decide, by decide⟩
theorem lnq_ok {f : Nat → Nat → QR} {a b : Nat} (hf : ∀ a b, qok (f a b)) : qok (lnq f a b) := by
  unfold lnq
  split
  · exact one_ok
  · exact lnk_ok _ hf _ _ _ (hf _ _)
theorem ev_ok (p : Nat → Nat) (am : Nat → Nat → Nat) : ∀ (t : TM) (a b set : Nat), qok (ev p am t a b set) := by
  intro t
  induction t with
  | leaf k v =>
    intro a b set
    unfold ev lfq
    dsimp only
    repeat' split
    all_goals first | exact frc2_ok _ _ | exact plq_ok _ _ _
  | two k x y hx hy =>
    intro a b set
    have h1 := hx a b set
    have h2 := hy a b set
    unfold ev
    split
    · rename_i e h; rw [h] at h1; exact h1
    · rename_i r h
      rw [h] at h1
      split
      · rename_i e g; rw [g] at h2; exact h2
      · rename_i s g
        rw [g] at h2
        exact pair_ok h1 h2
  | one k x hx =>
    intro a b set
    unfold ev
    split
    · exact qinv_ok (hx _ _ _)
    split
    · exact lnq_ok fun y z => hx y z set
    · exact hx _ _ _
theorem lnk_err {f : Nat → Nat → QR} {up : Bool} {e : Int32} : ∀ (k y : Nat), lnk f up k y (.error e) = .error e := by
  intro k
  induction k with
  | zero => intro y; rfl
  | succ k ih => intro y; exact ih _
