/-! ===== both sides speak of the same laws ===== -/
def lb (x : LR) : Bool := match x with
  | .ok t => !t
  | .error _ => false
theorem badQ_lb (W M p b : Nat → Nat) (w law a z c : Nat) : badQ W M p b w law a z c = lb (lawQ W M p b w law a z c) := by
  unfold badQ lb
  rfl
theorem bd_alike (x y : QR) : bdO false x y = lb (alikeQ x y) := by
  unfold bdO alikeQ lb
  cases x with
  | error e => rfl
  | ok u =>
    cases y with
    | error e => rfl
    | ok v =>
      dsimp only
      rcases qord_cs u v with e | ⟨i, j, e⟩
      · rw [e]
      · rw [e]
        dsimp only
        rcases cmp3_cs i j with c | c | c <;> rw [c] <;> decide
theorem bd_sw (x y : QR) : bdO false y x = lb (alikeQ x y) := by
  unfold bdO alikeQ lb
  cases x with
  | error e => cases y <;> rfl
  | ok u =>
    cases y with
    | error e => rfl
    | ok v =>
      dsimp only
      rw [qord_sw u v]
      rcases qord_cs u v with e | ⟨i, j, e⟩
      · rw [e]
      · rw [e]
        dsimp only
        rcases cmp3_cs i j with c | c | c <;> rw [c] <;> decide
theorem bd_up (x y : Nat × Nat × Bool) : bdO true (.ok y) (.ok x) = lb (match qord x y with
      | .error _ => .error eLARGE
      | .ok o => .ok (decide (¬ 0 < o))) := by
  unfold bdO lb
  dsimp only
  rw [qord_sw x y]
  rcases qord_cs x y with e | ⟨i, j, e⟩
  · rw [e]
  · rw [e]
    dsimp only
    rcases cmp3_cs i j with c | c | c <;> rw [c] <;> decide
theorem bd_one {x : QR} (k : qok x) : bdO false x (.ok (1, 1, false)) = lb (isOneQ x) := by
  unfold bdO isOneQ lb
  cases x with
  | error e => rfl
  | ok u =>
    obtain ⟨u, l, t⟩ := u
    obtain ⟨bu, bl, lp, mu, ml, hcop⟩ := qok_b k
    have e : qord (u, l, t) (1, 1, false) = .ok (cmp3 u l) := by
      unfold qord
      dsimp only
      cases t with
      | false => rw [if_pos rfl, Nat.mul_one, Nat.one_mul]
      | true => rw [if_neg (by decide), if_pos rfl, if_pos (by decide), Nat.mul_one, Nat.one_mul]
    dsimp only
    rw [e]
    dsimp only
    have iff1 : (u = 1 ∧ l = 1) ↔ cmp3 u l = 0 := by
      unfold cmp3
      constructor
      · rintro ⟨rfl, rfl⟩; decide
      · intro h
        by_cases c1 : u < l
        · rw [if_pos c1] at h; exact absurd h (by decide)
        · rw [if_neg c1] at h
          by_cases c2 : u = l
          · subst c2
            rw [Nat.gcd_self] at hcop
            exact ⟨hcop, hcop⟩
          · rw [if_neg c2] at h; exact absurd h (by decide)
    rcases cmp3_cs u l with c | c | c
    · rw [decide_eq_false (fun h : u = 1 ∧ l = 1 => by rw [iff1.mp h] at c; exact absurd c (by decide)), c]; decide
    · rw [decide_eq_true (iff1.mpr c), c]; decide
    · rw [decide_eq_false (fun h : u = 1 ∧ l = 1 => by rw [iff1.mp h] at c; exact absurd c (by decide)), c]; decide
theorem nup_cong {p p' : Nat → Nat} {k v v' : Nat} (hp : ∀ j, j < 40 → p j = p' j) (hv : v = v') : ∀ j, j < 40 → nup p k v j = nup p' k v' j := by
  intro j hj
  unfold nup
  rw [hv, hp j hj]
theorem cpn_cong {p p' : Nat → Nat} {a z : Nat} (hp : ∀ j, j < 40 → p j = p' j) (ha : a < 8) : ∀ g, g ≤ 5 → ∀ j, j < 40 → cpn p a z g j = cpn p' a z g j := by
  intro g
  induction g with
  | zero => intro _; exact hp
  | succ g ih =>
    intro hg
    have := ih (by omega)
    exact nup_cong this (this _ (by omega))
theorem dbn_cong {p p' : Nat → Nat} {z : Nat} (hp : ∀ j, j < 40 → p j = p' j) (hz : z < 8) : ∀ g, g ≤ 5 → ∀ j, j < 40 → dbn p z g j = dbn p' z g j := by
  intro g
  induction g with
  | zero => intro _; exact hp
  | succ g ih =>
    intro hg
    have := ih (by omega)
    exact nup_cong this (by rw [this _ (by omega)])
theorem dgn_cong {p p' : Nat → Nat} {g : Nat} (hp : ∀ j, j < 40 → p j = p' j) (hg : g < 5) : ∀ y, y ≤ 8 → ∀ j, j < 40 → dgn p g y j = dgn p' g y j := by
  intro y
  induction y with
  | zero => intro _; exact hp
  | succ y ih =>
    intro hy
    have := ih (by omega)
    exact nup_cong this (by rw [this _ (by omega)])
theorem dbb_lt {b : Nat → Nat} {g : Nat} : ∀ k j, j < k → dbb b g k j = b j * (if j % 5 = g then 1 else 2) := by
  intro k
  induction k with
  | zero => intro j h; omega
  | succ k ih =>
    intro j h
    unfold dbb
    by_cases c : j = k
    · subst c; rw [nup_s, dbb_at j j (Nat.le_refl j)]
    · rw [nup_n c, ih j (by omega)]
theorem bam_dbb {b : Nat → Nat} {g w z i : Nat} (hw : w < 4) (hz : z < 8) (hi : i < 5) : bam (dbb b g 150) w z i = if i = g then bam b w z i else 2 * bam b w z i := by
  have m1 : (z * 5 + i) % 5 = i := by omega
  have m2 : (50 + (z * 5 + i)) % 5 = i := by omega
  have m3 : (100 + (z * 5 + i)) % 5 = i := by omega
  have m4 : (50 * w + (z * 5 + i)) % 5 = i := by omega
  unfold bam
  by_cases c : w = 3
  · rw [if_pos c, if_pos c, dbb_lt 150 _ (by omega), dbb_lt 150 _ (by omega), dbb_lt 150 _ (by omega), m1, m2, m3]
    by_cases d : i = g
    · simp only [if_pos d, Nat.mul_one]
    · simp only [if_neg d]; omega
  · rw [if_neg c, if_neg c, dbb_lt 150 _ (by omega), m4]
    by_cases d : i = g
    · simp only [if_pos d, Nat.mul_one]
    · simp only [if_neg d]; omega
/-- the class's books and the reference's -/
def RB (p q pr br : Nat → Nat) : Prop := (∀ k, k < 40 → p k = pr k) ∧ (∀ w z g, w < 4 → z < 8 → g < 5 → amq q w z g = bam br w z g) ∧ (∀ k, k < 40 → pr k ≤ 99) ∧ (∀ k, k < 150 → br k ≤ 9)
theorem RB.h99 {p q pr br : Nat → Nat} (B : RB p q pr br) : ∀ k, k < 40 → p k ≤ 99 := fun k hk => by rw [B.1 k hk]; exact B.2.2.1 k hk
theorem RB.h27 {p q pr br : Nat → Nat} (B : RB p q pr br) {w : Nat} (hw : w < 4) : ∀ z i, z < 8 → i < 5 → amq q w z i ≤ 27 := fun z i hz hi => by
  rw [B.2.1 w z i hw hz hi]
  have h := B.2.2.2
  unfold bam
  split
  · have := h (z * 5 + i) (by omega)
    have := h (50 + (z * 5 + i)) (by omega)
    have := h (100 + (z * 5 + i)) (by omega)
    omega
  · have := h (50 * w + (z * 5 + i)) (by omega)
    omega
theorem RB.ev {p q pr br W M : Nat → Nat} (B : RB p q pr br) {n w a b : Nat} (hg : good W M 8 0 n) (hw : w < 4) (ha : a < 8) (hb : b < 8) : evw W M p (amq q w) a b = evw W M pr (bam br w) a b := evw_cong hg B.1 (fun z g hz hg => B.2.1 w z g hw hz hg) ha hb
theorem bad_eq {p q pr br W M q' : Nat → Nat} (B : RB p q pr br) {n w a z g law : Nat} (hg : good W M 8 0 n) (hw : w < 4) (ha : a < 8) (hz : z < 8) (hl : law < 6) (h2 : law = 2 → g < 8) (h45 : law = 4 ∨ law = 5 → g < 5) (hQ : chQ law q' q w g) (h5 : law = 5 → p (z * 5 + g) ≠ 0) : bdO (decide (law = 5)) (lfX (evw W M p (amq q w)) (evw W M (chB law p a z g) (amq q' w) a z) law a z g) (rgX (evw W M p (amq q w)) law a z g) = badQ W M pr br w law a z g := by
  rw [badQ_lb]
  have ea := B.ev hg hw ha hz
  have ku := evw_ok W M (chB law p a z g) (amq q' w) a z
  rcases (by omega : law = 0 ∨ law = 1 ∨ law = 2 ∨ law = 3 ∨ law = 4 ∨ law = 5) with rfl | rfl | rfl | rfl | rfl | rfl
  · have e : q' = q := hQ
    subst e
    show bdO false (evw W M (cpn p a z 5) (amq q' w) a z) (.ok (1, 1, false)) = lb (isOneQ (evw W M (cpn pr a z 5) (bam br w) a z))
    rw [evw_cong hg (cpn_cong B.1 ha 5 (by omega)) (fun z g hz hg => B.2.1 w z g hw hz hg) ha hz, bd_one (evw_ok _ _ _ _ _ _)]
  · show bdO false (qmul (evw W M p (amq q w) a z) (evw W M p (amq q w) z a)) (.ok (1, 1, false)) = lb (isOneQ (qmul (evw W M pr (bam br w) a z) (evw W M pr (bam br w) z a)))
    rw [ea, B.ev hg hw hz ha, bd_one (qmul_ok (evw_ok _ _ _ _ _ _) (evw_ok _ _ _ _ _ _))]
  · have g8 := h2 rfl
    show bdO false (qmul (evw W M p (amq q w) a z) (evw W M p (amq q w) z g)) (evw W M p (amq q w) a g) = lb (alikeQ (qmul (evw W M pr (bam br w) a z) (evw W M pr (bam br w) z g)) (evw W M pr (bam br w) a g))
    rw [ea, B.ev hg hw hz g8, B.ev hg hw ha g8, bd_alike]
  · have e : q' = q := hQ
    subst e
    show bdO false (evw W M (dbn p z 5) (amq q' w) a z) (qdbl (evw W M p (amq q' w) a z)) = lb (twiceQ W M pr (bam br w) a z)
    rw [ea, evw_cong hg (dbn_cong B.1 hz 5 (by omega)) (fun z g hz hg => B.2.1 w z g hw hz hg) ha hz, bd_sw]
    unfold twiceQ
    cases evw W M pr (bam br w) a z with
    | error e => rfl
    | ok x =>
      cases evw W M (dbn pr z 5) (bam br w) a z with
      | error e =>
        dsimp only
        unfold alikeQ
        cases qdbl (.ok x) <;> rfl
      | ok y => rfl
  · have g5 := h45 (Or.inl rfl)
    have D : DU q' q w g 8 0 := hQ
    show bdO false (evw W M (dgn p g 8) (amq q' w) a z) (evw W M p (amq q w) a z) = lb (unitsQ W M pr br w a z g)
    rw [ea, evw_cong (p' := dgn pr g 8) (am' := bam (dbb br g 150) w) hg (dgn_cong B.1 g5 8 (by omega)) (fun z i hz hi => by
      rw [D z i hz hi, bam_dbb hw hz hi, B.2.1 w z i hw hz hi]
      by_cases c : i = g
      · rw [if_pos c, if_neg (by omega)]
      · rw [if_neg c, if_pos ⟨Or.inl (by omega), c⟩]) ha hz, bd_sw]
    unfold unitsQ
    cases evw W M pr (bam br w) a z with
    | error e => rfl
    | ok x =>
      cases evw W M (dgn pr g 8) (bam (dbb br g 150) w) a z with
      | error e => rfl
      | ok y => rfl
  · have g5 := h45 (Or.inr rfl)
    have e : q' = q := hQ
    subst e
    have p0 := h5 rfl
    have e0 := B.1 (z * 5 + g) (by omega)
    show bdO true (evw W M (nup p (z * 5 + g) (p (z * 5 + g) + 1)) (amq q' w) a z) (evw W M p (amq q' w) a z) = lb (upQ W M pr (bam br w) a z g)
    rw [ea, evw_cong (p' := nup pr (z * 5 + g) (pr (z * 5 + g) + 1)) hg (nup_cong B.1 (by rw [e0])) (fun z g hz hg => B.2.1 w z g hw hz hg) ha hz]
    unfold upQ
    rw [if_neg (by omega)]
    cases evw W M pr (bam br w) a z with
    | error e => cases evw W M (nup pr (z * 5 + g) (pr (z * 5 + g) + 1)) (bam br w) a z <;> rfl
    | ok x =>
      cases evw W M (nup pr (z * 5 + g) (pr (z * 5 + g) + 1)) (bam br w) a z with
      | error e => rfl
      | ok y => exact bd_up x y
