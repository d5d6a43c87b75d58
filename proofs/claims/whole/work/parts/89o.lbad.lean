/-! ===== the class: a law broken ===== -/
def bdO (up : Bool) (x y : QR) : Bool := match x, y with
  | .ok p, .ok q => (match qord p q with
    | .ok o => decide (o = -1) || (decide (o = 1) && !up)
    | .error _ => false)
  | _, _ => false
section
variable {h : Hp} {S : Nat} {p q : Nat → Nat} {pl : Value} {w t : Int32} {c : Rc}
theorem L_174 (H : LV h S p q pl w t c) {x y : QR} (X : FR h (S + 51) x) (Y : FR h (S + 52) y) (k1 : qok x) (k2 : qok y) {law : Nat} (hl : law < 7) : f_L_isBroken_174 (S + 45) (nI law) h = some (bI (bdO (decide (law = 5)) x y), h) := by
  obtain ⟨a0, a1, a2, a3, a4, a5, a6, a7, a8, a9, a11, a12⟩ := H.a
  unfold f_L_isBroken_174 bdO
  rw [a8, Option.bind_some, Option.bind_some]
  cases x with
  | error e =>
    obtain ⟨-, -, -, z2, -⟩ := fo_g (fr_err X)
    rw [z2, Option.bind_some, if_neg (err_ne k1)]
    rfl
  | ok u =>
    obtain ⟨-, -, -, z2, -⟩ := fo_g (fr_ok X)
    rw [z2, Option.bind_some, if_pos rfl, a9, Option.bind_some, Option.bind_some]
    cases y with
    | error e =>
      obtain ⟨-, -, -, z3, -⟩ := fo_g (fr_err Y)
      rw [z3, Option.bind_some, if_neg (err_ne k2)]
      rfl
    | ok v =>
      obtain ⟨-, -, -, z3, -⟩ := fo_g (fr_ok Y)
      rw [z3, Option.bind_some, if_pos rfl, Option.bind_some, Option.bind_some, Option.bind_some, Option.bind_some, F_orderOf X Y k1 k2, Option.bind_some]
      dsimp only
      rcases qord_cs u v with e | ⟨i, j, e⟩
      · rw [e]
        rfl
      · rw [e]
        rw [show oI (.ok (cmp3 i j)) = cmp3 i j from rfl]
        dsimp only
        by_cases c1 : cmp3 i j = -1
        · rw [if_pos c1, decide_eq_true c1]; rfl
        · rw [if_neg c1, decide_eq_false c1]
          by_cases c2 : cmp3 i j = 1
          · rw [if_pos c2, decide_eq_true c2]
            by_cases c3 : law = 5
            · rw [if_pos (show nI law = (5 : Int32) by rw [c3]; rfl), decide_eq_true c3]; rfl
            · rw [if_neg (show ¬ nI law = (5 : Int32) from fun e => c3 ((nI_eq (by omega) (by decide)).mp e)), decide_eq_false c3]; rfl
          · rw [if_neg c2, decide_eq_false c2]; rfl
theorem LV.tr {h' : Hp} (H : LV h S p q pl w t c) (e : ∀ a, a ≠ S + 5 → a ≠ S + 6 → h' a = h a) {pt qt : Nat → Nat} (T : BK h' (S + 4) pt qt) : LV h' S p q pl w t c ∧ LF h h' S := by
  obtain ⟨b, -, ⟨⟨z1, z2, z3, z4⟩, ⟨ZF, z5, z6⟩, z7⟩, l, u, v, k, x, y⟩ := H
  have fe : ∀ a, a ≠ S + 5 → a ≠ S + 6 → FX h a → FX h' a := by
    rintro a ha hb ⟨q1, q2, q3, q4, q5⟩
    exact ⟨q1, q2, q3, q4, by rw [e a ha hb]; exact q5⟩
  exact ⟨⟨b.cong fun c _ _ => e c (by omega) (by omega), ⟨pt, qt, T⟩, ⟨⟨z1, z2, z3, by rw [e _ (by omega) (by omega)]; exact z4⟩, ⟨ZF, by rw [e _ (by omega) (by omega)]; exact z5, z6⟩, fun c hc1 hc2 => fe c (by omega) (by omega) (z7 c hc1 hc2)⟩, by rw [e _ (by omega) (by omega)]; exact l, by rw [e _ (by omega) (by omega)]; exact u, by rw [e _ (by omega) (by omega)]; exact v, by rw [e _ (by omega) (by omega)]; exact k, fe _ (by omega) (by omega) x, fe _ (by omega) (by omega) y⟩, fun a ha _ _ => e a (by omega) (by omega)⟩
end
section
variable {h : Hp} {S P n : Nat} {p q W M : Nat → Nat} {w : Nat} {t : Int32} {c : Rc}
/-- tried: the books as a law wants them -/
def chB (law : Nat) (p : Nat → Nat) (a z g : Nat) : Nat → Nat := if law = 0 then cpn p a z 5 else if law = 3 then dbn p z 5 else if law = 4 then dgn p g 8 else nup p (z * 5 + g) (p (z * 5 + g) + 1)
def chQ (law : Nat) (q' q : Nat → Nat) (w g : Nat) : Prop := if law = 4 then DU q' q w g 8 0 else q' = q
theorem L_change {pl : Value} (H : LV h S p q pl (nI w) t c) (hw : w < 4) {law a z g : Nat} (hl : law = 0 ∨ law = 3 ∨ law = 4 ∨ law = 5) (ha : a < 8) (hz : z < 8) (hg : law = 4 ∨ law = 5 → g < 5) (h99 : ∀ k, k < 40 → p k ≤ 99) (h27 : ∀ z i, z < 8 → i < 5 → amq q w z i ≤ 27) {gI' : Int32} (hgI : law = 4 ∨ law = 5 → gI' = nI g) : ∃ h' q', f_L_changeBooks (S + 45) (nI law) (nI a) (nI z) gI' h = some h' ∧ BK h' (S + 4) (chB law p a z g) q' ∧ chQ law q' q w g ∧ LV h' S p q pl (nI w) t c ∧ LF h h' S := by
  obtain ⟨a0, a1, a2, a3, a4, a5, a6, a7, a8, a9, a11, a12⟩ := H.a
  obtain ⟨pt, qt, T⟩ := H.2.1
  obtain ⟨h1, E1, T1, B1, F1⟩ := B_copyFrom T H.1 (Or.inl (by omega))
  obtain ⟨H1, L1⟩ := H.tr (fun a x y => F1 a (by omega) (by omega)) T1
  obtain ⟨b0, b1, b2, b3, b4, b5, b6, b7, b8, b9, b11, b12⟩ := H1.a
  unfold f_L_changeBooks
  rw [if_pos H.o, a1, Option.bind_some, a0, Option.bind_some, Option.bind_some, Option.bind_some, E1, Option.bind_some]
  rcases hl with rfl | rfl | rfl | rfl
  · rw [if_pos (show nI 0 = (0 : Int32) from rfl), b1, Option.bind_some, Option.bind_some]
    obtain ⟨h2, E2, T2, F2⟩ := B_copyYear T1 ha hz
    obtain ⟨H2, L2⟩ := H1.tr (fun a x y => F2 a (by omega)) T2
    rw [E2]
    exact ⟨h2, q, rfl, T2, rfl, H2, L1.trans L2⟩
  · rw [if_neg (by decide), if_neg (by decide), if_neg (by decide), if_pos (show nI 3 = (3 : Int32) from rfl), b1, Option.bind_some, Option.bind_some]
    obtain ⟨h2, E2, T2, F2⟩ := B_doubleYear T1 hz (fun g hg => h99 _ (by omega))
    obtain ⟨H2, L2⟩ := H1.tr (fun a x y => F2 a (by omega)) T2
    rw [E2]
    exact ⟨h2, q, rfl, T2, rfl, H2, L1.trans L2⟩
  · have g5 := hg (Or.inl rfl)
    rw [hgI (Or.inl rfl)]
    rw [if_neg (by decide), if_neg (by decide), if_neg (by decide), if_neg (by decide), if_pos (show nI 4 = (4 : Int32) from rfl), b1, Option.bind_some, b11, Option.bind_some, Option.bind_some]
    obtain ⟨h2, q2, E2, T2, D2, F2⟩ := B_doubleUnit T1 hw g5 h27 (fun y hy => h99 _ (by omega))
    obtain ⟨H2, L2⟩ := H1.tr (fun a x y => F2 a (by omega) (by omega)) T2
    rw [E2]
    exact ⟨h2, q2, rfl, T2, D2, H2, L1.trans L2⟩
  · have g5 := hg (Or.inr rfl)
    rw [hgI (Or.inr rfl)]
    rw [if_neg (by decide), if_neg (by decide), if_neg (by decide), if_neg (by decide), if_neg (by decide), b1, Option.bind_some, Option.bind_some, Option.bind_some, Option.bind_some, B_priceOf T1 hz g5, Option.bind_some, nI_1]
    have bd := h99 (z * 5 + g) (by omega)
    obtain ⟨e, E2, T2⟩ := B_setPrice (y := z) (g := g) (v := p (z * 5 + g) + 1) T1 hz g5 (by omega)
    obtain ⟨H2, L2⟩ := H1.tr (fun a x y => hup_n (by omega)) T2
    rw [E2]
    exact ⟨_, q, rfl, T2, rfl, H2, L1.trans L2⟩
/-- the left and the right side of a law but the last -/
def lfX (v : Nat → Nat → QR) (u : QR) (law a z g : Nat) : QR := if law = 1 then qmul (v a z) (v z a) else if law = 2 then qmul (v a z) (v z g) else u
def rgX (v : Nat → Nat → QR) (law a z g : Nat) : QR := if law = 0 ∨ law = 1 then .ok (1, 1, false) else if law = 2 then v a g else if law = 3 then qdbl (v a z) else v a z
theorem L_121 (H : LV h S p q (.ref P) (nI w) t c) {v : Nat → Nat → QR} (kv : ∀ a b, qok (v a b)) (R : rcA c v 64) {law a z g : Nat} {gI' : Int32} (hl : law < 6) (ha : a < 8) (hz : z < 8) (hg : law = 2 → g < 8 ∧ gI' = nI g) {x : QR} (kx : qok x) (X : FR h (S + 51) x) : ∃ h', f_L_isBroken_121 (S + 45) (nI law) (nI a) (nI z) gI' h = some (bI (bdO (decide (law = 5)) x (rgX v law a z g)), h') ∧ LV h' S p q (.ref P) (nI w) t c ∧ LF h h' S := by
  obtain ⟨a0, a1, a2, a3, a4, a5, a6, a7, a8, a9, a11, a12⟩ := H.a
  have nl : ∀ k : Nat, k < 7 → law ≠ k → ¬ nI law = nI k := fun k hk hne e => hne ((nI_eq (by omega) (by omega)).mp e)
  have rr : ∀ i j, i < 8 → j < 8 → rcl c (i * 8 + j) (v i j) := by
    intro i j hi hj
    have := R (i * 8 + j) (by omega)
    rw [show (i * 8 + j) / 8 = i by omega, show (i * 8 + j) % 8 = j by omega] at this
    exact this
  -- the rest behind the right side
  have fin : ∀ {h1 : Hp} {y : QR}, LV h1 S p q (.ref P) (nI w) t c → LF h h1 S → FR h1 (S + 51) x → FR h1 (S + 52) y → qok y → (law = 3 → rgX v law a z g = qdbl y) → (law ≠ 3 → rgX v law a z g = y) → ∃ h', f_L_isBroken_162 (S + 45) (nI law) h1 = some (bI (bdO (decide (law = 5)) x (rgX v law a z g)), h') ∧ LV h' S p q (.ref P) (nI w) t c ∧ LF h h' S := by
    intro h1 y H1 L1 X1 Y1 ky e3 en
    obtain ⟨b0, b1, b2, b3, b4, b5, b6, b7, b8, b9, b11, b12⟩ := H1.a
    unfold f_L_isBroken_162
    by_cases c3 : law = 3
    · rw [if_pos (show nI law = (3 : Int32) by rw [c3]; rfl), b9, Option.bind_some, Option.bind_some, F_doubleIt Y1 ky, Option.bind_some, e3 c3]
      obtain ⟨H2, L2⟩ := H1.fr (Or.inr rfl) (r := qdbl y)
      rw [L_174 H2 (show FR _ _ x from (hup_n (by omega)).trans X1) hup_s kx (qdbl_ok ky) (by omega)]
      exact ⟨_, rfl, H2, L1.trans L2⟩
    · rw [if_neg (show ¬ nI law = (3 : Int32) from nl 3 (by decide) c3), en c3, L_174 H1 X1 Y1 kx ky (by omega)]
      exact ⟨_, rfl, H1, L1⟩
  have put1 : (law = 0 ∨ law = 1) → ∃ h', f_L_isBroken_130 (S + 45) (nI law) h = some (bI (bdO (decide (law = 5)) x (rgX v law a z g)), h') ∧ LV h' S p q (.ref P) (nI w) t c ∧ LF h h' S := by
    intro c01
    unfold f_L_isBroken_130
    have := F_put (u := 1) (l := 1) H.2.2.2.2.2.2.2.2 (by decide) (by decide) (by decide)
    rw [a9, Option.bind_some, Option.bind_some, show f_F_put (S + 52) (1 : Int64) (1 : Int64) h = _ from this, show qmk 1 1 false = .ok (1, 1, false) by unfold qmk; rw [if_pos (by decide)]; rfl, Option.bind_some]
    obtain ⟨H2, L2⟩ := H.fr (Or.inr rfl) (r := .ok (1, 1, false))
    refine fin H2 L2 (show FR _ _ x from (hup_n (by omega)).trans X) hup_s one_ok (fun e => by omega) (fun _ => ?_)
    unfold rgX
    rw [if_pos c01]
  have rec1 : ∀ {j : Nat} {jI : Int32}, j < 8 → jI = nI j → (law = 3 → rgX v law a z g = qdbl (v a j)) → (law ≠ 3 → rgX v law a z g = v a j) → ∃ h', f_L_isBroken_155 (S + 45) (nI a) jI (nI law) h = some (bI (bdO (decide (law = 5)) x (rgX v law a z g)), h') ∧ LV h' S p q (.ref P) (nI w) t c ∧ LF h h' S := by
    intro j jI hj hjI e1 e2
    unfold f_L_isBroken_155
    rw [a9, Option.bind_some, Option.bind_some, hjI, L_recall H ha hj (kv a j) (rr a j ha hj) (Or.inr rfl), Option.bind_some]
    obtain ⟨H2, L2⟩ := H.fr (Or.inr rfl) (r := v a j)
    exact fin H2 L2 (show FR _ _ x from (hup_n (by omega)).trans X) hup_s (kv a j) e1 e2
  unfold f_L_isBroken_121
  by_cases c0 : law = 0
  · rw [if_pos (show nI law = 0 by rw [c0]; rfl)]
    exact put1 (Or.inl c0)
  · rw [if_neg (show ¬ nI law = (0 : Int32) from nl 0 (by decide) c0)]
    by_cases c1 : law = 1
    · rw [if_pos (show nI law = (1 : Int32) by rw [c1]; rfl)]
      exact put1 (Or.inr c1)
    · rw [if_neg (show ¬ nI law = (1 : Int32) from nl 1 (by decide) c1)]
      by_cases c2 : law = 2
      · rw [if_pos (show nI law = (2 : Int32) by rw [c2]; rfl)]
        obtain ⟨g8, eg⟩ := hg c2
        refine rec1 g8 eg (fun e => by omega) (fun _ => ?_)
        unfold rgX
        rw [if_neg (by omega), if_pos c2]
      · rw [if_neg (show ¬ nI law = (2 : Int32) from nl 2 (by decide) c2)]
        refine rec1 hz rfl (fun e => ?_) (fun e => ?_)
        · unfold rgX
          rw [if_neg (by omega), if_neg c2, if_pos e]
        · unfold rgX
          rw [if_neg (by omega), if_neg c2, if_neg e]
theorem L_33 (H : LV h S p q (.ref P) (nI w) t c) (hP : PL h P n W M) (dP : S + 7 ≤ P ∧ P + 3 ≤ S + 34) (hw : w < 4) (hgd : good W M 8 0 n) (R : rcA c (evw W M p (amq q w)) 64) {law a z g : Nat} {gI' : Int32} (hl : law < 6) (ha : a < 8) (hz : z < 8) (hg2 : law = 2 → g < 8) (hg : law = 4 ∨ law = 5 → g < 5) (hgI : law = 2 ∨ law = 4 ∨ law = 5 → gI' = nI g) (h99 : ∀ k, k < 40 → p k ≤ 99) (h27 : ∀ z i, z < 8 → i < 5 → amq q w z i ≤ 27) : ∃ h' q', chQ law q' q w g ∧ f_L_isBroken_33 (S + 45) (nI law) (nI a) (nI z) gI' h = some (bI (bdO (decide (law = 5)) (lfX (evw W M p (amq q w)) (evw W M (chB law p a z g) (amq q' w) a z) law a z g) (rgX (evw W M p (amq q w)) law a z g)), h') ∧ LV h' S p q (.ref P) (nI w) t c ∧ LF h h' S := by
  obtain ⟨a0, a1, a2, a3, a4, a5, a6, a7, a8, a9, a11, a12⟩ := H.a
  have nl : ∀ k : Nat, k < 7 → law ≠ k → ¬ nI law = nI k := fun k hk hne e => hne ((nI_eq (by omega) (by omega)).mp e)
  have kv : ∀ a b, qok (evw W M p (amq q w) a b) := fun a b => evw_ok _ _ _ _ _ _
  have rr : ∀ i j, i < 8 → j < 8 → rcl c (i * 8 + j) (evw W M p (amq q w) i j) := by
    intro i j hi hj
    have := R (i * 8 + j) (by omega)
    rw [show (i * 8 + j) / 8 = i by omega, show (i * 8 + j) % 8 = j by omega] at this
    exact this
  have pair : ∀ {j i : Nat} {jI iI : Int32}, (law = 1 ∨ law = 2) → j < 8 → i < 8 → jI = nI j → iI = nI i → ∀ {h1 : Hp}, LV h1 S p q (.ref P) (nI w) t c → LF h h1 S → FR h1 (S + 51) (evw W M p (amq q w) a z) → lfX (evw W M p (amq q w)) (evw W M (chB law p a z g) (amq q w) a z) law a z g = qmul (evw W M p (amq q w) a z) (evw W M p (amq q w) j i) → ∃ h' q', chQ law q' q w g ∧ f_L_isBroken_66 (S + 45) jI iI (nI law) (nI a) (nI z) gI' h1 = some (bI (bdO (decide (law = 5)) (lfX (evw W M p (amq q w)) (evw W M (chB law p a z g) (amq q' w) a z) law a z g) (rgX (evw W M p (amq q w)) law a z g)), h') ∧ LV h' S p q (.ref P) (nI w) t c ∧ LF h h' S := by
    intro j i jI iI c12 hj hi ej ei h1 H1 L1 X1 el
    obtain ⟨b0, b1, b2, b3, b4, b5, b6, b7, b8, b9, b11, b12⟩ := H1.a
    unfold f_L_isBroken_66
    rw [b9, Option.bind_some, Option.bind_some, ej, ei, L_recall H1 hj hi (kv j i) (rr j i hj hi) (Or.inr rfl), Option.bind_some]
    obtain ⟨H2, L2⟩ := H1.fr (Or.inr rfl) (r := evw W M p (amq q w) j i)
    obtain ⟨c0, c1, c2, c3, c4, c5, c6, c7, c8, c9, c11, c12'⟩ := H2.a
    rw [c8, Option.bind_some, c9, Option.bind_some, Option.bind_some, Option.bind_some, F_multiply (show FR _ _ (evw W M p (amq q w) a z) from (hup_n (by omega)).trans X1) hup_s (kv a z) (kv j i), Option.bind_some]
    obtain ⟨H3, L3⟩ := H2.fr (Or.inl rfl) (r := qmul (evw W M p (amq q w) a z) (evw W M p (amq q w) j i))
    obtain ⟨h', G1, G2, G3⟩ := L_121 (a := a) (z := z) (g := g) (gI' := gI') H3 kv R hl ha hz (fun e => ⟨hg2 e, hgI (Or.inl e)⟩) (qmul_ok (kv a z) (kv j i)) hup_s
    refine ⟨h', q, ?_, ?_, G2, ((L1.trans L2).trans L3).trans G3⟩
    · unfold chQ; rw [if_neg (by omega)]
    · rw [G1, el]
  have two : (law = 1 ∨ law = 2) → ∃ h' q', chQ law q' q w g ∧ f_L_isBroken_43 (S + 45) (nI law) (nI a) (nI z) gI' h = some (bI (bdO (decide (law = 5)) (lfX (evw W M p (amq q w)) (evw W M (chB law p a z g) (amq q' w) a z) law a z g) (rgX (evw W M p (amq q w)) law a z g)), h') ∧ LV h' S p q (.ref P) (nI w) t c ∧ LF h h' S := by
    intro c12
    unfold f_L_isBroken_43
    rw [a8, Option.bind_some, Option.bind_some, L_recall H ha hz (kv a z) (rr a z ha hz) (Or.inl rfl), Option.bind_some]
    obtain ⟨H2, L2⟩ := H.fr (Or.inl rfl) (r := evw W M p (amq q w) a z)
    by_cases c2 : law = 2
    · rw [if_pos (show nI law = (2 : Int32) by rw [c2]; rfl)]
      refine pair (j := z) (i := g) c12 hz (hg2 c2) rfl (hgI (Or.inl c2)) H2 L2 hup_s ?_
      unfold lfX
      rw [if_neg (by omega), if_pos c2]
    · rw [if_neg (show ¬ nI law = (2 : Int32) from nl 2 (by decide) c2)]
      refine pair (j := z) (i := a) c12 hz ha rfl rfl H2 L2 hup_s ?_
      unfold lfX
      rw [if_pos (by omega)]
  unfold f_L_isBroken_33
  by_cases c1 : law = 1
  · rw [if_pos (show nI law = (1 : Int32) by rw [c1]; rfl)]
    exact two (Or.inl c1)
  · rw [if_neg (show ¬ nI law = (1 : Int32) from nl 1 (by decide) c1)]
    by_cases c2 : law = 2
    · rw [if_pos (show nI law = (2 : Int32) by rw [c2]; rfl)]
      exact two (Or.inr c2)
    · rw [if_neg (show ¬ nI law = (2 : Int32) from nl 2 (by decide) c2)]
      obtain ⟨h1, q1, E1, T1, Q1, H1, L1⟩ := L_change (a := a) (z := z) (g := g) (gI' := gI') (law := law) H hw (by omega) ha hz hg h99 h27 (fun e => hgI (Or.inr e))
      obtain ⟨b0, b1, b2, b3, b4, b5, b6, b7, b8, b9, b11, b12⟩ := H1.a
      have P1 : PL h1 P n W M := by
        obtain ⟨p0, pn, WF, MF, p1, p2, p3⟩ := hP
        exact ⟨by rw [L1 _ (by omega) (by omega) (by omega)]; exact p0, pn, WF, MF, by rw [L1 _ (by omega) (by omega) (by omega)]; exact p1, by rw [L1 _ (by omega) (by omega) (by omega)]; exact p2, p3⟩
      obtain ⟨h2, E2, X2, H2, L2⟩ := L_tell H1 P1 dP hw hgd T1 (Or.inr rfl) ha hz
      rw [E1, Option.bind_some, b2, Option.bind_some, H1.a10, Option.bind_some, b1, Option.bind_some, b11, Option.bind_some, b8, Option.bind_some, Option.bind_some, Option.bind_some, Option.bind_some, Option.bind_some, E2, Option.bind_some]
      obtain ⟨h3, G1, G2, G3⟩ := L_121 (a := a) (z := z) (g := g) (gI' := gI') H2 kv R hl ha hz (fun e => absurd e c2) (evw_ok _ _ _ _ _ _) X2
      refine ⟨h3, q1, Q1, ?_, G2, (L1.trans L2).trans G3⟩
      rw [G1]
      unfold lfX
      rw [if_neg c1, if_neg c2]
end
