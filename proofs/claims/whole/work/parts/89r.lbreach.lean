/-! ===== the class: the first breach, and what was found ===== -/
/-- the third part as the class counts it -/
def tv (law c : Nat) : Int32 := if lmost law = 1 then nI c - 1 else nI c
theorem lmost_cs (law : Nat) : (lmost law = 1 ∧ law ≠ 2 ∧ law ≠ 4 ∧ law ≠ 5) ∨ (lmost law = 5 ∧ (law = 4 ∨ law = 5)) ∨ (lmost law = 8 ∧ law = 2) := by
  unfold lmost
  by_cases c : law = 2
  · rw [if_pos c]; exact Or.inr (Or.inr ⟨rfl, c⟩)
  · rw [if_neg c]
    by_cases d : law = 4 ∨ law = 5
    · rw [if_pos d]; exact Or.inr (Or.inl ⟨rfl, d⟩)
    · rw [if_neg d]; exact Or.inl ⟨rfl, by omega, by omega, by omega⟩
def cdB (law : Nat) (t : Nat × Nat × Nat) : Nat := 2 + (t.1 * 8 + t.2.1) * 9 + (if lmost law = 1 then 0 else t.2.2 + 1)
def cdO (law : Nat) (x : Option (Nat × Nat × Nat)) : Nat := match x with
  | none => 1
  | some t => cdB law t
def LF2 (h h' : Hp) (S : Nat) : Prop := ∀ c, c ≠ S + 49 → ¬ (S + 4 ≤ c ∧ c < S + 7) → ¬ (S + 34 ≤ c ∧ c < S + 49) → ¬ (c = S + 51 ∨ c = S + 52) → h' c = h c
theorem LF.two {h h' : Hp} {S : Nat} (a : LF h h' S) : LF2 h h' S := fun c _ x y z => a c x y z
theorem LF2.trans {h h1 h2 : Hp} {S : Nat} (a : LF2 h h1 S) (b : LF2 h1 h2 S) : LF2 h h2 S := fun c o x y z => by rw [b c o x y z, a c o x y z]
/-- the laws at work: their world, the plan, what was found -/
def LW (h : Hp) (S P n : Nat) (p q W M : Nat → Nat) (w : Nat) (t : Int32) (c : Rc) (FF : Nat → Int32) : Prop := LV h S p q (.ref P) (nI w) t c ∧ PL h P n W M ∧ h (S + 49) = some (.inl (0, 224, .inl FF))
theorem PL.cong {h h' : Hp} {P n : Nat} {W M : Nat → Nat} (H : PL h P n W M) (e : ∀ c, P ≤ c → c < P + 3 → h' c = h c) : PL h' P n W M := by
  obtain ⟨p0, pn, WF, MF, p1, p2, p3⟩ := H
  exact ⟨by rw [e _ (by omega) (by omega)]; exact p0, pn, WF, MF, by rw [e _ (by omega) (by omega)]; exact p1, by rw [e _ (by omega) (by omega)]; exact p2, p3⟩
theorem LW.nx {h h' : Hp} {S P n : Nat} {p q W M : Nat → Nat} {w : Nat} {t : Int32} {c : Rc} {FF : Nat → Int32} (H : LW h S P n p q W M w t c FF) (dP : S + 7 ≤ P ∧ P + 3 ≤ S + 34) (V : LV h' S p q (.ref P) (nI w) t c) (F : LF h h' S) : LW h' S P n p q W M w t c FF := ⟨V, H.2.1.cong (fun c _ _ => F c (by omega) (by omega) (by omega)), by rw [F _ (by omega) (by omega) (by omega)]; exact H.2.2⟩
/-- a cell of what was found anew -/
theorem LV.found {h : Hp} {S : Nat} {p q : Nat → Nat} {pl : Value} {w t : Int32} {c : Rc} {e : zE} (H : LV h S p q pl w t c) : LV (hup h (S + 49) e) S p q pl w t c := by
  obtain ⟨b, ⟨pt, qt, tr⟩, z, l, u, v, k, x, y⟩ := H
  exact ⟨b.cong fun c _ _ => hup_n (by omega), ⟨pt, qt, tr.cong fun c _ _ => hup_n (by omega)⟩, z.hp (by omega), by rw [hup_n (by omega)]; exact l, by rw [hup_n (by omega)]; exact u, by rw [hup_n (by omega)]; exact v, by rw [hup_n (by omega)]; exact k, x.hp (by omega), y.hp (by omega)⟩
section
variable {h0 : Hp} {S P n : Nat} {p q W M : Nat → Nat} {w : Nat} {t : Int32} {c : Rc} {FF : Nat → Int32} {pr br : Nat → Nat}
/-- what the rest answers -/
def BrR (x : Option (Int32 × Hp)) (h : Hp) (S : Nat) (p q : Nat → Nat) (P w : Nat) (t : Int32) (c : Rc) (FF : Nat → Int32) (i code : Nat) : Prop := ∃ h', x = some (nI code, h') ∧ LV h' S p q (.ref P) (nI w) t c ∧ h' (S + 49) = some (.inl (0, 224, .inl (upd FF i (nI code)))) ∧ LF2 h h' S
theorem BrR.pre {x : Option (Int32 × Hp)} {h h1 : Hp} {i code : Nat} (F : LF h h1 S) (R : BrR x h1 S p q P w t c FF i code) : BrR x h S p q P w t c FF i code := by
  obtain ⟨h', a, b, d, e⟩ := R
  exact ⟨h', a, b, d, F.two.trans e⟩
theorem tv_1 {law c : Nat} : tv law c + 1 = tv law (c + 1) := by
  unfold tv
  split
  · rw [← nI_1 c, Int32.sub_add_cancel, Int32.add_sub_cancel]
  · rw [nI_1]
theorem cd_v {law a z c : Nat} (hc : c < lmost law) : ((2 : Int32) + ((nI a * (8 : Int32) + nI z) * (9 : Int32))) + tv law c + (1 : Int32) = nI (cdB law (a, z, c)) := by
  have e : (2 : Int32) + ((nI a * (8 : Int32) + nI z) * (9 : Int32)) = nI (2 + (a * 8 + z) * 9) := by
    rw [i8, show (9 : Int32) = nI 9 from rfl, pk_mul, nI_add, pk_mul, show (2 : Int32) = nI 2 from rfl, nI_add]
  rw [e]
  unfold cdB tv
  dsimp only
  by_cases d : lmost law = 1
  · rw [if_pos d, if_pos d]
    have c0 : c = 0 := by omega
    rw [c0, Int32.add_assoc, Int32.sub_add_cancel, nI_add]
  · rw [if_neg d, if_neg d, nI_add, nI_1, Nat.add_assoc]
/-- one third part -/
theorem L_br259 (H : LW h0 S P n p q W M w t c FF) (dP : S + 7 ≤ P ∧ P + 3 ≤ S + 34) (hw : w < 4) (hgd : good W M 8 0 n) (R : rcA c (evw W M p (amq q w)) 64) (B : RB p q pr br) {law a z g i : Nat} (hl : law < 7) (ha : a < 8) (hz : z < 8) (hg : g < lmost law) (hi : i < 224) (wt : Bool) (k174 : Int32 → Int32 → Int32 → Int32 → Int32 → Int32 → Hp → Option (Int32 × Hp)) (k184 : Int32 → Int32 → Int32 → Int32 → Int32 → Int32 → Int32 → Hp → Option (Int32 × Hp)) (k195 : Int32 → Int32 → Int32 → Int32 → Int32 → Int32 → Int32 → Int32 → Hp → Option (Int32 × Hp)) (x6 x7 x8 : Int32) : ((wt && badQ W M pr br w law a z g) = true ∧ BrR (f_L_breachOf_259 (S + 45) k174 k184 k195 (bI wt) (nI law) (nI i) x6 x7 x8 (nI a) (nI z) (tv law g) h0) h0 S p q P w t c FF i (cdB law (a, z, g))) ∨ ((wt && badQ W M pr br w law a z g) = false ∧ ∃ h', f_L_breachOf_259 (S + 45) k174 k184 k195 (bI wt) (nI law) (nI i) x6 x7 x8 (nI a) (nI z) (tv law g) h0 = k195 (nI law) (nI i) x6 x7 x8 (nI a) (nI z) (tv law (g + 1)) h' ∧ LW h' S P n p q W M w t c FF ∧ LF h0 h' S) := by
  cases wt with
  | false =>
    refine Or.inr ⟨rfl, h0, ?_, H, LF.refl⟩
    unfold f_L_breachOf_259
    rw [if_pos (show bI false = 0 from rfl)]
    unfold f_L_breachOf_314
    rw [tv_1]
  | true =>
    have tve : tv law g = if lmost law = 1 then -1 else nI g := by
      unfold tv
      by_cases d : lmost law = 1
      · rw [if_pos d, if_pos d, show g = 0 by omega]; rfl
      · rw [if_neg d, if_neg d]
    obtain ⟨h1, E1, V1, F1⟩ := L_isBroken H.1 H.2.1 dP hw hgd R B hl ha hz hg
    have H1 := H.nx dP V1 F1
    rw [← tve] at E1
    unfold f_L_breachOf_259
    rw [if_neg (show ¬ bI true = 0 by decide), E1, zb2_s]
    cases hb : badQ W M pr br w law a z g with
    | false =>
      refine Or.inr ⟨rfl, h1, ?_, H1, F1⟩
      rw [if_pos (show bI false = 0 from rfl)]
      unfold f_L_breachOf_314
      rw [tv_1]
    | true =>
      refine Or.inl ⟨rfl, ?_⟩
      obtain ⟨-, -, -, -, -, -, a6, -⟩ := V1.a
      have V2 := V1.found (e := .inl (0, 224, .inl (upd FF i (nI (cdB law (a, z, g))))))
      obtain ⟨-, -, -, -, -, -, b6, -⟩ := V2.a
      rw [if_neg (show ¬ bI true = 0 by decide), a6, Option.bind_some, Option.bind_some, cd_v hg, ai_set H1.2.2 hi (by decide), Option.bind_some, b6, Option.bind_some, Option.bind_some, ai_get hup_s hi (by decide), pk_us]
      exact ⟨_, rfl, V2, hup_s, F1.two.trans fun c o _ _ _ => hup_n o⟩
theorem L_br195 (dP : S + 7 ≤ P ∧ P + 3 ≤ S + 34) (hw : w < 4) (hgd : good W M 8 0 n) (R : rcA c (evw W M p (amq q w)) 64) (B : RB p q pr br) {law a z i all : Nat} (hl : law < 7) (ha : a < 8) (hz : z < 8) (haz : a ≠ z) (hi : i < 224) (hall : all < 32) (k174 : Int32 → Int32 → Int32 → Int32 → Int32 → Int32 → Hp → Option (Int32 × Hp)) (k184 : Int32 → Int32 → Int32 → Int32 → Int32 → Int32 → Int32 → Hp → Option (Int32 × Hp)) (x7 : Int32) : ∀ (k f g : Nat) (h : Hp), g + k = lmost law → LW h S P n p q W M w t c FF → (∃ r, sc (brkC (badQ W M pr br w law) law all a z) k g = some r ∧ BrR (f_L_breachOf_195 (S + 45) k174 k184 (f + k + 1) (nI law) (nI i) (nI all) x7 (tv law (lmost law - 1)) (nI a) (nI z) (tv law g) h) h S p q P w t c FF i (cdB law r)) ∨ (sc (brkC (badQ W M pr br w law) law all a z) k g = none ∧ ∃ h', f_L_breachOf_195 (S + 45) k174 k184 (f + k + 1) (nI law) (nI i) (nI all) x7 (tv law (lmost law - 1)) (nI a) (nI z) (tv law g) h = k184 (nI law) (nI i) (nI all) x7 (tv law (lmost law - 1)) (nI a) (nI (z + 1)) h' ∧ LW h' S P n p q W M w t c FF ∧ LF h h' S) := by
  have lm := lmost_cs law
  intro k
  induction k with
  | zero =>
    intro f g h hg H
    refine Or.inr ⟨rfl, h, ?_, H, LF.refl⟩
    show t_L_breachOf_195 _ _ _ _ _ _ _ _ _ _ _ _ _ = _
    unfold t_L_breachOf_195
    rw [if_pos]
    · unfold f_L_breachOf_320
      rw [nI_1]
    · have ge : g = lmost law := by omega
      subst ge
      unfold tv
      rcases lm with ⟨e, -⟩ | ⟨e, -⟩ | ⟨e, -⟩ <;> rw [e] <;> decide
  | succ k ih =>
    intro f g h hg H
    have c8 : g < lmost law := by omega
    have one : f_L_breachOf_195 (S + 45) k174 k184 (f + (k + 1) + 1) (nI law) (nI i) (nI all) x7 (tv law (lmost law - 1)) (nI a) (nI z) (tv law g) h = f_L_breachOf_259 (S + 45) k174 k184 (f_L_breachOf_195 (S + 45) k174 k184 (f + k + 1)) (bI (wnt law all a z g)) (nI law) (nI i) (nI all) x7 (tv law (lmost law - 1)) (nI a) (nI z) (tv law g) h := by
      show t_L_breachOf_195 _ k174 k184 (f_L_breachOf_195 (S + 45) k174 k184 (f + k + 1)) _ _ _ _ _ _ _ _ _ = _
      unfold t_L_breachOf_195
      have nlt : ¬ tv law (lmost law - 1) < tv law g := by
        unfold tv
        rcases lm with ⟨e, -⟩ | ⟨e, -⟩ | ⟨e, -⟩
        · rw [if_pos e, if_pos e, show g = 0 by omega, e]; decide
        · rw [e, if_neg (by decide), if_neg (by decide)]; exact nI_nlt (by omega) (by decide)
        · rw [e, if_neg (by decide), if_neg (by decide)]; exact nI_nlt (by omega) (by decide)
      rw [if_neg nlt, if_neg (show ¬ nI a = nI z from fun e => haz ((nI_eq (by omega) (by omega)).mp e))]
      unfold wnt
      rcases lm with ⟨e, n2, n4, n5⟩ | ⟨e, h45⟩ | ⟨e, rfl⟩
      · have t0 : tv law g = -1 := by
          unfold tv
          rw [if_pos e, show g = 0 by omega]; rfl
        rw [if_neg (show ¬ nI law = (2 : Int32) from fun e => n2 ((nI_eq (by omega) (by decide)).mp e)), t0, if_pos rfl, if_neg n2, if_neg (by omega)]
        rfl
      · have n2 : law ≠ 2 := by omega
        have t0 : tv law g = nI g := by
          unfold tv
          rw [if_neg (by omega)]
        rw [if_neg (show ¬ nI law = (2 : Int32) from fun e => n2 ((nI_eq (by omega) (by decide)).mp e)), t0, if_neg (nI_m1 (by omega)), if_neg n2, if_pos h45, sh_b all hall g (by omega)]
        cases all.testBit g with
        | true => rw [if_pos (show (if true = true then nI 1 else nI 0) = (1 : Int32) from rfl)]; rfl
        | false => rw [if_neg (by decide)]; rfl
      · have t0 : tv 2 g = nI g := by
          unfold tv
          rw [if_neg (by decide)]
        rw [if_pos (show nI 2 = (2 : Int32) from rfl), t0, if_pos (show 2 = 2 from rfl)]
        by_cases d1 : g = a
        · subst d1
          rw [if_pos rfl, decide_eq_false (fun x => x.1 rfl)]
          rfl
        · rw [if_neg (show ¬ nI g = nI a from fun e => d1 ((nI_eq (by omega) (by omega)).mp e))]
          by_cases d2 : g = z
          · subst d2
            rw [if_pos rfl, decide_eq_false (fun x => x.2 rfl)]
            rfl
          · rw [if_neg (show ¬ nI g = nI z from fun e => d2 ((nI_eq (by omega) (by omega)).mp e)), decide_eq_true (⟨d1, d2⟩ : g ≠ a ∧ g ≠ z)]
            rfl
    rw [one]
    unfold sc brkC
    rcases L_br259 H dP hw hgd R B hl ha hz c8 hi (wnt law all a z g) k174 k184 (f_L_breachOf_195 (S + 45) k174 k184 (f + k + 1)) (nI all) x7 (tv law (lmost law - 1)) with ⟨e, R⟩ | ⟨e, h', E, H', F'⟩
    · refine Or.inl ⟨(a, z, g), ?_, R⟩
      rw [if_pos e]
    · rw [E, if_neg (by rw [e]; decide)]
      dsimp only
      rcases ih f (g + 1) h' (by omega) H' with ⟨r, S1, R1⟩ | ⟨S1, h2, E2, H2, F2⟩
      · exact Or.inl ⟨r, S1, R1.pre F'⟩
      · exact Or.inr ⟨S1, h2, E2, H2, F'.trans F2⟩
theorem L_br184 (dP : S + 7 ≤ P ∧ P + 3 ≤ S + 34) (hw : w < 4) (hgd : good W M 8 0 n) (R : rcA c (evw W M p (amq q w)) 64) (B : RB p q pr br) {law a i all : Nat} (hl : law < 7) (ha : a < 8) (hi : i < 224) (hall : all < 32) (k174 : Int32 → Int32 → Int32 → Int32 → Int32 → Int32 → Hp → Option (Int32 × Hp)) : ∀ (k f z : Nat) (h : Hp), z + k = 8 → LW h S P n p q W M w t c FF → (∃ r, sc (brkB (badQ W M pr br w law) law all a) k z = some r ∧ BrR (f_L_breachOf_184 (S + 45) k174 (f + k + 1) (nI law) (nI i) (nI all) (tv law 0) (tv law (lmost law - 1)) (nI a) (nI z) h) h S p q P w t c FF i (cdB law r)) ∨ (sc (brkB (badQ W M pr br w law) law all a) k z = none ∧ ∃ h', f_L_breachOf_184 (S + 45) k174 (f + k + 1) (nI law) (nI i) (nI all) (tv law 0) (tv law (lmost law - 1)) (nI a) (nI z) h = k174 (nI law) (nI i) (nI all) (tv law 0) (tv law (lmost law - 1)) (nI (a + 1)) h' ∧ LW h' S P n p q W M w t c FF ∧ LF h h' S) := by
  have lmb := lmost_b law
  intro k
  induction k with
  | zero =>
    intro f z h hz H
    have z8 : z = 8 := by omega
    subst z8
    refine Or.inr ⟨rfl, h, ?_, H, LF.refl⟩
    show t_L_breachOf_184 _ _ _ _ _ _ _ _ _ _ _ = _
    unfold t_L_breachOf_184
    rw [if_pos (by decide), nI_1]
  | succ k ih =>
    intro f z h hz H
    have one : f_L_breachOf_184 (S + 45) k174 (f + (k + 1) + 1) (nI law) (nI i) (nI all) (tv law 0) (tv law (lmost law - 1)) (nI a) (nI z) h = f_L_breachOf_195 (S + 45) k174 (f_L_breachOf_184 (S + 45) k174 (f + k + 1)) FU (nI law) (nI i) (nI all) (tv law 0) (tv law (lmost law - 1)) (nI a) (nI z) (tv law 0) h := by
      show t_L_breachOf_184 _ k174 (f_L_breachOf_184 (S + 45) k174 (f + k + 1)) _ _ _ _ _ _ _ _ = _
      unfold t_L_breachOf_184
      rw [if_neg (by rw [i8]; exact nI_ge (by omega) (by decide))]
    rw [one]
    by_cases haz : a = z
    · subst haz
      have two : f_L_breachOf_195 (S + 45) k174 (f_L_breachOf_184 (S + 45) k174 (f + k + 1)) FU (nI law) (nI i) (nI all) (tv law 0) (tv law (lmost law - 1)) (nI a) (nI a) (tv law 0) h = f_L_breachOf_184 (S + 45) k174 (f + k + 1) (nI law) (nI i) (nI all) (tv law 0) (tv law (lmost law - 1)) (nI a) (nI (a + 1)) h := by
        show t_L_breachOf_195 _ _ _ _ _ _ _ _ _ _ _ _ _ = _
        unfold t_L_breachOf_195
        have st : f_L_breachOf_320 (S + 45) k174 (f_L_breachOf_184 (S + 45) k174 (f + k + 1)) (nI law) (nI i) (nI all) (tv law 0) (tv law (lmost law - 1)) (nI a) (nI a) h = f_L_breachOf_184 (S + 45) k174 (f + k + 1) (nI law) (nI i) (nI all) (tv law 0) (tv law (lmost law - 1)) (nI a) (nI (a + 1)) h := by
          unfold f_L_breachOf_320
          rw [nI_1]
        rw [if_pos rfl, st]
        split <;> rfl
      rw [two]
      have e : brkB (badQ W M pr br w law) law all a a = none := by unfold brkB; rw [if_pos rfl]
      unfold sc
      rw [e]
      exact ih f (a + 1) h (by omega) H
    · have e : brkB (badQ W M pr br w law) law all a z = sc (brkC (badQ W M pr br w law) law all a z) (lmost law) 0 := by unfold brkB; rw [if_neg haz]
      unfold sc
      rw [e]
      have R1 := L_br195 dP hw hgd R B hl ha (show z < 8 by omega) haz hi hall k174 (f_L_breachOf_184 (S + 45) k174 (f + k + 1)) (tv law 0) (lmost law) (FU - lmost law - 1) 0 h (Nat.zero_add _) H
      have fu : FU - lmost law - 1 + lmost law + 1 = FU := by unfold FU; omega
      rw [fu] at R1
      rcases R1 with ⟨r, S1, R1⟩ | ⟨S1, h', E, H', F'⟩
      · rw [S1]
        exact Or.inl ⟨r, rfl, R1⟩
      · rw [S1, E]
        dsimp only
        rcases ih f (z + 1) h' (by omega) H' with ⟨r, S2, R2⟩ | ⟨S2, h2, E2, H2, F2⟩
        · exact Or.inl ⟨r, S2, R2.pre F'⟩
        · exact Or.inr ⟨S2, h2, E2, H2, F'.trans F2⟩
theorem L_br174 (dP : S + 7 ≤ P ∧ P + 3 ≤ S + 34) (hw : w < 4) (hgd : good W M 8 0 n) (R : rcA c (evw W M p (amq q w)) 64) (B : RB p q pr br) {law i all : Nat} (hl : law < 7) (hi : i < 224) (hall : all < 32) : ∀ (k f a : Nat) (h : Hp), a + k = 8 → LW h S P n p q W M w t c FF → BrR (f_L_breachOf_174 (S + 45) (f + k + 1) (nI law) (nI i) (nI all) (tv law 0) (tv law (lmost law - 1)) (nI a) h) h S p q P w t c FF i (cdO law (sc (brkA (badQ W M pr br w law) law all) k a)) := by
  intro k
  induction k with
  | zero =>
    intro f a h ha H
    have a8 : a = 8 := by omega
    subst a8
    obtain ⟨-, -, -, -, -, -, a6, -⟩ := H.1.a
    refine ⟨_, ?_, H.1.found (e := .inl (0, 224, .inl (upd FF i (nI 1)))), hup_s, fun c o _ _ _ => hup_n o⟩
    show t_L_breachOf_174 _ _ _ _ _ _ _ _ _ = _
    unfold t_L_breachOf_174
    rw [if_pos (by decide), a6, Option.bind_some, Option.bind_some, ai_set H.2.2 hi (by decide)]
    rfl
  | succ k ih =>
    intro f a h ha H
    have one : f_L_breachOf_174 (S + 45) (f + (k + 1) + 1) (nI law) (nI i) (nI all) (tv law 0) (tv law (lmost law - 1)) (nI a) h = f_L_breachOf_184 (S + 45) (f_L_breachOf_174 (S + 45) (f + k + 1)) (FU - 9 + 8 + 1) (nI law) (nI i) (nI all) (tv law 0) (tv law (lmost law - 1)) (nI a) (nI 0) h := by
      show t_L_breachOf_174 _ (f_L_breachOf_174 (S + 45) (f + k + 1)) _ _ _ _ _ _ _ = _
      unfold t_L_breachOf_174
      rw [if_neg (by rw [i8]; exact nI_ge (by omega) (by decide))]
      rfl
    rw [one]
    unfold sc
    rw [show brkA (badQ W M pr br w law) law all a = sc (brkB (badQ W M pr br w law) law all a) 8 0 from rfl]
    rcases L_br184 dP hw hgd R B hl (show a < 8 by omega) hi hall (f_L_breachOf_174 (S + 45) (f + k + 1)) 8 (FU - 9) 0 h rfl H with ⟨r, S1, R1⟩ | ⟨S1, h', E, H', F'⟩
    · rw [S1]
      exact R1
    · rw [S1, E]
      exact BrR.pre F' (ih f (a + 1) h' (by omega) H')
end
