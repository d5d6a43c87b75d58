/-! ===== the reference: isBroken ===== -/
theorem law_ok (W M p b : Nat → Nat) (w law a z c : Nat) : lok (lawQ W M p b w law a z c) := by
  have k := evw_ok
  unfold lawQ
  split
  · exact isOne_ok (evw_ok _ _ _ _ _ _)
  split
  · exact isOne_ok (qmul_ok (evw_ok _ _ _ _ _ _) (evw_ok _ _ _ _ _ _))
  split
  · exact alike_ok (qmul_ok (evw_ok _ _ _ _ _ _) (evw_ok _ _ _ _ _ _)) (evw_ok _ _ _ _ _ _)
  split
  · unfold twiceQ
    have k1 := evw_ok W M p (bam b w) a z
    cases hx : evw W M p (bam b w) a z with
    | error e => rw [hx] at k1; intro e2 h; cases h; exact k1
    | ok x =>
      dsimp only
      rw [hx] at k1
      have k2 := evw_ok W M (dbn p z 5) (bam b w) a z
      cases hy : evw W M (dbn p z 5) (bam b w) a z with
      | error e => rw [hy] at k2; intro e2 h; cases h; exact k2
      | ok y => rw [hy] at k2; exact alike_ok (qdbl_ok k1) k2
  split
  · unfold unitsQ
    have k1 := evw_ok W M p (bam b w) a z
    cases hx : evw W M p (bam b w) a z with
    | error e => rw [hx] at k1; intro e2 h; cases h; exact k1
    | ok x =>
      dsimp only
      rw [hx] at k1
      have k2 := evw_ok W M (dgn p c 8) (bam (dbb b c 150) w) a z
      cases hy : evw W M (dgn p c 8) (bam (dbb b c 150) w) a z with
      | error e => rw [hy] at k2; intro e2 h; cases h; exact k2
      | ok y => rw [hy] at k2; exact alike_ok k1 k2
  split
  · unfold upQ
    split
    · intro e h; cases h; exact Or.inl rfl
    · have k1 := evw_ok W M p (bam b w) a z
      cases hx : evw W M p (bam b w) a z with
      | error e => rw [hx] at k1; intro e2 h; cases h; exact k1
      | ok x =>
        dsimp only
        have k2 := evw_ok W M (nup p (z * 5 + c) (p (z * 5 + c) + 1)) (bam b w) a z
        cases hy : evw W M (nup p (z * 5 + c) (p (z * 5 + c) + 1)) (bam b w) a z with
        | error e => rw [hy] at k2; intro e2 h; cases h; exact k2
        | ok y =>
          dsimp only
          cases qord x y with
          | error e3 => intro e h; cases h; exact Or.inr rfl
          | ok z => intro e h; cases h
  · unfold betwQ btw
    have k1 := evw_ok W M p (bam b w) a z
    cases hx : evw W M p (bam b w) a z with
    | error e => rw [hx] at k1; intro e2 h; cases h; exact k1
    | ok x =>
      dsimp only
      split
      · unfold btq
        split
        · intro e h; cases h
        · intro e h; cases h; exact Or.inr rfl
      · intro e h; cases h; exact Or.inl rfl
/-- fields that a breach writes too -/
def MEq3 (F F' : Nat → Value) : Prop := ∀ k, k ≠ 14 → k ≠ 15 → k ≠ 16 → k ≠ 17 → k ≠ 26 → k ≠ 27 → k ≠ 33 → k ≠ 34 → k ≠ 35 → F' k = F k
theorem MEq.e3 {F F' : Nat → Value} (a : MEq F F') : MEq3 F F' := fun k x y z w v t _ _ _ => a k x y z w v t
theorem MEq3.trans {F F1 F2 : Nat → Value} (a : MEq3 F F1) (b : MEq3 F1 F2) : MEq3 F F2 := fun k x y z w v t o p q => by rw [b k x y z w v t o p q, a k x y z w v t o p q]
theorem MEq3.refl {F : Nat → Value} : MEq3 F F := fun _ _ _ _ _ _ _ _ _ _ => rfl
theorem MS.fld3 {h : Hp} {m base n : Nat} {p b W M : Nat → Nat} {F : Nat → Value} (H : MS h m base n p b W M F) {k : Nat} (hk : k = 33 ∨ k = 34 ∨ k = 35) (x : Int32) : pV h m 8 k (.int x) = some (hup h m (ocell 8 40 (fset F k (.int x)))) ∧ MS (hup h m (ocell 8 40 (fset F k (.int x)))) m base n p b W M (fset F k (.int x)) ∧ MEq3 F (fset F k (.int x)) := by
  obtain ⟨s, u, l, r, rfl, X, K, A⟩ := H
  have g : ∀ j, j ≠ k → fset s.1 k (.int x) j = s.1 j := fun j hj => fset_n hj
  have R : mRef (fset s.1 k (.int x)) m := by
    obtain ⟨a, c, d, e, f⟩ := X.2.1
    exact ⟨by rw [g 0 (by omega)]; exact a, by rw [g 1 (by omega)]; exact c, by rw [g 3 (by omega)]; exact d, by rw [g 4 (by omega)]; exact e, fun j hj => by rw [g (18 + j) (by omega)]; exact f j hj⟩
  refine ⟨oc_p X.1 (by omega), ⟨(fset s.1 k (.int x), s.2), u, l, r, rfl, ⟨hup_s, R, mTy_set X.2.2.1 (by omega), ?_, X.2.2.2.2.1.cong hup_s R (fun c a _ => hup_n (by omega)), X.2.2.2.2.2.1.cong (fun c a _ => hup_n (by omega)), ?_, ?_, ?_⟩, ?_, ?_⟩, fun j _ _ _ _ _ _ a b c => g j (by omega)⟩
  · obtain ⟨z, hz⟩ := X.2.2.2.1
    exact ⟨z, by dsimp only; rw [g 17 (by omega)]; exact hz⟩
  · intro j hj; rw [hup_n (by omega)]; exact X.2.2.2.2.2.2.1 j hj
  · intro j hj; rw [hup_n (by omega)]; exact X.2.2.2.2.2.2.2.1 j hj
  · rw [hup_n (by omega)]; exact X.2.2.2.2.2.2.2.2
  · obtain ⟨⟨a, c, d⟩, e, f, i⟩ := K
    exact ⟨⟨by rw [g 28 (by omega)]; exact a, by rw [g 29 (by omega)]; exact c, by rw [g 30 (by omega)]; exact d⟩, by rw [hup_n (by omega)]; exact e, by rw [hup_n (by omega)]; exact f, by rw [hup_n (by omega)]; exact i⟩
  · obtain ⟨a, c, p0, b0, d, e⟩ := A
    obtain ⟨F1, d1, d2⟩ := d
    obtain ⟨F2, e1, e2⟩ := e
    exact ⟨by rw [g 31 (by omega)]; exact a, by rw [g 32 (by omega)]; exact c, p0, b0, ⟨F1, by rw [hup_n (by omega)]; exact d1, d2⟩, ⟨F2, by rw [hup_n (by omega)]; exact e1, e2⟩⟩
/-- what isBroken's rest answers -/
def BkR (x : Option (Int32 × Hp)) (h : Hp) (m base n : Nat) (p b W M : Nat → Nat) (F : Nat → Value) (law : Nat) (res : Option (Nat × Nat × Nat)) : Prop := ∃ h' F', x = some (bI res.isSome, h') ∧ MS h' m base n p b W M F' ∧ MEq3 F F' ∧ MFs h h' m ∧ ∀ a z c, res = some (a, z, c) → F' 33 = .int (nI a) ∧ F' 34 = .int (nI z) ∧ F' 35 = .int (if lmost law = 1 then -1 else nI c)
section
variable {m num n w : Nat} {p b W M : Nat → Nat}
theorem MS.o {h : Hp} {base : Nat} {F : Nat → Value} (H : MS h m base n p b W M F) : isO h m 8 = true := by
  obtain ⟨s, u, l, r, rfl, X, K, A⟩ := H
  exact X.o
theorem M_brk123 {h : Hp} {F : Nat → Value} (H : MS h m (40 * num) n p b W M F) (hg : good W M 8 0 n) (hn : n ≤ 20) (h99 : ∀ k, k < 40 → p k ≤ 99) (h9 : ∀ k, k < 150 → b k ≤ 9) {law a z c : Nat} (hw : w < 4) (hl : law < 7) (ha : a < 8) (hz : z < 8) (hc : c < lmost law) (wt : Bool) (all : Nat) (k9 : Int32 → Int32 → Int32 → Int32 → Int32 → Hp → Option (Int32 × Hp)) (k19 : Int32 → Int32 → Int32 → Int32 → Int32 → Int32 → Hp → Option (Int32 × Hp)) (k56 : Int32 → Int32 → Int32 → Int32 → Int32 → Int32 → Int32 → Int32 → Hp → Option (Int32 × Hp)) (x4 : Int32) : ((wt && badQ W M p b w law a z c) = true ∧ BkR (f_M_isBroken_123 m k9 k19 k56 (bI wt) (nI num) (nI w) (nI law) x4 (nI a) (nI z) (nI (lmost law)) (nI c) h) h m (40 * num) n p b W M F law (some (a, z, c))) ∨ ((wt && badQ W M p b w law a z c) = false ∧ ∃ h' F', f_M_isBroken_123 m k9 k19 k56 (bI wt) (nI num) (nI w) (nI law) x4 (nI a) (nI z) (nI (lmost law)) (nI c) h = k56 (nI num) (nI w) (nI law) x4 (nI a) (nI z) (nI (lmost law)) (nI (c + 1)) h' ∧ MS h' m (40 * num) n p b W M F' ∧ MEq3 F F' ∧ MFs h h' m) := by
  cases wt with
  | false =>
    refine Or.inr ⟨rfl, h, F, ?_, H, MEq3.refl, fun _ _ => rfl⟩
    unfold f_M_isBroken_123
    rw [if_pos (show bI false = 0 from rfl)]
    unfold f_M_isBroken_176
    rw [nI_1]
  | true =>
    obtain ⟨h1, F1, E1, H1, e1, f1⟩ := M_law H hg hn h99 h9 hw hl ha hz hc
    have ne : ∀ e, lawQ W M p b w law a z c = .error e → e ≠ 0 := fun e q => by rcases law_ok W M p b w law a z c e q with rfl | rfl <;> decide
    unfold f_M_isBroken_123
    rw [if_neg (by decide), E1, zb2_s]
    unfold badQ
    cases hL : lawQ W M p b w law a z c with
    | error e =>
      refine Or.inr ⟨rfl, h1, F1, ?_, H1, e1.e3, f1⟩
      rw [if_neg (show ¬ cod (.error e) = 0 from ne e hL)]
      unfold f_M_isBroken_176
      rw [nI_1]
    | ok t =>
      cases t with
      | true =>
        refine Or.inr ⟨rfl, h1, F1, ?_, H1, e1.e3, f1⟩
        rw [if_neg (show ¬ cod (.ok true) = 0 by decide)]
        unfold f_M_isBroken_176
        rw [nI_1]
      | false =>
        refine Or.inl ⟨rfl, ?_⟩
        rw [if_pos (show cod (.ok false) = 0 by decide)]
        obtain ⟨E2, H2, e2⟩ := H1.fld3 (k := 33) (Or.inl rfl) (nI a)
        obtain ⟨E3, H3, e3⟩ := H2.fld3 (k := 34) (Or.inr (Or.inl rfl)) (nI z)
        obtain ⟨E4, H4, e4⟩ := H3.fld3 (k := 35) (Or.inr (Or.inr rfl)) (if lmost law = 1 then -1 else nI c)
        rw [E2, Option.bind_some, E3, Option.bind_some]
        refine ⟨_, _, ?_, H4, ((e1.e3.trans e2).trans e3).trans e4, MFs.trans (MFs.trans (MFs.trans f1 (fun c hc => hup_n (by omega))) (fun c hc => hup_n (by omega))) (fun c hc => hup_n (by omega)), ?_⟩
        · have lm : lmost law = 1 ∨ lmost law = 5 ∨ lmost law = 8 := by
            unfold lmost
            split
            · exact Or.inr (Or.inr rfl)
            · split
              · exact Or.inr (Or.inl rfl)
              · exact Or.inl rfl
          unfold f_M_isBroken_171
          rcases lm with c1 | c1 | c1
          · rw [c1] at E4 ⊢
            rw [if_pos rfl] at E4 ⊢
            rw [if_pos (show nI 1 = (1 : Int32) from rfl), E4]
            rfl
          · rw [c1] at E4 ⊢
            rw [if_neg (by decide)] at E4 ⊢
            rw [if_neg (by decide), E4]
            rfl
          · rw [c1] at E4 ⊢
            rw [if_neg (by decide)] at E4 ⊢
            rw [if_neg (by decide), E4]
            rfl
        · intro a2 z2 c2 e
          cases e
          refine ⟨?_, ?_, fset_s⟩
          · rw [fset_n (by decide), fset_n (by decide), fset_s]
          · rw [fset_n (by decide), fset_s]
theorem BkR.pre {x : Option (Int32 × Hp)} {h h1 : Hp} {base law : Nat} {F F1 : Nat → Value} {res : Option (Nat × Nat × Nat)} (e : MEq3 F F1) (f : MFs h h1 m) (R : BkR x h1 m base n p b W M F1 law res) : BkR x h m base n p b W M F law res := by
  obtain ⟨h', F', a, c, d, g, i⟩ := R
  exact ⟨h', F', a, c, e.trans d, MFs.trans f g, i⟩
/-- all third parts -/
theorem M_brk56 (hg : good W M 8 0 n) (hn : n ≤ 20) (h99 : ∀ k, k < 40 → p k ≤ 99) (h9 : ∀ k, k < 150 → b k ≤ 9) {law a z all : Nat} (hw : w < 4) (hl : law < 7) (ha : a < 8) (hz : z < 8) (haz : a ≠ z) (hall : all < 32) (k9 : Int32 → Int32 → Int32 → Int32 → Int32 → Hp → Option (Int32 × Hp)) (k19 : Int32 → Int32 → Int32 → Int32 → Int32 → Int32 → Hp → Option (Int32 × Hp)) : ∀ (k f c : Nat) (h : Hp) (F : Nat → Value), c + k = lmost law → MS h m (40 * num) n p b W M F → (∃ t, sc (brkC (badQ W M p b w law) law all a z) k c = some t ∧ BkR (f_M_isBroken_56 m k9 k19 (f + k + 1) (nI num) (nI w) (nI law) (nI all) (nI a) (nI z) (nI (lmost law)) (nI c) h) h m (40 * num) n p b W M F law (some t)) ∨ (sc (brkC (badQ W M p b w law) law all a z) k c = none ∧ ∃ h' F', f_M_isBroken_56 m k9 k19 (f + k + 1) (nI num) (nI w) (nI law) (nI all) (nI a) (nI z) (nI (lmost law)) (nI c) h = k19 (nI num) (nI w) (nI law) (nI all) (nI a) (nI (z + 1)) h' ∧ MS h' m (40 * num) n p b W M F' ∧ MEq3 F F' ∧ MFs h h' m) := by
  have lm8 : lmost law ≤ 8 := by
    unfold lmost
    split
    · decide
    · split <;> decide
  intro k
  induction k with
  | zero =>
    intro f c h F hc H
    refine Or.inr ⟨rfl, h, F, ?_, H, MEq3.refl, fun _ _ => rfl⟩
    have cc : c = lmost law := by omega
    subst cc
    show t_M_isBroken_56 _ _ _ _ _ _ _ _ _ _ _ _ _ = _
    unfold t_M_isBroken_56
    rw [if_pos (nI_le (Nat.le_refl _) (by omega))]
    unfold f_M_isBroken_182
    rw [nI_1]
  | succ k ih =>
    intro f c h F hc H
    have c8 : c < lmost law := by omega
    -- one third part
    have one : f_M_isBroken_56 m k9 k19 (f + (k + 1) + 1) (nI num) (nI w) (nI law) (nI all) (nI a) (nI z) (nI (lmost law)) (nI c) h = f_M_isBroken_123 m k9 k19 (f_M_isBroken_56 m k9 k19 (f + k + 1)) (bI (wnt law all a z c)) (nI num) (nI w) (nI law) (nI all) (nI a) (nI z) (nI (lmost law)) (nI c) h := by
      have nl : ∀ k : Nat, k < 7 → law ≠ k → ¬ nI law = nI k := fun k hk hne e => hne ((nI_eq (by omega) (by omega)).mp e)
      show t_M_isBroken_56 m k9 k19 (f_M_isBroken_56 m k9 k19 (f + k + 1)) _ _ _ _ _ _ _ _ _ = _
      unfold t_M_isBroken_56
      rw [if_neg (nI_ge c8 (by omega)), if_neg (show ¬ nI a = nI z from fun e => haz ((nI_eq (by omega) (by omega)).mp e))]
      unfold wnt
      by_cases c2 : law = 2
      · subst c2
        rw [if_pos (show nI 2 = (2 : Int32) from rfl), if_pos rfl]
        by_cases d1 : c = a
        · subst d1
          rw [if_pos rfl, decide_eq_false (fun x => x.1 rfl)]
          rfl
        · rw [if_neg (show ¬ nI c = nI a from fun e => d1 ((nI_eq (by omega) (by omega)).mp e))]
          by_cases d2 : c = z
          · subst d2
            rw [if_pos rfl, decide_eq_false (fun x => x.2 rfl)]
            rfl
          · rw [if_neg (show ¬ nI c = nI z from fun e => d2 ((nI_eq (by omega) (by omega)).mp e)), decide_eq_true ⟨d1, d2⟩]
            rfl
      · rw [if_neg (show ¬ nI law = (2 : Int32) from nl 2 (by decide) c2), if_neg c2]
        have bit : law = 4 ∨ law = 5 → f_M_isBroken_107 m k9 k19 (f_M_isBroken_56 m k9 k19 (f + k + 1)) (nI num) (nI w) (nI law) (nI all) (nI a) (nI z) (nI (lmost law)) (nI c) h = f_M_isBroken_123 m k9 k19 (f_M_isBroken_56 m k9 k19 (f + k + 1)) (bI (all.testBit c)) (nI num) (nI w) (nI law) (nI all) (nI a) (nI z) (nI (lmost law)) (nI c) h := by
          intro h45
          have c5 : c < 5 := by
            have : lmost law = 5 := by
              unfold lmost
              rw [if_neg c2, if_pos h45]
            omega
          unfold f_M_isBroken_107
          rw [sh_b all hall c c5]
          cases all.testBit c with
          | true => rw [if_pos rfl, if_pos (show nI 1 = (1 : Int32) from rfl)]; rfl
          | false => rw [if_neg (by decide)]; rfl
        by_cases c4 : law = 4
        · rw [if_pos (show nI law = (4 : Int32) by rw [c4]; rfl), if_pos (Or.inl c4)]
          exact bit (Or.inl c4)
        · rw [if_neg (show ¬ nI law = (4 : Int32) from nl 4 (by decide) c4)]
          by_cases c5 : law = 5
          · rw [if_pos (show nI law = (5 : Int32) by rw [c5]; rfl), if_pos (Or.inr c5)]
            exact bit (Or.inr c5)
          · rw [if_neg (show ¬ nI law = (5 : Int32) from nl 5 (by decide) c5), if_neg (by omega)]
            rfl
    rw [one]
    unfold sc brkC
    rcases M_brk123 H hg hn h99 h9 hw hl ha hz c8 (wnt law all a z c) all k9 k19 (f_M_isBroken_56 m k9 k19 (f + k + 1)) (nI all) with ⟨e, R⟩ | ⟨e, h', F', E, H', e', f'⟩
    · refine Or.inl ⟨(a, z, c), ?_, R⟩
      rw [if_pos e]
    · rw [E, if_neg (by rw [e]; decide)]
      dsimp only
      rcases ih f (c + 1) h' F' (by omega) H' with ⟨t, S, R⟩ | ⟨S, h2, F2, E2, H2, e2, f2⟩
      · exact Or.inl ⟨t, S, BkR.pre e' f' R⟩
      · exact Or.inr ⟨S, h2, F2, E2, H2, e'.trans e2, MFs.trans f' f2⟩
end
