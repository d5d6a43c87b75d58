/-! ===== the class: breachOf, with what was found ===== -/
/-- numbers: how many words, the words, their marks -/
abbrev Nt : Type := Nat → Nat × (Nat → Nat) × (Nat → Nat)
def nl (T : Nt) (n : Nat) : Nat := (T n).1
def nW (T : Nt) (n : Nat) : Nat → Nat := (T n).2.1
def nM (T : Nt) (n : Nat) : Nat → Nat := (T n).2.2
/-- all numbers made are good, and the class's plans tell them -/
def PLs (h : Hp) (S mk : Nat) (T : Nt) : Prop := ∀ n, n < mk → PL h (S + 8 + 3 * n) (nl T n) (nW T n) (nM T n) ∧ good (nW T n) (nM T n) 8 0 (nl T n)
def okF (FF : Nat → Int32) (mk : Nat) (T : Nt) (pr br : Nat → Nat) : Prop := ∀ n w law, n < 8 → w < 4 → law < 7 → FF ((n * 4 + w) * 7 + law) = 0 ∨ (n < mk ∧ FF ((n * 4 + w) * 7 + law) = nI (cdO law (brkQ (nW T n) (nM T n) pr br w law)))
def okT (t : Int32) (c : Rc) (mk : Nat) (T : Nt) (p q : Nat → Nat) : Prop := t = -1 ∨ ∃ n w, n < mk ∧ w < 4 ∧ t = nI (n * 4 + w) ∧ rcA c (evw (nW T n) (nM T n) p (amq q w)) 64
def LA (h : Hp) (S mk : Nat) (T : Nt) (p q pr br : Nat → Nat) : Prop := ∃ pl w t c FF, LV h S p q pl w t c ∧ h (S + 49) = some (.inl (0, 224, .inl FF)) ∧ okF FF mk T pr br ∧ okT t c mk T p q ∧ PLs h S mk T
theorem LV.set {h : Hp} {S : Nat} {p q : Nat → Nat} {pl pl' : Value} {w t w' t' : Int32} {c : Rc} (H : LV h S p q pl w t c) : LV (hup h (S + 45) (LC S pl' w' t')) S p q pl' w' t' c := by
  obtain ⟨b, ⟨pt, qt, tr⟩, z, l, u, v, k, x, y⟩ := H
  exact ⟨b.cong fun c _ _ => hup_n (by omega), ⟨pt, qt, tr.cong fun c _ _ => hup_n (by omega)⟩, z.hp (by omega), hup_s, by rw [hup_n (by omega)]; exact u, by rw [hup_n (by omega)]; exact v, by rw [hup_n (by omega)]; exact k, x.hp (by omega), y.hp (by omega)⟩
section
variable {h : Hp} {S mk : Nat} {T : Nt} {p q pr br : Nat → Nat}
theorem lc_p10 {pl pl' : Value} {w t : Int32} (H : h (S + 45) = some (LC S pl w t)) : pV h (S + 45) 2 10 pl' = some (hup h (S + 45) (LC S pl' w t)) := by simp [pV, H, LC]
theorem lc_p11 {pl : Value} {w t w' : Int32} (H : h (S + 45) = some (LC S pl w t)) : pV h (S + 45) 2 11 (.int w') = some (hup h (S + 45) (LC S pl w' t)) := by simp [pV, H, LC]
theorem lc_p12 {pl : Value} {w t t' : Int32} (H : h (S + 45) = some (LC S pl w t)) : pV h (S + 45) 2 12 (.int t') = some (hup h (S + 45) (LC S pl w t')) := by simp [pV, H, LC]
theorem RB.amk_eq {p q pr br : Nat → Nat} (B : RB p q pr br) : amk p = amk pr := amk_cong B.1
/-- the loops, once all is told -/
theorem L_br114 {P n w : Nat} {W M : Nat → Nat} {t : Int32} {c : Rc} {FF : Nat → Int32} (H : LW h S P n p q W M w t c FF) (dP : S + 7 ≤ P ∧ P + 3 ≤ S + 34) (hw : w < 4) (hgd : good W M 8 0 n) (R : rcA c (evw W M p (amq q w)) 64) (B : RB p q pr br) {law i : Nat} (hl : law < 7) (hi : i < 224) : BrR (f_L_breachOf_114 (S + 45) (nI law) (nI i) h) h S p q P w t c FF i (cdO law (brkQ W M pr br w law)) := by
  obtain ⟨a0, -⟩ := H.1.a
  have nl : ∀ k : Nat, k < 7 → law ≠ k → ¬ nI law = nI k := fun k hk hne e => hne ((nI_eq (by omega) (by omega)).mp e)
  have main := L_br174 dP hw hgd R B hl hi (amk_lt p) 8 (FU - 9) 0 h rfl H
  have e : sc (brkA (badQ W M pr br w law) law (amk p)) 8 0 = brkQ W M pr br w law := by
    unfold brkQ brk
    rw [B.amk_eq]
  rw [e] at main
  have fu : FU - 9 + 8 + 1 = FU := rfl
  rw [fu] at main
  unfold f_L_breachOf_114
  rw [a0, Option.bind_some, Option.bind_some, B_goodsThere H.1.1, Option.bind_some]
  rcases lmost_cs law with ⟨e1, n2, n4, n5⟩ | ⟨e1, h45⟩ | ⟨e1, rfl⟩
  · rw [if_neg (show ¬ nI law = (2 : Int32) from nl 2 (by decide) n2), if_neg (show ¬ nI law = (4 : Int32) from nl 4 (by decide) n4), if_neg (show ¬ nI law = (5 : Int32) from nl 5 (by decide) n5)]
    unfold f_L_breachOf_146 f_L_breachOf_169
    rw [if_neg (show ¬ nI law = (2 : Int32) from nl 2 (by decide) n2), if_neg (by decide)]
    have t0 : tv law 0 = -1 := by unfold tv; rw [if_pos e1]; rfl
    have t1 : tv law (lmost law - 1) = -1 := by rw [e1]; exact t0
    rw [t0, t1] at main
    exact main
  · have n2 : law ≠ 2 := by omega
    have t0 : tv law 0 = 0 := by unfold tv; rw [if_neg (by omega)]; rfl
    have t1 : tv law (lmost law - 1) = 4 := by unfold tv; rw [if_neg (by omega), e1]; rfl
    rw [t0, t1] at main
    have st : f_L_breachOf_141 (S + 45) (nI law) (nI i) (nI (amk p)) h = f_L_breachOf_174 (S + 45) FU (nI law) (nI i) (nI (amk p)) 0 4 0 h := by
      unfold f_L_breachOf_141 f_L_breachOf_146 f_L_breachOf_169
      rw [if_neg (show ¬ nI law = (2 : Int32) from nl 2 (by decide) n2), if_pos rfl]
    rw [if_neg (show ¬ nI law = (2 : Int32) from nl 2 (by decide) n2), st]
    rcases h45 with rfl | rfl
    · rw [if_pos (show nI 4 = (4 : Int32) from rfl)]
      exact main
    · rw [if_neg (show ¬ nI 5 = (4 : Int32) by decide), if_pos (show nI 5 = (5 : Int32) from rfl)]
      exact main
  · rw [if_pos (show nI 2 = (2 : Int32) from rfl)]
    unfold f_L_breachOf_141 f_L_breachOf_146 f_L_breachOf_169
    rw [if_pos (show nI 2 = (2 : Int32) from rfl)]
    exact main
theorem PLs.cong {h' : Hp} (H : PLs h S mk T) (hm : mk ≤ 8) (e : ∀ c, S + 7 ≤ c → c < S + 32 → h' c = h c) : PLs h' S mk T := fun n hn => ⟨(H n hn).1.cong fun c _ _ => e c (by omega) (by omega), (H n hn).2⟩
theorem L_breachOf (H : LA h S mk T p q pr br) (B : RB p q pr br) (hm : mk ≤ 8) {n w law : Nat} (hn : n < mk) (hw : w < 4) (hl : law < 7) : ∃ h', f_L_breachOf (S + 45) (nI n) (S + 8 + 3 * n) (nI w) (nI law) h = some (nI (cdO law (brkQ (nW T n) (nM T n) pr br w law)), h') ∧ LA h' S mk T p q pr br ∧ LF2 h h' S := by
  have H0 := H
  obtain ⟨pl, w0, t0, c, FF, V, F49, oF, oT, P⟩ := H
  have ix : ((nI n * (4 : Int32)) + nI w) * (7 : Int32) + nI law = nI ((n * 4 + w) * 7 + law) := by
    rw [show (4 : Int32) = nI 4 from rfl, show (7 : Int32) = nI 7 from rfl, pk_mul, nI_add, pk_mul, nI_add]
  have hi : (n * 4 + w) * 7 + law < 224 := by omega
  obtain ⟨a0, a1, a2, a3, a4, a5, a6, a7, a8, a9, a11, a12⟩ := V.a
  have dP : S + 7 ≤ S + 8 + 3 * n ∧ S + 8 + 3 * n + 3 ≤ S + 34 := by omega
  unfold f_L_breachOf
  rw [if_pos V.o, ix, if_neg (nI_pos (by omega)), a6, Option.bind_some, Option.bind_some, an_any F49 (by decide), Option.bind_some, if_neg (nI_ge hi (by decide)), a0, Option.bind_some]
  simp only [zm]
  rw [a1, Option.bind_some]
  simp only [zm]
  rw [a2, Option.bind_some]
  simp only [zm]
  rw [Option.bind_some, Option.bind_some, ai_get F49 hi (by decide), Option.bind_some]
  by_cases f0 : FF ((n * 4 + w) * 7 + law) = 0
  · rw [if_pos f0, lc_p10 V.2.2.2.1, Option.bind_some, lc_p11 hup_s, Option.bind_some, hup_u]
    have V1 : LV (hup h (S + 45) (LC S (.ref (S + 8 + 3 * n)) (nI w) t0)) S p q (.ref (S + 8 + 3 * n)) (nI w) t0 c := V.set
    have LF1 : LF h (hup h (S + 45) (LC S (.ref (S + 8 + 3 * n)) (nI w) t0)) S := fun c _ x _ => hup_n (by omega)
    have F1 : (hup h (S + 45) (LC S (.ref (S + 8 + 3 * n)) (nI w) t0)) (S + 49) = some (.inl (0, 224, .inl FF)) := by rw [hup_n (by omega)]; exact F49
    have P1 : PLs (hup h (S + 45) (LC S (.ref (S + 8 + 3 * n)) (nI w) t0)) S mk T := P.cong hm fun c x y => hup_n (by omega)
    generalize hup h (S + 45) (LC S (.ref (S + 8 + 3 * n)) (nI w) t0) = h1 at *
    obtain ⟨b0, b1, b2, b3, b4, b5, b6, b7, b8, b9, b11, b12⟩ := V1.a
    have fin : ∀ {h2 : Hp} {t : Int32} {c : Rc}, LV h2 S p q (.ref (S + 8 + 3 * n)) (nI w) t c → LF h h2 S → t = nI (n * 4 + w) → rcA c (evw (nW T n) (nM T n) p (amq q w)) 64 → ∃ h', f_L_breachOf_114 (S + 45) (nI law) (nI ((n * 4 + w) * 7 + law)) h2 = some (nI (cdO law (brkQ (nW T n) (nM T n) pr br w law)), h') ∧ LA h' S mk T p q pr br ∧ LF2 h h' S := by
      intro h2 t c V2 L2 et R
      have W2 : LW h2 S (S + 8 + 3 * n) (nl T n) p q (nW T n) (nM T n) w t c FF := ⟨V2, (P n hn).1.cong fun c _ _ => L2 c (by omega) (by omega) (by omega), by rw [L2 _ (by omega) (by omega) (by omega)]; exact F49⟩
      obtain ⟨h3, E3, V3, F3, L3⟩ := L_br114 W2 dP hw (P n hn).2 R B hl hi
      refine ⟨h3, E3, ⟨_, _, t, c, _, V3, F3, ?_, Or.inr ⟨n, w, hn, hw, et, R⟩, P.cong hm fun c x y => ?_⟩, L2.two.trans L3⟩
      · intro n' w' law' hn' hw' hl'
        by_cases ei : (n' * 4 + w') * 7 + law' = (n * 4 + w) * 7 + law
        · obtain ⟨rfl, rfl, rfl⟩ : n' = n ∧ w' = w ∧ law' = law := by omega
          rw [pk_us]
          exact Or.inr ⟨hn, rfl⟩
        · rw [pk_un ei]
          exact oF n' w' law' hn' hw' hl'
      · rw [L3 c (by omega) (by omega) (by omega) (by omega), L2 c (by omega) (by omega) (by omega)]
    rw [b12, Option.bind_some, b11, Option.bind_some]
    have ix2 : (nI n * (4 : Int32)) + nI w = nI (n * 4 + w) := by rw [show (4 : Int32) = nI 4 from rfl, pk_mul, nI_add]
    rw [ix2]
    by_cases ct : t0 = nI (n * 4 + w)
    · rw [if_pos ct]
      have R : rcA c (evw (nW T n) (nM T n) p (amq q w)) 64 := by
        rcases oT with e | ⟨n', w', hn', hw', e, R⟩
        · rw [e] at ct
          exact absurd ct.symm (nI_m1 (by omega))
        · rw [e] at ct
          have := (nI_eq (by omega) (by omega)).mp ct
          obtain ⟨rfl, rfl⟩ : n' = n ∧ w' = w := by omega
          exact R
      exact fin V1 LF1 ct R
    · rw [if_neg ct]
      obtain ⟨h2, c2, E2, V2, R2, L2⟩ := L_tellAllYears V1 (P1 n hn).1 dP hw (P n hn).2
      obtain ⟨-, -, -, -, -, -, -, -, -, -, d11, -⟩ := V2.a
      rw [E2, Option.bind_some, d11, Option.bind_some, ix2, lc_p12 V2.2.2.2.1, Option.bind_some]
      exact fin V2.set ((LF1.trans L2).trans fun c _ x _ => hup_n (by omega)) rfl R2
  · rw [if_neg f0]
    simp only [Option.bind_some]
    rw [ai_get F49 hi (by decide), Option.bind_some]
    rcases oF n w law (by omega) hw hl with e | ⟨-, e⟩
    · exact absurd e f0
    · rw [e]
      exact ⟨h, rfl, H0, LF.two LF.refl⟩
end
