/-! ===== the teller: pairs, links, every E ===== -/
/-- the cells of h' are those of h, but for one fraction and the spares from d on -/
def TF (h h' : Hp) (T d out : Nat) : Prop := (∀ c, c ≠ out → ¬ (T + 2 + d ≤ c ∧ c < T + 11) → h' c = h c) ∧ ∀ c, FX h c → FX h' c
def SP (h : Hp) (T d : Nat) : Prop := ∀ c, T + 2 + d ≤ c → c < T + 11 → FX h c
theorem TF.nx {h h' : Hp} {T d out : Nat} (H : TF h h' T d out) (ho : FX h out) (hs : SP h T d) : NX h h' := by
  intro c hc
  exact H.1 c (fun e => hc (e ▸ ho)) (fun e => hc (hs c e.1 e.2))
theorem TF.sp {h h' : Hp} {T d e out : Nat} (H : TF h h' T d out) (hs : SP h T e) : SP h' T e := fun c h1 h2 => H.2 c (hs c h1 h2)
theorem TF.trans {h h1 h2 : Hp} {T d out : Nat} (H : TF h h1 T d out) (G : TF h1 h2 T d out) : TF h h2 T d out :=
  ⟨fun c h1 h2 => by rw [G.1 c h1 h2, H.1 c h1 h2], fun c hc => G.2 c (H.2 c hc)⟩
theorem TF.weak {h h' : Hp} {T d out : Nat} (H : TF h h' T (d + 1) out) : TF h h' T d out :=
  ⟨fun c h1 h2 => H.1 c h1 (fun e => h2 ⟨by omega, e.2⟩), H.2⟩
theorem TF.spare {h h' : Hp} {T d out : Nat} (hd : d < 9) (H : TF h h' T (d + 1) (T + 2 + d)) : TF h h' T d out :=
  ⟨fun c _ h2 => H.1 c (fun e => h2 ⟨by omega, by omega⟩) (fun e => h2 ⟨by omega, e.2⟩), H.2⟩
theorem TF.up {h : Hp} {T d out : Nat} {r : QR} : TF h (hup h out (frE r)) T d out := ⟨fun _ h1 _ => hup_n h1, fun _ hc => hc.up⟩
theorem TF.refl {h : Hp} {T d out : Nat} : TF h h T d out := ⟨fun _ _ _ => rfl, fun _ hc => hc⟩
theorem SP.weak {h : Hp} {T d : Nat} (H : SP h T d) : SP h T (d + 1) := fun c h1 h2 => H c (by omega) h2
theorem qord_cs (p q : Nat × Nat × Bool) : qord p q = .error eLARGE ∨ ∃ x y, qord p q = .ok (cmp3 x y) := by
  unfold qord
  split
  · exact Or.inr ⟨_, _, rfl⟩
  split
  · split
    · exact Or.inr ⟨_, _, rfl⟩
    · exact Or.inl rfl
  · split
    · exact Or.inr ⟨_, _, rfl⟩
    · exact Or.inl rfl
theorem cmp3_cs (x y : Nat) : cmp3 x y = -1 ∨ cmp3 x y = 0 ∨ cmp3 x y = 1 := by
  unfold cmp3
  split
  · exact Or.inl rfl
  split
  · exact Or.inr (Or.inl rfl)
  · exact Or.inr (Or.inr rfl)
/-- a method that works out R of the E at i -/
def RecOK (rec : Nat → Int32 → Int32 → Int32 → Int32 → Int32 → Nat → Hp → Option Hp) (T B P w n : Nat) (p q W M : Nat → Nat) (R : Nat → Nat → Nat → QR) (i d : Nat) : Prop := ∀ (a b set out : Nat) (h : Hp), a < 8 → b < 8 → set < 32 → TW h T B P w n p q W M → FX h out → SP h T d → ¬ (T + 2 + d ≤ out ∧ out < T + 11) → ∃ h', rec T (nI i) (nI a) (nI b) (nI set) (nI d) out h = some h' ∧ FR h' out (R a b set) ∧ TF h h' T d out
theorem FR.f3 {h : Hp} {a : Nat} {r : QR} (H : FR h a r) : gI h a 1 3 = some (mcode r) := by
  cases r with
  | error e => exact (fo_g (fr_err H)).2.2.2.1
  | ok q => exact (fo_g (fr_ok (u := q.1) (l := q.2.1) (t := q.2.2) H)).2.2.2.1
theorem FR.to {h h' : Hp} {a : Nat} {r : QR} (H : FR h a r) (e : h' a = h a) : FR h' a r := by
  unfold FR
  rw [e]
  exact H
theorem mcode_ne {e : Int32} (k : qok (.error e)) : ¬ mcode (.error e) = 0 := err_ne k
theorem F_root {h : Hp} {a : Nat} {rec : Nat → Int32 → Int32 → Int32 → Int32 → Int32 → Nat → Hp → Option Hp} {T : Nat} {x y : Nat} (H : FR h a (qmk x y false)) (hk : qok (qmk x y false)) : ((gI h a 1 3).bind fun i50 => if i50 = 0 then f_T_tellPair_243 rec T a 1 h else f_T_tellPair_243 rec T a 0 h) = some (hup h a (frE (qmk x y true))) := by
  rw [H.f3, Option.bind_some, qmk_t x y false true]
  cases hq : qmk x y false with
  | error e =>
    rw [hq] at H hk
    rw [if_neg (mcode_ne hk)]
    unfold f_T_tellPair_243
    rw [show zB (0 : Int32) = some 0 from rfl, Option.bind_some, fo_p2 (fr_err H), Option.bind_some]
    rfl
  | ok r =>
    obtain ⟨u, l, t⟩ := r
    rw [hq] at H
    rw [if_pos (show mcode (.ok (u, l, t)) = 0 from rfl)]
    unfold f_T_tellPair_243
    rw [show zB (1 : Int32) = some 1 from rfl, Option.bind_some, fo_p2 (fr_ok H), Option.bind_some]
    rfl
section
variable {rec : Nat → Int32 → Int32 → Int32 → Int32 → Int32 → Nat → Hp → Option Hp} {T B P w n : Nat} {p q W M : Nat → Nat}
theorem T_pair {R1 R2 : Nat → Nat → Nat → QR} {i d : Nat} (hd : d < 9) (hi : i < n) (hW : 6 ≤ W i) (hW2 : W i < 10) (h1 : RecOK rec T B P w n p q W M R1 (i + 1) (d + 1)) (h2 : RecOK rec T B P w n p q W M R2 (M i) (d + 1)) (k1 : ∀ a b s, qok (R1 a b s)) (k2 : ∀ a b s, qok (R2 a b s)) (a b set out : Nat) (h : Hp) (ha : a < 8) (hb : b < 8) (hs : set < 32) (H : TW h T B P w n p q W M) (ho : FX h out) (sp : SP h T d) (hno : ¬ (T + 2 + d ≤ out ∧ out < T + 11)) : ∃ h', f_T_tellPair rec T (nI i) (nI a) (nI b) (nI set) (nI d) out h = some h' ∧ FR h' out (match R1 a b set with | .error e => .error e | .ok r => match R2 a b set with | .error e => .error e | .ok s => pair (W i) r s) ∧ TF h h' T d out := by
  obtain ⟨g1, E1, O1, F1⟩ := h1 a b set out h ha hb hs H ho sp.weak (fun e => hno ⟨by omega, e.2⟩)
  have kk1 := k1 a b set
  have kk2 := k2 a b set
  unfold f_T_tellPair
  rw [if_pos H.o, T_spareAt H hd]
  simp only [Option.bind_some]
  show ∃ h', ((rec T (nI i + 1) (nI a) (nI b) (nI set) (nI d + 1) out h).bind _) = some h' ∧ _
  rw [nI_1, nI_1, E1, Option.bind_some, O1.f3, Option.bind_some]
  cases hr : R1 a b set with
  | error e =>
    rw [hr] at O1 kk1
    rw [if_neg (mcode_ne kk1)]
    exact ⟨g1, rfl, O1, F1.weak⟩
  | ok r =>
    rw [hr] at O1 kk1
    rw [if_pos (show mcode (.ok r) = 0 from rfl)]
    have H1 := H.nx (F1.nx ho sp.weak)
    have sp1 : SP g1 T d := F1.sp sp
    obtain ⟨g2, E2, O2, F2⟩ := h2 a b set (T + 2 + d) g1 ha hb hs H1 (sp1 _ (by omega) (by omega)) sp1.weak (fun e => by omega)
    have H2 := H1.nx (F2.nx (sp1 _ (by omega) (by omega)) sp1.weak)
    have hne : out ≠ T + 2 + d := fun e => hno ⟨by omega, by omega⟩
    have O1' : FR g2 out (.ok r) := O1.to (F2.1 out hne (fun e => hno ⟨by omega, e.2⟩))
    have TF2 : TF h g2 T d out := F1.weak.trans (F2.spare hd)
    have fin : ∀ x : QR, FR (hup g2 out (frE x)) out x ∧ TF h (hup g2 out (frE x)) T d out := fun x => ⟨hup_s, TF2.trans TF.up⟩
    rw [H1.g2]
    simp only [Option.bind_some]
    rw [P_markAt H1.pl hi (Or.inr ⟨hW, hW2⟩)]
    simp only [Option.bind_some]
    rw [E2]
    simp only [Option.bind_some]
    rw [O2.f3]
    simp only [Option.bind_some]
    cases hq : R2 a b set with
    | error e =>
      rw [hq] at O2 kk2
      rw [if_neg (mcode_ne kk2), F_refuse O1'.x]
      exact ⟨_, rfl, fin _⟩
    | ok s =>
      rw [hq] at O2 kk2
      rw [if_pos (show mcode (.ok s) = 0 from rfl), H2.g2]
      simp only [Option.bind_some]
      rw [P_wordAt H2.pl hi]
      simp only [Option.bind_some]
      have ord := F_orderOf O2 O1' kk2 kk1
      have tk := F_take O1'.x O2 hne
      obtain ⟨u, l, t⟩ := r
      obtain ⟨v, m, z⟩ := s
      have o2 := (fo_g (fr_ok O1')).2.2.1
      have s0 := (fo_g (fr_ok O2)).1
      have s1 := (fo_g (fr_ok O2)).2.1
      have s2 := (fo_g (fr_ok O2)).2.2.1
      unfold pair
      rcases (by omega : W i = 6 ∨ W i = 7 ∨ W i = 8 ∨ W i = 9) with e | e | e | e
      · rw [e, if_neg (by decide), if_neg (by decide), o2]
        simp only [Option.bind_some]
        rw [if_neg (show ¬ (6 = 8) by decide), if_neg (show ¬ (6 = 9) by decide)]
        cases t with
        | true =>
          rw [if_neg (by decide), if_pos (Or.inl rfl)]
          unfold f_T_tellPair_184
          rw [show (-1003 : Int32) = eNOT from rfl, F_refuse O1'.x]
          exact ⟨_, rfl, fin _⟩
        | false =>
          rw [if_pos (by decide), s2]
          simp only [Option.bind_some]
          cases z with
          | true =>
            rw [if_neg (by decide), if_pos (Or.inr rfl)]
            unfold f_T_tellPair_184
            rw [show (-1003 : Int32) = eNOT from rfl, F_refuse O1'.x]
            exact ⟨_, rfl, fin _⟩
          | false =>
            rw [if_pos (by decide), if_neg (by decide), if_neg (by decide), if_neg (by decide), F_multiply O1' O2 kk1 kk2]
            simp only [Option.bind_some]
            have em : qmul (.ok (u, l, false)) (.ok (v, m, false)) = qmk (u * v) (l * m) false := rfl
            rw [em, F_root hup_s (qmk_ok (Nat.mul_pos kk1.2.1 kk2.2.1) _), hup_u]
            exact ⟨_, rfl, fin _⟩
      · rw [e, if_neg (by decide), if_neg (by decide), o2]
        simp only [Option.bind_some]
        rw [if_neg (show ¬ (7 = 8) by decide), if_neg (show ¬ (7 = 9) by decide)]
        cases t with
        | true =>
          rw [if_neg (by decide), if_pos (Or.inl rfl)]
          unfold f_T_tellPair_184
          rw [show (-1003 : Int32) = eNOT from rfl, F_refuse O1'.x]
          exact ⟨_, rfl, fin _⟩
        | false =>
          rw [if_pos (by decide), s2]
          simp only [Option.bind_some]
          cases z with
          | true =>
            rw [if_neg (by decide), if_pos (Or.inr rfl)]
            unfold f_T_tellPair_184
            rw [show (-1003 : Int32) = eNOT from rfl, F_refuse O1'.x]
            exact ⟨_, rfl, fin _⟩
          | false =>
            rw [if_pos (by decide), if_pos (by decide), s0]
            simp only [Option.bind_some]
            rw [s1]
            simp only [Option.bind_some]
            have add : f_F_addAndShare out (lN v) (lN m) (2 : Int32) g2 = _ := F_addAndShare (parts := 2) O1' kk1 kk2.2.2.1 kk2.2.1 kk2.2.2.2 (by decide) (by decide)
            rw [add, if_neg (by decide), if_pos trivial]
            exact ⟨_, rfl, fin _⟩
      · rw [e, if_pos (by decide), if_pos rfl]
        unfold f_T_tellPair_113
        show ∃ h', ((f_F_orderOf g2 (T + 2 + d) out).bind _) = some h' ∧ _
        rw [ord]
        simp only [Option.bind_some]
        rcases qord_cs (v, m, z) (u, l, t) with c | ⟨x, y, c⟩
        · rw [c, if_pos (by decide)]
          rw [show (-1005 : Int32) = eLARGE from rfl, F_refuse O1'.x]
          exact ⟨_, rfl, fin _⟩
        · rw [c, if_neg (show ¬ oI (.ok (cmp3 x y)) = -1005 from by show ¬ cmp3 x y = -1005; rcases cmp3_cs x y with c | c | c <;> rw [c] <;> decide), if_pos (by decide)]
          unfold f_T_tellPair_155
          show ∃ h', (if cmp3 x y = -1 then (f_F_take out (T + 2 + d) g2).bind _ else some g2) = some h' ∧ _
          dsimp only
          by_cases c1 : cmp3 x y = -1
          · rw [if_pos c1, if_pos c1, tk]
            exact ⟨_, rfl, fin _⟩
          · rw [if_neg c1, if_neg c1]
            exact ⟨_, rfl, O1', TF2⟩
      · rw [e, if_neg (by decide), if_pos (by decide), if_neg (by decide), if_pos rfl]
        unfold f_T_tellPair_113
        show ∃ h', ((f_F_orderOf g2 (T + 2 + d) out).bind _) = some h' ∧ _
        rw [ord]
        simp only [Option.bind_some]
        rcases qord_cs (v, m, z) (u, l, t) with c | ⟨x, y, c⟩
        · rw [c, if_pos (by decide)]
          rw [show (-1005 : Int32) = eLARGE from rfl, F_refuse O1'.x]
          exact ⟨_, rfl, fin _⟩
        · rw [c, if_neg (show ¬ oI (.ok (cmp3 x y)) = -1005 from by show ¬ cmp3 x y = -1005; rcases cmp3_cs x y with c | c | c <;> rw [c] <;> decide), if_neg (by decide)]
          unfold f_T_tellPair_155
          show ∃ h', (if cmp3 x y = 1 then (f_F_take out (T + 2 + d) g2).bind _ else some g2) = some h' ∧ _
          dsimp only
          by_cases c1 : cmp3 x y = 1
          · rw [if_pos c1, if_pos c1, tk]
            exact ⟨_, rfl, fin _⟩
          · rw [if_neg c1, if_neg c1]
            exact ⟨_, rfl, O1', TF2⟩
end
