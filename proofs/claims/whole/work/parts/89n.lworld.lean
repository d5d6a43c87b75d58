/-! ===== the class: the laws' world ===== -/
def LC (S : Nat) (pl : Value) (w t : Int32) : zE := .inr (2, [.ref (S + 1), .ref (S + 4), .ref (S + 34), .ref (S + 46), .ref (S + 47), .ref (S + 48), .ref (S + 49), .ref (S + 50), .ref (S + 51), .ref (S + 52), pl, .int w, .int t])
abbrev Rc : Type := (Nat → Int64) × (Nat → Int64) × (Nat → Int32)
def LV (h : Hp) (S : Nat) (p q : Nat → Nat) (pl : Value) (w t : Int32) (c : Rc) : Prop := BK h (S + 1) p q ∧ (∃ pt qt, BK h (S + 4) pt qt) ∧ TZ h (S + 34) ∧ h (S + 45) = some (LC S pl w t) ∧ h (S + 46) = some (.inl (1, 64, .inr (.inl c.1))) ∧ h (S + 47) = some (.inl (1, 64, .inr (.inl c.2.1))) ∧ h (S + 48) = some (.inl (0, 64, .inl c.2.2)) ∧ FX h (S + 51) ∧ FX h (S + 52)
/-- what may change while laws are looked at -/
def LF (h h' : Hp) (S : Nat) : Prop := ∀ c, ¬ (S + 4 ≤ c ∧ c < S + 7) → ¬ (S + 34 ≤ c ∧ c < S + 49) → ¬ (c = S + 51 ∨ c = S + 52) → h' c = h c
theorem LF.trans {h h1 h2 : Hp} {S : Nat} (a : LF h h1 S) (b : LF h1 h2 S) : LF h h2 S := fun c x y z => by rw [b c x y z, a c x y z]
theorem LF.refl {h : Hp} {S : Nat} : LF h h S := fun _ _ _ _ => rfl
theorem noy {y : Nat} (h : y < 8) : f_Y_isNoYear (nI y) = some 0 := by
  unfold f_Y_isNoYear
  rw [if_neg (nI_pos (by omega)), if_pos (show nI y < (8 : Int32) from nI_lt (b := 8) h (by decide))]
theorem FX.hp {h : Hp} {a c : Nat} {e : zE} (H : FX h c) (d : c ≠ a) : FX (hup h a e) c := by
  obtain ⟨u, l, t, f, g⟩ := H
  exact ⟨u, l, t, f, by rw [hup_n d]; exact g⟩
theorem FX.fe {h : Hp} {a : Nat} {r : QR} : FX (hup h a (frE r)) a := (show FR _ a r from hup_s).x
theorem TZ.hp {h : Hp} {T a : Nat} {e : zE} (H : TZ h T) (d : ¬ (T ≤ a ∧ a < T + 11)) : TZ (hup h a e) T := by
  obtain ⟨⟨x1, x2, x3, h0⟩, ⟨F, h1, h2⟩, h3⟩ := H
  exact ⟨⟨x1, x2, x3, by rw [hup_n (by omega)]; exact h0⟩, ⟨F, by rw [hup_n (by omega)]; exact h1, h2⟩, fun c x y => (h3 c x y).hp (by omega)⟩
section
variable {h : Hp} {S : Nat} {p q : Nat → Nat} {pl : Value} {w t : Int32} {c : Rc}
theorem LV.o (H : LV h S p q pl w t c) : isO h (S + 45) 2 = true := by simp [isO, H.2.2.2.1, LC]
theorem LV.a (H : LV h S p q pl w t c) : gA h (S + 45) 2 0 = some (some (S + 1)) ∧ gA h (S + 45) 2 1 = some (some (S + 4)) ∧ gA h (S + 45) 2 2 = some (some (S + 34)) ∧ gA h (S + 45) 2 3 = some (some (S + 46)) ∧ gA h (S + 45) 2 4 = some (some (S + 47)) ∧ gA h (S + 45) 2 5 = some (some (S + 48)) ∧ gA h (S + 45) 2 6 = some (some (S + 49)) ∧ gA h (S + 45) 2 7 = some (some (S + 50)) ∧ gA h (S + 45) 2 8 = some (some (S + 51)) ∧ gA h (S + 45) 2 9 = some (some (S + 52)) ∧ gI h (S + 45) 2 11 = some w ∧ gI h (S + 45) 2 12 = some t := by
  simp [gA, gI, gV, H.2.2.2.1, LC]
theorem LV.a10 {P : Nat} (H : LV h S p q (.ref P) w t c) : gA h (S + 45) 2 10 = some (some P) := by simp [gA, gV, H.2.2.2.1, LC]
/-- a fraction of the laws anew -/
theorem LV.fr (H : LV h S p q pl w t c) {a : Nat} (ha : a = S + 51 ∨ a = S + 52) {r : QR} : LV (hup h a (frE r)) S p q pl w t c ∧ LF h (hup h a (frE r)) S := by
  obtain ⟨b, ⟨pt, qt, tr⟩, z, l, u, v, k, x, y⟩ := H
  refine ⟨⟨b.cong fun c _ _ => hup_n (by omega), ⟨pt, qt, tr.cong fun c _ _ => hup_n (by omega)⟩, z.hp (by omega), by rw [hup_n (by omega)]; exact l, by rw [hup_n (by omega)]; exact u, by rw [hup_n (by omega)]; exact v, by rw [hup_n (by omega)]; exact k, ?_, ?_⟩, fun c _ _ d => hup_n (by omega)⟩
  · rcases ha with rfl | rfl
    · exact FX.fe
    · exact x.hp (by omega)
  · rcases ha with rfl | rfl
    · exact y.hp (by omega)
    · exact FX.fe
/-- the teller told into a fraction of the laws -/
theorem LV.tg {h' : Hp} (H : LV h S p q pl w t c) {a : Nat} (ha : a = S + 51 ∨ a = S + 52) (G : TG h h' (S + 34) a) : LV h' S p q pl w t c ∧ LF h h' S := by
  obtain ⟨b, ⟨pt, qt, tr⟩, z, l, u, v, k, x, y⟩ := H
  obtain ⟨g1, g2, g3⟩ := G
  refine ⟨⟨b.cong fun c _ _ => g1 c (by omega) (by omega), ⟨pt, qt, tr.cong fun c _ _ => g1 c (by omega) (by omega)⟩, g3, by rw [g1 _ (by omega) (by omega)]; exact l, by rw [g1 _ (by omega) (by omega)]; exact u, by rw [g1 _ (by omega) (by omega)]; exact v, by rw [g1 _ (by omega) (by omega)]; exact k, g2 _ x, g2 _ y⟩, fun c d e f => g1 c (by omega) (by omega)⟩
end
/-- the i-th that was told is r -/
def rcl (c : Rc) (i : Nat) (r : QR) : Prop := match r with
  | .ok x => c.1 i = lN x.1 ∧ c.2.1 i = lN x.2.1 ∧ c.2.2 i = bI x.2.2
  | .error e => c.2.2 i = e
theorem aL_get {h : Hp} {a n k : Nat} {F : Nat → Int64} (H : h a = some (.inl (1, n, .inr (.inl F)))) (hk : k < n) (hn : n < 2 ^ 31) : aL h a (nI k) = some (F k) := by
  unfold aL
  rw [H]
  simp only []
  rw [if_pos ⟨trivial, nI_in hk hn⟩, nI_clamp (by omega)]
theorem sL_set {h : Hp} {a n k : Nat} {F : Nat → Int64} {x : Int64} (H : h a = some (.inl (1, n, .inr (.inl F)))) (hk : k < n) (hn : n < 2 ^ 31) : sL h a (nI k) x = some (hup h a (.inl (1, n, .inr (.inl (vp_updL F k x))))) := by
  unfold sL
  rw [H]
  simp only []
  rw [if_pos ⟨trivial, nI_in hk hn⟩, nI_clamp (by omega)]
theorem ltneg {e : Int32} (k : qok (.error e)) : ¬ (0 : Int32) ≤ e := qneg k
section
variable {h : Hp} {S : Nat} {p q : Nat → Nat} {pl : Value} {w t : Int32} {c : Rc}
theorem L_recall (H : LV h S p q pl w t c) {a b : Nat} (ha : a < 8) (hb : b < 8) {r : QR} (k : qok r) (hr : rcl c (a * 8 + b) r) {x : Nat} (hx : x = S + 51 ∨ x = S + 52) : f_L_recall (S + 45) (nI a) (nI b) x h = some (hup h x (frE r)) := by
  obtain ⟨a0, a1, a2, a3, a4, a5, a6, a7, a8, a9, a11, a12⟩ := H.a
  have fx : FX h x := by
    rcases hx with rfl | rfl
    · exact H.2.2.2.2.2.2.2.1
    · exact H.2.2.2.2.2.2.2.2
  have ix : nI a * (8 : Int32) + nI b = nI (a * 8 + b) := by rw [i8, pk_mul, nI_add]
  have l3 : aN h (S + 46) = some (nI 64) := an_any H.2.2.2.2.1 (by decide)
  have l4 : aN h (S + 47) = some (nI 64) := an_any H.2.2.2.2.2.1 (by decide)
  have l5 : aN h (S + 48) = some (nI 64) := an_any H.2.2.2.2.2.2.1 (by decide)
  have lt : a * 8 + b < 64 := by omega
  unfold f_L_recall
  rw [if_pos H.o, noy ha, Option.bind_some, if_pos rfl, noy hb, Option.bind_some, if_pos rfl, a5, Option.bind_some, Option.bind_some, l5, Option.bind_some, ix, if_neg (nI_ge lt (by decide)), a3, Option.bind_some, Option.bind_some, l3, Option.bind_some, if_neg (nI_ge lt (by decide)), a4, Option.bind_some, Option.bind_some, l4, Option.bind_some, if_pos (nI_lt lt (by decide)), Option.bind_some, Option.bind_some, ai_get H.2.2.2.2.2.2.1 lt (by decide), Option.bind_some]
  cases r with
  | error e =>
    have hr : c.2.2 (a * 8 + b) = e := hr
    rw [hr, if_neg (ltneg k)]
    simp only [Option.bind_some]
    rw [ai_get H.2.2.2.2.2.2.1 lt (by decide), Option.bind_some, hr, F_refuse fx]
    rfl
  | ok y =>
    obtain ⟨u, l, rt⟩ := y
    obtain ⟨r1, r2, r3⟩ := hr
    obtain ⟨bu, bl, lp, mu, ml, hcop⟩ := qok_b k
    have pos : (0 : Int32) ≤ bI rt := by cases rt <;> decide
    rw [r3, if_pos pos]
    simp only [Option.bind_some]
    rw [aL_get H.2.2.2.2.1 lt (by decide), aL_get H.2.2.2.2.2.1 lt (by decide), r1, r2]
    simp only [Option.bind_some]
    rw [F_put fx lp bu bl]
    have e : qmk u l false = .ok (u, l, false) := by
      rw [qmk_red hcop, if_pos ⟨by rw [qM_eq]; exact mu, by rw [qM_eq]; exact ml⟩]
    rw [e]
    obtain ⟨H2, -⟩ := H.fr hx (r := .ok (u, l, false))
    obtain ⟨-, -, -, -, -, b5, -⟩ := H2.a
    rw [Option.bind_some, b5]
    simp only [Option.bind_some]
    rw [ai_get H2.2.2.2.2.2.2.1 lt (by decide), r3]
    simp only [Option.bind_some]
    have fin : ∀ tt : Bool, f_L_recall_117 (S + 45) x (bI tt) (hup h x (frE (.ok (u, l, false)))) = some (hup h x (frE (.ok (u, l, tt)))) := by
      intro tt
      unfold f_L_recall_117
      rw [show zB (bI tt) = some (bI tt) by cases tt <;> rfl, Option.bind_some, show pV (hup h x (frE (.ok (u, l, false)))) x 1 2 (.int (bI tt)) = some (hup (hup h x (frE (.ok (u, l, false)))) x (frE (.ok (u, l, tt)))) from fo_p2 hup_s, hup_u]
      rfl
    cases rt with
    | true => rw [if_pos (by decide)]; exact fin true
    | false => rw [if_neg (by decide)]; exact fin false
/-- all that can be told is told -/
def rcA (c : Rc) (v : Nat → Nat → QR) (n : Nat) : Prop := ∀ i, i < n → rcl c i (v (i / 8) (i % 8))
end
section
variable {h : Hp} {S P n : Nat} {p q W M : Nat → Nat} {w : Nat} {t : Int32} {c : Rc}
theorem L_tell (H : LV h S p q (.ref P) (nI w) t c) (hP : PL h P n W M) (dP : S + 7 ≤ P ∧ P + 3 ≤ S + 34) (hw : w < 4) (hg : good W M 8 0 n) {B : Nat} {p1 q1 : Nat → Nat} (hB : BK h B p1 q1) (dB : B = S + 1 ∨ B = S + 4) {a b : Nat} (ha : a < 8) (hb : b < 8) : ∃ h', f_T_tell (S + 34) P B (nI w) (nI a) (nI b) (S + 51) h = some h' ∧ FR h' (S + 51) (evw W M p1 (amq q1 w) a b) ∧ LV h' S p q (.ref P) (nI w) t c ∧ LF h h' S := by
  obtain ⟨h', E, R, G⟩ := T_tell H.2.2.1 hB hP hw (fun c _ _ => by omega) (fun c _ _ => by omega) hg ha hb H.2.2.2.2.2.2.2.1 (by omega)
  obtain ⟨L, F⟩ := H.tg (Or.inl rfl) G
  exact ⟨h', E, R, L, F⟩
theorem rcl.put {c : Rc} {i j : Nat} {r : QR} {x y : Int64} {z : Int32} (H : rcl c i r) (d : i ≠ j) : rcl (vp_updL c.1 j x, vp_updL c.2.1 j y, upd c.2.2 j z) i r := by
  unfold rcl at *
  cases r with
  | ok q => dsimp only at *; rw [pk_uLn d, pk_uLn d, pk_un d]; exact H
  | error e => dsimp only at *; rw [pk_un d]; exact H
theorem nI_div8 {i : Nat} (h : i < 64) : nI i / (8 : Int32) = nI (i / 8) ∧ nI i - nI i / (8 : Int32) * (8 : Int32) = nI (i % 8) := by
  have : ∀ i, i < 64 → nI i / (8 : Int32) = nI (i / 8) ∧ nI i - nI i / (8 : Int32) * (8 : Int32) = nI (i % 8) := by decide +kernel
  exact this i h
theorem L_all_loop (hw : w < 4) (hg : good W M 8 0 n) (dP : S + 7 ≤ P ∧ P + 3 ≤ S + 34) : ∀ (k f i : Nat) (h : Hp) (c : Rc), i + k = 64 → LV h S p q (.ref P) (nI w) t c → PL h P n W M → rcA c (evw W M p (amq q w)) i → ∃ h' c', f_L_tellAllYears_2 (S + 45) (f + k + 1) (nI i) h = some h' ∧ LV h' S p q (.ref P) (nI w) t c' ∧ rcA c' (evw W M p (amq q w)) 64 ∧ LF h h' S := by
  intro k
  induction k with
  | zero =>
    intro f i h c hi H hP R
    have i64 : i = 64 := by omega
    subst i64
    refine ⟨h, c, ?_, H, R, LF.refl⟩
    obtain ⟨-, -, -, -, -, a5, -⟩ := H.a
    show t_L_tellAllYears_2 _ _ _ _ = _
    unfold t_L_tellAllYears_2
    rw [a5, Option.bind_some, Option.bind_some, an_any H.2.2.2.2.2.2.1 (by decide), Option.bind_some, if_pos (by decide)]
  | succ k ih =>
    intro f i h c hi H hP R
    have lt : i < 64 := by omega
    obtain ⟨a0, a1, a2, a3, a4, a5, a6, a7, a8, a9, a11, a12⟩ := H.a
    have l3 : aN h (S + 46) = some (nI 64) := an_any H.2.2.2.2.1 (by decide)
    have l4 : aN h (S + 47) = some (nI 64) := an_any H.2.2.2.2.2.1 (by decide)
    have l5 : aN h (S + 48) = some (nI 64) := an_any H.2.2.2.2.2.2.1 (by decide)
    obtain ⟨d1, d2⟩ := nI_div8 lt
    obtain ⟨h1, E1, R1, H1, F1⟩ := L_tell H hP dP hw hg H.1 (Or.inl rfl) (show i / 8 < 8 by omega) (show i % 8 < 8 by omega)
    have k1 := evw_ok W M p (amq q w) (i / 8) (i % 8)
    generalize hr : evw W M p (amq q w) (i / 8) (i % 8) = r at R1 k1
    -- the three rows
    obtain ⟨x, y, z, rt, fx⟩ := R1.x
    obtain ⟨gx, gy, gz, gf, gO⟩ := fo_g fx
    have s46 := sL_set (k := i) (x := x) H1.2.2.2.2.1 lt (by decide)
    obtain ⟨g2, hg2⟩ : ∃ g, g = hup h1 (S + 46) (.inl (1, 64, .inr (.inl (vp_updL c.1 i x)))) := ⟨_, rfl⟩
    rw [← hg2] at s46
    have o2 : ∀ a, a ≠ S + 46 → g2 a = h1 a := fun a ha => by rw [hg2, hup_n ha]
    have s47 : sL g2 (S + 47) (nI i) y = some (hup g2 (S + 47) (.inl (1, 64, .inr (.inl (vp_updL c.2.1 i y))))) := sL_set (by rw [o2 _ (by omega)]; exact H1.2.2.2.2.2.1) lt (by decide)
    obtain ⟨g3, hg3⟩ : ∃ g, g = hup g2 (S + 47) (.inl (1, 64, .inr (.inl (vp_updL c.2.1 i y)))) := ⟨_, rfl⟩
    rw [← hg3] at s47
    have o3 : ∀ a, a ≠ S + 46 → a ≠ S + 47 → g3 a = h1 a := fun a ha hb => by rw [hg3, hup_n hb, o2 a ha]
    have s48 : ∀ v, sI g3 (S + 48) (nI i) v = some (hup g3 (S + 48) (.inl (0, 64, .inl (upd c.2.2 i v)))) := fun v => ai_set (by rw [o3 _ (by omega) (by omega)]; exact H1.2.2.2.2.2.2.1) lt (by decide)
    have o4 : ∀ v a, a ≠ S + 46 → a ≠ S + 47 → a ≠ S + 48 → (hup g3 (S + 48) (.inl (0, 64, .inl (upd c.2.2 i v)))) a = h1 a := fun v a ha hb hc => by rw [hup_n hc, o3 a ha hb]
    have H4 : ∀ v, LV (hup g3 (S + 48) (.inl (0, 64, .inl (upd c.2.2 i v)))) S p q (.ref P) (nI w) t (vp_updL c.1 i x, vp_updL c.2.1 i y, upd c.2.2 i v) := by
      intro v
      have FXe : ∀ a, a ≠ S + 46 → a ≠ S + 47 → a ≠ S + 48 → FX h1 a → FX (hup g3 (S + 48) (.inl (0, 64, .inl (upd c.2.2 i v)))) a := by
        rintro a ha hb hc ⟨q1, q2, q3, q4, q5⟩
        exact ⟨q1, q2, q3, q4, by rw [o4 v a ha hb hc]; exact q5⟩
      obtain ⟨b, ⟨pt, qt, tr⟩, zz, l, u', v', k', x', y'⟩ := H1
      obtain ⟨⟨z1, z2, z3, z4⟩, ⟨ZF, z5, z6⟩, z7⟩ := zz
      refine ⟨b.cong fun c _ _ => o4 v c (by omega) (by omega) (by omega), ⟨pt, qt, tr.cong fun c _ _ => o4 v c (by omega) (by omega) (by omega)⟩, ⟨⟨z1, z2, z3, by rw [o4 v _ (by omega) (by omega) (by omega)]; exact z4⟩, ⟨ZF, by rw [o4 v _ (by omega) (by omega) (by omega)]; exact z5, z6⟩, fun c hc1 hc2 => FXe c (by omega) (by omega) (by omega) (z7 c hc1 hc2)⟩, by rw [o4 v _ (by omega) (by omega) (by omega)]; exact l, ?_, ?_, hup_s, FXe _ (by omega) (by omega) (by omega) x', FXe _ (by omega) (by omega) (by omega) y'⟩
      · rw [hup_n (by omega), hg3, hup_n (by omega), hg2, hup_s]
      · rw [hup_n (by omega), hg3, hup_s]
    have F4 : ∀ v, LF h1 (hup g3 (S + 48) (.inl (0, 64, .inl (upd c.2.2 i v)))) S := fun v c _ b _ => o4 v c (by omega) (by omega) (by omega)
    -- what was told
    have R4 : ∀ v, (match r with | .ok q => v = bI q.2.2 | .error e => v = e) → rcA (vp_updL c.1 i x, vp_updL c.2.1 i y, upd c.2.2 i v) (evw W M p (amq q w)) (i + 1) := by
      intro v hv j hj
      by_cases c1 : j = i
      · subst c1
        rw [hr]
        unfold rcl
        cases r with
        | error e => dsimp only at hv ⊢; rw [pk_us]; exact hv
        | ok qq =>
          dsimp only at hv ⊢
          rw [pk_us, pk_uLs, pk_uLs]
          have e0 : h1 (S + 51) = some (.inr (1, [.long (lN qq.1), .long (lN qq.2.1), .int (bI qq.2.2), .int 0])) := R1
          have e1 := e0.symm.trans fx
          injection e1 with e1
          injection e1 with e1
          injection e1 with _ e1
          injection e1 with e2 e1
          injection e1 with e3 e1
          injection e2 with e2
          injection e3 with e3
          exact ⟨e2.symm, e3.symm, hv⟩
      · exact (R j (by omega)).put c1
    have P4 : ∀ v, PL (hup g3 (S + 48) (.inl (0, 64, .inl (upd c.2.2 i v)))) P n W M := by
      intro v
      obtain ⟨p0, pn, WF, MF, p1, p2, p3⟩ := hP
      have e : ∀ a, S + 7 ≤ a → a < S + 34 → (hup g3 (S + 48) (.inl (0, 64, .inl (upd c.2.2 i v)))) a = h a := fun a x y => by rw [o4 v a (by omega) (by omega) (by omega), F1 a (by omega) (by omega) (by omega)]
      exact ⟨by rw [e _ (by omega) (by omega)]; exact p0, pn, WF, MF, by rw [e _ (by omega) (by omega)]; exact p1, by rw [e _ (by omega) (by omega)]; exact p2, p3⟩
    have done : ∀ v, (match r with | .ok q => v = bI q.2.2 | .error e => v = e) → ∃ h' c', f_L_tellAllYears_126 (S + 45) (f_L_tellAllYears_2 (S + 45) (f + k + 1)) (S + 48) (nI i) v (nI i) g3 = some h' ∧ LV h' S p q (.ref P) (nI w) t c' ∧ rcA c' (evw W M p (amq q w)) 64 ∧ LF h h' S := by
      intro v hv
      obtain ⟨h', c', G1, G2, G3, G4⟩ := ih f (i + 1) _ _ (by omega) (H4 v) (P4 v) (R4 v hv)
      refine ⟨h', c', ?_, G2, G3, (F1.trans (F4 v)).trans G4⟩
      unfold f_L_tellAllYears_126
      rw [s48 v, Option.bind_some, nI_1]
      exact G1
    show ∃ h' c', t_L_tellAllYears_2 (S + 45) (f_L_tellAllYears_2 (S + 45) (f + k + 1)) (nI i) h = some h' ∧ _
    unfold t_L_tellAllYears_2
    rw [a5, Option.bind_some, Option.bind_some, l5, Option.bind_some, if_neg (nI_ge lt (by decide)), a3, Option.bind_some, Option.bind_some, l3, Option.bind_some, if_neg (nI_ge lt (by decide)), a4, Option.bind_some, Option.bind_some, l4, Option.bind_some, if_neg (nI_ge lt (by decide)), a2, Option.bind_some, H.a10, Option.bind_some, a0, Option.bind_some, a11, Option.bind_some, a8, Option.bind_some, Option.bind_some, Option.bind_some, Option.bind_some, Option.bind_some, d2, d1, E1, Option.bind_some]
    obtain ⟨-, -, -, b3, b4, b5, -, -, b8, -⟩ := H1.a
    have gA2 : ∀ k v, gA h1 (S + 45) 2 k = some v → gA g2 (S + 45) 2 k = some v := by
      intro k v e
      unfold gA gV at *
      rw [o2 _ (by omega)]
      exact e
    have gA3 : ∀ k v, gA h1 (S + 45) 2 k = some v → gA g3 (S + 45) 2 k = some v := by
      intro k v e
      unfold gA gV at *
      rw [o3 _ (by omega) (by omega)]
      exact e
    have fx2 : g2 (S + 51) = _ := (o2 (S + 51) (by omega)).trans fx
    have fx3 : g3 (S + 51) = _ := (o3 (S + 51) (by omega) (by omega)).trans fx
    obtain ⟨-, gy2, -, -, -⟩ := fo_g fx2
    obtain ⟨-, -, gz3, gf3, -⟩ := fo_g fx3
    rw [b3, Option.bind_some, b8, Option.bind_some, Option.bind_some, gx, Option.bind_some, Option.bind_some, s46, Option.bind_some, gA2 4 _ b4, Option.bind_some, gA2 8 _ b8, Option.bind_some, Option.bind_some, gy2, Option.bind_some, Option.bind_some, s47, Option.bind_some, gA3 5 _ b5, Option.bind_some, gA3 8 _ b8, Option.bind_some, Option.bind_some, gf3, Option.bind_some]
    cases r with
    | ok qq =>
      have e0 : h1 (S + 51) = some (.inr (1, [.long (lN qq.1), .long (lN qq.2.1), .int (bI qq.2.2), .int 0])) := R1
      obtain ⟨-, -, z1, z2, -⟩ := fo_g e0
      have ez : z = bI qq.2.2 := by rw [gz] at z1; injection z1
      have ef : rt = 0 := by rw [gf] at z2; injection z2
      subst ez ef
      rw [if_pos rfl, Option.bind_some, Option.bind_some, gz3, Option.bind_some]
      by_cases cz : bI qq.2.2 = 0
      · rw [if_pos cz, Option.bind_some]
        exact done 0 cz.symm
      · rw [if_neg cz, Option.bind_some]
        exact done 1 (by
          dsimp only
          cases hq : qq.2.2 with
          | true => rfl
          | false => rw [hq] at cz; exact absurd rfl cz)
    | error e =>
      have e0 : h1 (S + 51) = some (.inr (1, [.long 0, .long 1, .int 0, .int e])) := R1
      obtain ⟨-, -, -, z2, -⟩ := fo_g e0
      have ef : rt = e := by rw [gf] at z2; injection z2
      subst ef
      rw [if_neg (err_ne k1), Option.bind_some, Option.bind_some, gf3, Option.bind_some, Option.bind_some]
      exact done rt rfl
theorem L_tellAllYears (H : LV h S p q (.ref P) (nI w) t c) (hP : PL h P n W M) (dP : S + 7 ≤ P ∧ P + 3 ≤ S + 34) (hw : w < 4) (hg : good W M 8 0 n) : ∃ h' c', f_L_tellAllYears (S + 45) h = some h' ∧ LV h' S p q (.ref P) (nI w) t c' ∧ rcA c' (evw W M p (amq q w)) 64 ∧ LF h h' S := by
  unfold f_L_tellAllYears
  rw [if_pos H.o]
  exact L_all_loop hw hg dP 64 (FU - 65) 0 h c rfl H hP (fun i hi => absurd hi (by omega))
end
