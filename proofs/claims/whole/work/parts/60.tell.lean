/-! ===== the teller: every E; WORTH ===== -/
theorem and_lt {a b : Nat} (h : a < 32) : a &&& b < 32 := Nat.lt_of_le_of_lt Nat.and_le_left h
section
variable {T B P w n : Nat} {p q W M : Nat → Nat}
theorem T_term : ∀ (d i j f e : Nat), good W M d i j → j ≤ n → d ≤ f → e + d ≤ 9 → RecOK (f_T_tellTerm f) T B P w n p q W M (fun a b set => ev W M p (amq q w) d i a b set) i e := by
  intro d
  induction d with
  | zero => intro i j f e h; exact h.elim
  | succ d ih =>
    intro i j f e hg hj hf he a b set out h ha hb hs H ho sp hno
    obtain ⟨f, rfl⟩ : ∃ f', f = f' + 1 := ⟨f - 1, by omega⟩
    have hi : i < n := Nat.lt_of_lt_of_le (good_lt _ _ _ hg) hj
    have start : f_T_tellTerm (f + 1) T (nI i) (nI a) (nI b) (nI set) (nI e) out h = t_T_tellTerm (f_T_tellTerm f) T (nI i) (nI a) (nI b) (nI set) (nI e) out h := rfl
    rw [start]
    unfold t_T_tellTerm
    rw [if_pos H.o, if_neg (by rw [i8]; exact nI_nlt (by omega) (by decide)), H.g2]
    simp only [Option.bind_some]
    show ∃ h', ((gA h T 6 1).bind _) = some h' ∧ _
    rw [H.g1]
    simp only [Option.bind_some, zm]
    rw [P_wordAt H.pl hi]
    simp only [Option.bind_some]
    rcases hg with ⟨hW, hij, hM⟩ | ⟨hW, hW2, hg1, hg2⟩ | ⟨hW, hW2, hg1⟩
    · have E : ev W M p (amq q w) (d + 1) i a b set = lfq p (amq q w) (W i) (M i) a b set := by
        rw [ev, if_pos hW]
      rw [E]
      by_cases h4 : W i = 4
      · rw [h4, if_pos (by decide), T_plain H ha hb hs ho]
        refine ⟨_, rfl, ?_, TF.up⟩
        rw [show lfq p (amq q w) 4 (M i) a b set = plq (fun g => p (a * 5 + g)) (fun g => p (b * 5 + g)) set from rfl]
        exact hup_s
      · have tc := T_costs H hi hW h4 hM ha hb hs ho
        have hc : ∀ k : Nat, k < 13 → (k = 4 ∨ 6 ≤ k) → ¬ nI (W i) = nI k := fun k hk hk2 e => by
          have := (nI_eq (by omega) (by omega)).mp e
          omega
        rw [if_neg (show ¬ nI (W i) = (4 : Int32) from hc 4 (by decide) (by decide)), tc, if_neg (show ¬ nI (W i) = (6 : Int32) from hc 6 (by decide) (by decide)), if_neg (show ¬ nI (W i) = (7 : Int32) from hc 7 (by decide) (by decide)), if_neg (show ¬ nI (W i) = (8 : Int32) from hc 8 (by decide) (by decide)), if_neg (show ¬ nI (W i) = (9 : Int32) from hc 9 (by decide) (by decide)), if_neg (show ¬ nI (W i) = (10 : Int32) from hc 10 (by decide) (by decide)), if_neg (show ¬ nI (W i) = (11 : Int32) from hc 11 (by decide) (by decide)), if_neg (show ¬ nI (W i) = (12 : Int32) from hc 12 (by decide) (by decide))]
        refine ⟨_, ?_, hup_s, TF.up⟩
        split <;> rfl
    · have E : ev W M p (amq q w) (d + 1) i a b set = (match ev W M p (amq q w) d (i + 1) a b set with | .error e => .error e | .ok r => match ev W M p (amq q w) d (M i) a b set with | .error e => .error e | .ok s => pair (W i) r s) := by
        rw [ev, if_neg (by omega), if_pos hW2]
        rfl
      rw [E]
      obtain ⟨h', G1, G2, G3⟩ := T_pair (by omega) hi hW hW2 (ih (i + 1) _ f (e + 1) hg1 (Nat.le_trans (Nat.le_of_lt (good_lt _ _ _ hg2)) hj) (by omega) (by omega)) (ih (M i) j f (e + 1) hg2 hj (by omega) (by omega)) (fun a b s => ev_ok _ _ _ _ _ _ _ _ _) (fun a b s => ev_ok _ _ _ _ _ _ _ _ _) a b set out h ha hb hs H ho sp hno
      refine ⟨h', ?_, G2, G3⟩
      rcases (by omega : W i = 6 ∨ W i = 7 ∨ W i = 8 ∨ W i = 9) with c | c | c | c
      · rw [c, if_neg (by decide), if_neg (by decide), if_pos (by decide), G1]; rfl
      · rw [c, if_neg (by decide), if_neg (by decide), if_neg (by decide), if_pos (by decide), G1]; rfl
      · rw [c, if_neg (by decide), if_neg (by decide), if_neg (by decide), if_neg (by decide), if_pos (by decide), G1]; rfl
      · rw [c, if_neg (by decide), if_neg (by decide), if_neg (by decide), if_neg (by decide), if_neg (by decide), if_pos (by decide), G1]; rfl
    · have R1 := ih (i + 1) j f (e + 1) hg1 hj (by omega) (by omega)
      have hnw : ¬ (T + 2 + (e + 1) ≤ out ∧ out < T + 11) := fun c => hno ⟨by omega, c.2⟩
      rcases (by omega : W i = 10 ∨ W i = 11 ∨ W i = 12) with c | c | c
      · have E : ev W M p (amq q w) (d + 1) i a b set = qinv (ev W M p (amq q w) d (i + 1) b a set) := by
          rw [ev, if_neg (by omega), if_neg (by omega), if_pos c]
        rw [E, c, if_neg (by decide), if_neg (by decide), if_neg (by decide), if_neg (by decide), if_neg (by decide), if_neg (by decide), if_pos (by decide), nI_1, nI_1]
        obtain ⟨g1, E1, O1, F1⟩ := R1 b a set out h hb ha hs H ho sp.weak hnw
        rw [E1]
        simp only [Option.bind_some]
        rw [F_turnOver O1 (ev_ok _ _ _ _ _ _ _ _ _)]
        exact ⟨_, rfl, hup_s, F1.weak.trans TF.up⟩
      · have E : ev W M p (amq q w) (d + 1) i a b set = lnq (fun y z => ev W M p (amq q w) d (i + 1) y z set) a b := by
          rw [ev, if_neg (by omega), if_neg (by omega), if_neg (by omega), if_pos c]
        rw [E, c, if_neg (by decide), if_neg (by decide), if_neg (by decide), if_neg (by decide), if_neg (by decide), if_neg (by decide), if_neg (by decide), if_pos (by decide), nI_1]
        obtain ⟨h', G1, G2, G3⟩ := T_link (by omega) R1 (fun a b s => ev_ok _ _ _ _ _ _ _ _ _) a b set out h ha hb hs H ho sp hno
        rw [G1]
        exact ⟨h', rfl, G2, G3⟩
      · have E : ev W M p (amq q w) (d + 1) i a b set = ev W M p (amq q w) d (i + 1) a b (set &&& (pmk fun g => p (a * 5 + g)) &&& (pmk fun g => p (b * 5 + g))) := by
          rw [ev, if_neg (by omega), if_neg (by omega), if_neg (by omega), if_neg (by omega)]
        rw [E, c, if_neg (by decide), if_neg (by decide), if_neg (by decide), if_neg (by decide), if_neg (by decide), if_neg (by decide), if_neg (by decide), if_neg (by decide), if_pos (by decide), B_goodsPricedIn H.bk ha]
        simp only [Option.bind_some]
        rw [B_goodsPricedIn H.bk hb]
        simp only [Option.bind_some]
        rw [nI_1, nI_1, n_and, n_and]
        obtain ⟨h', G1, G2, G3⟩ := R1 a b _ out h ha hb (and_lt (and_lt hs)) H ho sp.weak hnw
        rw [G1]
        exact ⟨h', rfl, G2, G3.weak⟩
end
theorem ago_lt (p : Nat → Nat) : ∀ (k y m : Nat), m < 32 → ago p k y m < 32 := by
  intro k
  induction k with
  | zero => intro y m h; exact h
  | succ k ih => intro y m h; exact ih _ _ (Nat.or_lt_two_pow (n := 5) h (pmk_lt _))
theorem amk_lt (p : Nat → Nat) : amk p < 32 := ago_lt p 8 0 0 (by decide)
/-- the worth of a whole number; of its link -/
def evw (W M p : Nat → Nat) (am : Nat → Nat → Nat) (a b : Nat) : QR := ev W M p am 8 0 a b (amk p)
def evl (W M p : Nat → Nat) (am : Nat → Nat → Nat) (a b : Nat) : QR := lnq (fun y z => ev W M p am 8 0 y z (amk p)) a b
theorem evw_ok (W M p : Nat → Nat) (am : Nat → Nat → Nat) (a b : Nat) : qok (evw W M p am a b) := ev_ok _ _ _ _ _ _ _ _ _
theorem evl_ok (W M p : Nat → Nat) (am : Nat → Nat → Nat) (a b : Nat) : qok (evl W M p am a b) := lnq_ok fun _ _ => ev_ok _ _ _ _ _ _ _ _ _
/-- a teller with its spares, whatever it told last -/
def TZ (h : Hp) (T : Nat) : Prop := (∃ x1 x2 x3, h T = some (.inr (6, [.ref (T + 1), x1, x2, .int x3]))) ∧ (∃ F : Nat → Option Nat, h (T + 1) = some (.inl (3, 9, .inr (.inr (.inr (.inr F))))) ∧ ∀ k, k < 9 → F k = some (T + 2 + k)) ∧ SP h T 0
/-- all cells but one fraction and the teller's are as they were; fractions stay such -/
def TG (h h' : Hp) (T out : Nat) : Prop := (∀ c, c ≠ out → ¬ (T ≤ c ∧ c < T + 11) → h' c = h c) ∧ (∀ c, FX h c → FX h' c) ∧ TZ h' T
theorem T_ready {h : Hp} {T B P w n : Nat} {p q W M : Nat → Nat} {out : Nat} (hT : TZ h T) (hB : BK h B p q) (hP : PL h P n W M) (hw : w < 4) (dB : ∀ c, B ≤ c → c < B + 3 → ¬ (T ≤ c ∧ c < T + 11)) (dP : ∀ c, P ≤ c → c < P + 3 → ¬ (T ≤ c ∧ c < T + 11)) : ∃ e, f_T_isReady T P B (nI w) out h = some (1, hup h T e) ∧ TW (hup h T e) T B P w n p q W M ∧ SP (hup h T e) T 0 ∧ (∀ c, FX h c → FX (hup h T e) c) := by
  obtain ⟨⟨x1, x2, x3, h0⟩, ⟨F, h1, h2⟩, h3⟩ := hT
  have nT : ∀ c, FX h c → c ≠ T := fun c hc e => not_fx_o h0 (by decide) (e ▸ hc)
  have keep : ∀ (e : zE) c, FX h c → FX (hup h T e) c := by
    rintro e c hc
    obtain ⟨u, l, t, f, g⟩ := hc
    exact ⟨u, l, t, f, by rw [hup_n (nT c ⟨u, l, t, f, g⟩)]; exact g⟩
  refine ⟨.inr (6, [.ref (T + 1), .ref B, .ref P, .int (nI w)]), ?_, ⟨hup_s, ⟨F, by rw [hup_n (by omega)]; exact h1, h2⟩, ?_, ?_, hw⟩, fun c x y => keep _ c (h3 c x y), keep _⟩
  · unfold f_T_isReady
    rw [if_pos (by simp [isO, h0]), show pV h T 6 2 (.ref P) = some (hup h T (.inr (6, [.ref (T + 1), x1, .ref P, .int x3]))) by simp [pV, h0]]
    simp only [Option.bind_some]
    rw [show pV (hup h T (.inr (6, [.ref (T + 1), x1, .ref P, .int x3]))) T 6 1 (.ref B) = some (hup h T (.inr (6, [.ref (T + 1), .ref B, .ref P, .int x3]))) by simp [pV, hup_s, hup_u]]
    simp only [Option.bind_some]
    rw [show pV (hup h T (.inr (6, [.ref (T + 1), .ref B, .ref P, .int x3]))) T 6 3 (.int (nI w)) = some (hup h T (.inr (6, [.ref (T + 1), .ref B, .ref P, .int (nI w)]))) by simp [pV, hup_s, hup_u]]
    rfl
  · exact hB.cong (fun c x y => hup_n (fun e => dB c x y ⟨by omega, by omega⟩))
  · obtain ⟨g0, gn, WF, MF, g1, g2, g3⟩ := hP
    exact ⟨by rw [hup_n (fun e => dP P (by omega) (by omega) ⟨by omega, by omega⟩)]; exact g0, gn, WF, MF, by rw [hup_n (fun e => dP (P + 1) (by omega) (by omega) ⟨by omega, by omega⟩)]; exact g1, by rw [hup_n (fun e => dP (P + 2) (by omega) (by omega) ⟨by omega, by omega⟩)]; exact g2, g3⟩
theorem TW.z {h : Hp} {T B P w n : Nat} {p q W M : Nat → Nat} (H : TW h T B P w n p q W M) (s : SP h T 0) : TZ h T := ⟨⟨_, _, _, H.1⟩, H.2.1, s⟩
section
variable {h : Hp} {T B P w n : Nat} {p q W M : Nat → Nat}
/-- tell: WORTH into out, nothing else that counts -/
theorem T_tell (hT : TZ h T) (hB : BK h B p q) (hP : PL h P n W M) (hw : w < 4) (dB : ∀ c, B ≤ c → c < B + 3 → ¬ (T ≤ c ∧ c < T + 11)) (dP : ∀ c, P ≤ c → c < P + 3 → ¬ (T ≤ c ∧ c < T + 11)) (hg : good W M 8 0 n) {a b out : Nat} (ha : a < 8) (hb : b < 8) (ho : FX h out) (hno : ¬ (T ≤ out ∧ out < T + 11)) : ∃ h', f_T_tell T P B (nI w) (nI a) (nI b) out h = some h' ∧ FR h' out (evw W M p (amq q w) a b) ∧ TG h h' T out := by
  obtain ⟨e, E, H, sp, kp⟩ := T_ready (out := out) hT hB hP hw dB dP
  have o6 : isO h T 6 = true := by
    obtain ⟨⟨x1, x2, x3, h0⟩, -⟩ := hT
    simp [isO, h0]
  have ho1 := kp out ho
  obtain ⟨h', G1, G2, G3⟩ := T_term 8 0 n 12 0 hg (Nat.le_refl n) (by decide) (by decide) a b (amk p) out _ ha hb (amk_lt p) H ho1 sp (fun c => hno ⟨by omega, c.2⟩)
  refine ⟨h', ?_, G2, ?_, fun c hc => G3.2 c (kp c hc), (H.nx (G3.nx ho1 sp)).z (G3.sp sp)⟩
  · unfold f_T_tell
    rw [if_pos o6, E, zb2_s, if_neg (by decide), B_goodsThere H.bk]
    simp only [Option.bind_some]
    rw [show f_T_tellTerm 12 T (0 : Int32) (nI a) (nI b) (nI (amk p)) (0 : Int32) out (hup h T e) = some h' from G1]
    rfl
  · intro c h1 h2
    rw [G3.1 c h1 (fun x => h2 ⟨by omega, x.2⟩), hup_n (fun x => h2 ⟨by omega, by omega⟩)]
theorem T_tellLinked (hT : TZ h T) (hB : BK h B p q) (hP : PL h P n W M) (hw : w < 4) (dB : ∀ c, B ≤ c → c < B + 3 → ¬ (T ≤ c ∧ c < T + 11)) (dP : ∀ c, P ≤ c → c < P + 3 → ¬ (T ≤ c ∧ c < T + 11)) (hg : good W M 8 0 n) {a b out : Nat} (ha : a < 8) (hb : b < 8) (ho : FX h out) (hno : ¬ (T ≤ out ∧ out < T + 11)) : ∃ h', f_T_tellLinked T P B (nI w) (nI a) (nI b) out h = some h' ∧ FR h' out (evl W M p (amq q w) a b) ∧ TG h h' T out := by
  obtain ⟨e, E, H, sp, kp⟩ := T_ready (out := out) hT hB hP hw dB dP
  have o6 : isO h T 6 = true := by
    obtain ⟨⟨x1, x2, x3, h0⟩, -⟩ := hT
    simp [isO, h0]
  have ho1 := kp out ho
  obtain ⟨h', G1, G2, G3⟩ := T_link (by decide) (T_term 8 0 n 12 1 hg (Nat.le_refl n) (by decide) (by decide)) (fun a b s => ev_ok _ _ _ _ _ _ _ _ _) a b (amk p) out _ ha hb (amk_lt p) H ho1 sp (fun c => hno ⟨by omega, c.2⟩)
  refine ⟨h', ?_, G2, ?_, fun c hc => G3.2 c (kp c hc), (H.nx (G3.nx ho1 sp)).z (G3.sp sp)⟩
  · unfold f_T_tellLinked
    rw [if_pos o6, E, zb2_s, if_neg (by decide), B_goodsThere H.bk]
    simp only [Option.bind_some]
    rw [show f_T_tellLink (f_T_tellTerm 12) T (0 : Int32) (nI a) (nI b) (nI (amk p)) (0 : Int32) out (hup h T e) = some h' from G1]
    rfl
  · intro c h1 h2
    rw [G3.1 c h1 (fun x => h2 ⟨by omega, x.2⟩), hup_n (fun x => h2 ⟨by omega, by omega⟩)]
end
