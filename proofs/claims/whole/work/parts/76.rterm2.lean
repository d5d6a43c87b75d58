/-! ===== the class's reader: every E, going down ===== -/
section
variable {h : Hp} {R p len : Nat} {tx : Nat → Nat} {fp : Int32}
theorem RO.g5 {i : Nat} {fk : Int32} (H : RO h R tx len i fk fp (.ref p)) : gA h R 5 5 = some (some p) := by simp [gA, gV, H.1]
theorem noyear {c : Nat} (hc : c < 256) : f_Y_isNoYear (nI c - (48 : Int32)) = some (if 48 ≤ c ∧ c ≤ 55 then 0 else 1) := by
  have : ∀ c, c < 256 → f_Y_isNoYear (nI c - (48 : Int32)) = some (if 48 ≤ c ∧ c ≤ 55 then 0 else 1) := by decide +kernel
  exact this c hc
theorem yr48 : ∀ c, c < 256 → 48 ≤ c → nI c - (48 : Int32) = nI (c - 48) := by decide +kernel
theorem R_year (dj : R + 1 < p ∨ p + 2 < R) {i n s : Nat} {WF MF : Nat → Int32} (hn : n < 20) (H : RO h R tx len i 0 fp (.ref p)) (X : PX h p s WF MF) : ∃ h', f_R_readYear R (nI n) h = some h' ∧ RFr h h' R p ∧ if sk tx len i < len ∧ 48 ≤ tx (sk tx len i) ∧ tx (sk tx len i) ≤ 55 then RO h' R tx len (sk tx len i + 1) 0 fp (.ref p) ∧ PX h' p s WF (upd MF n (nI (tx (sk tx len i) - 48))) else RO h' R tx len (sk tx len i) 1 (nI (sk tx len i)) (.ref p) ∧ PX h' p s WF MF := by
  obtain ⟨h1, E1, H1, F1⟩ := R_skip H
  have l60 := H.2.2.1
  have X1 : PX h1 p s WF MF := X.cong fun c _ _ => F1 c (by omega)
  have b := R_byteAt H1 (i := sk tx len i) (by have := H1.2.2.2.1; omega)
  have bad : ∃ h', f_R_readYear_30 R h1 = some h' ∧ RFr h h' R p ∧ RO h' R tx len (sk tx len i) 1 (nI (sk tx len i)) (.ref p) ∧ PX h' p s WF MF := by
    obtain ⟨h2, E2, H2, F2⟩ := R_blame H1 (k := 1)
    unfold f_R_readYear_30
    rw [E2]
    exact ⟨h2, rfl, RFr.r fun c a => by rw [F2 c a, F1 c a], H2, X1.cong fun c _ _ => F2 c (by omega)⟩
  unfold f_R_readYear
  rw [if_pos H.o, E1, Option.bind_some, H1.g2, Option.bind_some, b, Option.bind_some]
  unfold bt'
  by_cases g : sk tx len i < len
  · have tb := H.2.2.2.2 _ g
    rw [if_pos g, noyear tb, Option.bind_some]
    by_cases y : 48 ≤ tx (sk tx len i) ∧ tx (sk tx len i) ≤ 55
    · have gy : sk tx len i < len ∧ 48 ≤ tx (sk tx len i) ∧ tx (sk tx len i) ≤ 55 := ⟨g, y⟩
      simp only [if_pos gy]
      rw [if_pos y, if_pos rfl, H1.g5, Option.bind_some]
      obtain ⟨h2, E2, X2, F2⟩ := P_mark X1 hn (x := nI (tx (sk tx len i) - 48))
      have H2 : RO h2 R tx len (sk tx len i) 0 fp (.ref p) := H1.cong fun c _ _ => F2 c (by omega) (by omega) (by omega)
      obtain ⟨e, E3, H3⟩ := H2.p2 (x := sk tx len i + 1) (by omega)
      refine ⟨_, ?_, ?_, H3, X2.cong fun c _ _ => hup_n (by omega)⟩
      · simp only [zm, Option.bind_some]
        rw [yr48 _ tb y.1, E2, Option.bind_some, H2.g2, Option.bind_some, nI_1, E3]
        rfl
      · intro c a b d e
        rw [hup_n a, F2 c b d e, F1 c a]
    · have gy : ¬ (sk tx len i < len ∧ 48 ≤ tx (sk tx len i) ∧ tx (sk tx len i) ≤ 55) := fun q => y q.2
      simp only [if_neg gy]
      rw [if_neg y, if_neg (by decide)]
      exact bad
  · have gy : ¬ (sk tx len i < len ∧ 48 ≤ tx (sk tx len i) ∧ tx (sk tx len i) ≤ 55) := fun q => g q.1
    simp only [if_neg gy]
    rw [if_neg g, show f_Y_isNoYear (-1 - 48) = some 1 by decide +kernel, Option.bind_some, if_neg (by decide)]
    exact bad
theorem RGot.err {h' : Hp} {n a : Nat} {k : Nat} {WF MF : Nat → Int32} (H : RO h' R tx len a (nI k) (nI a) (.ref p)) (hk : k = 1 ∨ k = 2) {s : Nat} {WF' MF' : Nat → Int32} (X : PX h' p s WF' MF') (hs : s ≤ 20) : RGot h' R p tx len n fp WF MF (.error (k, a)) :=
  ⟨fun q hq => (by cases hq), fun e he => (by cases he; exact ⟨hk, H, s, WF', MF', hs, X⟩)⟩
theorem nI_12 {k : Nat} (hk : k = 1 ∨ k = 2) : nI k ≠ 0 := by rcases hk with rfl | rfl <;> decide
/-- the second half of a pair: the mark, the second E, the sign -/
def mkk (rec : Nat → Int32 → Hp → Option Hp) (this : Nat) (x1 x2 : Int32) (h10 : Hp) : Option Hp :=
  (gA h10 this 5 5).bind fun r11 =>
  zm r11 (f_R_readPair_41 rec this x2 h10) fun a13 =>
  (gA h10 this 5 5).bind fun r14 =>
  (gA h10 this 5 5).bind fun r16 =>
  (r16).bind fun a18 =>
  (gI h10 a18 4 2).bind fun i20 =>
  (r14).bind fun a22 =>
  (f_P_mark a22 x1 i20 h10).bind fun h25 =>
  f_R_readPair_41 rec this x2 h25
theorem R_mkk {rec : Nat → Int32 → Hp → Option Hp} {x2 fk : Int32} (dj : R + 1 < p ∨ p + 2 < R) {i n s : Nat} {WF MF : Nat → Int32} {fp : Int32} (hn : n < 20) (H : RO h R tx len i fk fp (.ref p)) (X : PX h p s WF MF) : ∃ h', mkk rec R (nI n) x2 h = f_R_readPair_41 rec R x2 h' ∧ RO h' R tx len i fk fp (.ref p) ∧ PX h' p s WF (upd MF n (nI s)) ∧ RFr h h' R p := by
  obtain ⟨h2, E2, X2, F2⟩ := P_mark X hn (x := nI s)
  refine ⟨h2, ?_, H.cong fun c _ _ => F2 c (by omega) (by omega) (by omega), X2, fun c _ b d e => F2 c b d e⟩
  unfold mkk
  rw [H.g5]
  simp only [Option.bind_some, zm]
  rw [show gI h p 4 2 = some (nI s) by simp [gI, gV, X.1], Option.bind_some, E2, Option.bind_some]
theorem R_41_dead {f : Nat} {i : Nat} {fk fp : Int32} {x2 : Int32} (H : RO h R tx len i fk fp (.ref p)) (hk : fk ≠ 0) : f_R_readPair_41 (f_R_readTerm (f + 1)) R x2 h = some h := by
  unfold f_R_readPair_41
  rw [R_term_dead H hk, Option.bind_some, R_sign_dead H hk]
  rfl
theorem eb_k {α β : Type} {a : α} {f : α → Except (Nat × Nat) β} : eb (.ok a) f = f a := rfl
theorem R_pair (dj : R + 1 < p ∨ p + 2 < R) {d e f i n : Nat} {W M : Nat → Nat} {WF MF : Nat → Int32} (ih : ∀ (i n : Nat) (W M : Nat → Nat) (WF MF : Nat → Int32) (h : Hp), RO h R tx len i 0 fp (.ref p) → PX h p n WF MF → 3 * n ≤ i → ∃ h', f_R_readTerm (f + 1) R (nI (e + 1)) h = some h' ∧ RFr h h' R p ∧ RGot h' R p tx len n fp WF MF (pz tx len d i n W M)) (hn : n < 20) (H : RO h R tx len i 0 fp (.ref p)) (X : PX h p (n + 1) WF MF) (hi : 3 * (n + 1) ≤ i) (hW : 6 ≤ W n ∧ W n < 10) (hWF : WF n = nI (W n)) : ∃ h', f_R_readPair (f_R_readTerm (f + 1)) R (nI n) (nI e) h = some h' ∧ RFr h h' R p ∧ RGot h' R p tx len n fp WF MF (eb (sgn tx len 40 i) fun i2 => eb (pz tx len d i2 (n + 1) W M) fun r => eb (sgn tx len 44 r.1) fun i4 => eb (pz tx len d i4 r.2.1 r.2.2.1 (nup r.2.2.2 n r.2.1)) fun q => eb (sgn tx len 41 q.1) fun i6 => .ok (i6, q.2)) := by
  have start : f_R_readPair (f_R_readTerm (f + 1)) R (nI n) (nI e) h = (f_R_readSign R (nI 40) h).bind fun h6 => (f_R_readTerm (f + 1) R (nI (e + 1)) h6).bind fun h8 => (f_R_readSign R (nI 44) h8).bind fun h10 => mkk (f_R_readTerm (f + 1)) R (nI n) (nI e) h10 := by
    unfold f_R_readPair
    rw [if_pos H.o, show nI (e + 1) = nI e + 1 from (nI_1 e).symm]
    rfl
  rw [start]
  obtain ⟨h1, E1, F1, G1, B1⟩ := R_sign H (c := 40) (by decide)
  have X1 : PX h1 p (n + 1) WF MF := X.cong fun c _ _ => F1 c (by omega)
  rw [E1, Option.bind_some]
  cases hs1 : sgn tx len 40 i with
  | error er =>
    obtain ⟨b1, b2⟩ := B1 er hs1
    have e1 : (1 : Int32) = nI er.1 := by rw [b1]; rfl
    rw [R_term_dead b2 (by decide), Option.bind_some, R_sign_dead b2 (by decide), Option.bind_some]
    obtain ⟨h2, E2, H2, X2, F2⟩ := R_mkk (rec := f_R_readTerm (f + 1)) (x2 := nI e) dj hn b2 X1
    rw [E2, R_41_dead H2 (by decide)]
    rw [e1] at H2
    exact ⟨h2, rfl, (RFr.r F1).trans F2, RGot.err H2 (Or.inl b1) X2 (by omega)⟩
  | ok i2 =>
    rw [eb_k]
    have so := sgn_ok hs1
    have H1 := G1 i2 hs1
    obtain ⟨h2, E2, F2, G2, B2⟩ := ih i2 (n + 1) W M WF MF h1 H1 X1 (by omega)
    rw [E2, Option.bind_some]
    cases hp1 : pz tx len d i2 (n + 1) W M with
    | error er =>
      obtain ⟨b1, b2, s, WF', MF', b3, b4⟩ := B2 er hp1
      rw [R_sign_dead b2 (nI_12 b1), Option.bind_some]
      obtain ⟨h3, E3, H3, X3, F3⟩ := R_mkk (rec := f_R_readTerm (f + 1)) (x2 := nI e) dj hn b2 b4
      rw [E3, R_41_dead H3 (nI_12 b1)]
      exact ⟨h3, rfl, ((RFr.r F1).trans F2).trans F3, RGot.err H3 b1 X3 b3⟩
    | ok a =>
      rw [eb_k]
      obtain ⟨a1, a2, a3, a4, a5, a6⟩ := pz_ok _ _ _ _ _ _ hp1
      obtain ⟨H2, WF2, MF2, X2, K2, V2⟩ := G2 a hp1
      have l60 := H.2.2.1
      obtain ⟨h3, E3, F3, G3, B3⟩ := R_sign H2 (c := 44) (by decide)
      have X3 : PX h3 p a.2.1 WF2 MF2 := X2.cong fun c _ _ => F3 c (by omega)
      rw [E3, Option.bind_some]
      cases hs2 : sgn tx len 44 a.1 with
      | error er =>
        obtain ⟨b1, b2⟩ := B3 er hs2
        have e1 : (1 : Int32) = nI er.1 := by rw [b1]; rfl
        obtain ⟨h4, E4, H4, X4, F4⟩ := R_mkk (rec := f_R_readTerm (f + 1)) (x2 := nI e) dj hn b2 X3
        rw [E4, R_41_dead H4 (by decide)]
        rw [e1] at H4
        exact ⟨h4, rfl, (((RFr.r F1).trans F2).trans (RFr.r F3)).trans F4, RGot.err H4 (Or.inl b1) X4 (by omega)⟩
      | ok i4 =>
        rw [eb_k]
        have so2 := sgn_ok hs2
        have H3 := G3 i4 hs2
        obtain ⟨h4, E4, H4, X4, F4⟩ := R_mkk (rec := f_R_readTerm (f + 1)) (x2 := nI e) dj hn H3 X3
        rw [E4]
        unfold f_R_readPair_41
        rw [nI_1]
        obtain ⟨h5, E5, F5, G5, B5⟩ := ih i4 a.2.1 a.2.2.1 (nup a.2.2.2 n a.2.1) WF2 _ h4 H4 X4 (by omega)
        rw [E5, Option.bind_some]
        have FF : RFr h h5 R p := ((((RFr.r F1).trans F2).trans (RFr.r F3)).trans F4).trans F5
        cases hp2 : pz tx len d i4 a.2.1 a.2.2.1 (nup a.2.2.2 n a.2.1) with
        | error er =>
          obtain ⟨b1, b2, s, WF', MF', b3, b4⟩ := B5 er hp2
          rw [R_sign_dead b2 (nI_12 b1)]
          exact ⟨h5, rfl, FF, RGot.err b2 b1 b4 b3⟩
        | ok q =>
          rw [eb_k]
          obtain ⟨c1, c2, c3, c4, c5, c6⟩ := pz_ok _ _ _ _ _ _ hp2
          obtain ⟨H5, WF5, MF5, X5, K5, V5⟩ := G5 q hp2
          obtain ⟨h6, E6, F6, G6, B6⟩ := R_sign H5 (c := 41) (by decide)
          have X6 : PX h6 p q.2.1 WF5 MF5 := X5.cong fun c _ _ => F6 c (by omega)
          rw [show f_R_readSign R (41 : Int32) h5 = some h6 from E6]
          cases hs3 : sgn tx len 41 q.1 with
          | error er =>
            obtain ⟨b1, b2⟩ := B6 er hs3
            have e1 : (1 : Int32) = nI er.1 := by rw [b1]; rfl
            rw [e1] at b2
            exact ⟨h6, rfl, FF.trans (RFr.r F6), RGot.err b2 (Or.inl b1) X6 (by omega)⟩
          | ok i6 =>
            rw [eb_k]
            refine ⟨h6, rfl, FF.trans (RFr.r F6), fun y hy => ?_, fun e he => (by cases he)⟩
            cases hy
            refine ⟨G6 i6 hs3, WF5, MF5, X6, fun j hj => ⟨?_, ?_⟩, fun j h1 h2 => ?_⟩
            · rw [(K5 j (by omega)).1, (K2 j (by omega)).1]
            · rw [(K5 j (by omega)).2, pk_un (by omega), (K2 j (by omega)).2]
            · dsimp only at h2 ⊢
              by_cases j1 : j = n
              · subst j1
                have wj : q.2.2.1 j = W j := by rw [(c5 j (by omega)).1, (a5 j (by omega)).1]
                refine ⟨?_, fun _ => ?_⟩
                · rw [(K5 j (by omega)).1, (K2 j (by omega)).1, hWF, wj]
                · rw [(K5 j (by omega)).2, pk_us, (c5 j (by omega)).2, nup_s]
              · by_cases j2 : j < a.2.1
                · have v := V2 j (by omega) j2
                  have wj : q.2.2.1 j = a.2.2.1 j := (c5 j j2).1
                  refine ⟨by rw [(K5 j j2).1, v.1, wj], fun x => ?_⟩
                  rw [wj] at x
                  rw [(K5 j j2).2, pk_un j1, v.2 x, (c5 j j2).2, nup_n j1]
                · exact V5 j (by omega) h2
theorem R_term (dj : R + 1 < p ∨ p + 2 < R) : ∀ (d e f i n : Nat) (W M : Nat → Nat) (WF MF : Nat → Int32) (h : Hp), e + d = 9 → d < f → RO h R tx len i 0 fp (.ref p) → PX h p n WF MF → 3 * n ≤ i → ∃ h', f_R_readTerm f R (nI e) h = some h' ∧ RFr h h' R p ∧ RGot h' R p tx len n fp WF MF (pz tx len d i n W M) := by
  intro d
  induction d with
  | zero =>
    intro e f i n W M WF MF h he hf H X hn
    obtain ⟨f, rfl⟩ : ∃ f', f = f' + 1 := ⟨f - 1, by omega⟩
    have l60 := H.2.2.1
    have i60 := H.2.2.2.1
    obtain ⟨h1, E1, H1, F1⟩ := R_skip H
    have X1 : PX h1 p n WF MF := X.cong fun c _ _ => F1 c (by omega)
    show ∃ h', t_R_readTerm _ _ _ _ = some h' ∧ _
    unfold t_R_readTerm pz
    rw [if_pos H.o, H.g3, Option.bind_some, if_pos rfl, E1, Option.bind_some, R_letters H1, Option.bind_some, R_word H1, Option.bind_some]
    cases hw : wd tx (sk tx len i) (lt tx len (sk tx len i)) with
    | none =>
      obtain ⟨h2, E2, H2, F2⟩ := R_blame H1 (k := 1)
      rw [show wI none = -1 from rfl, if_pos rfl, E2]
      exact ⟨h2, rfl, RFr.r fun c a => by rw [F2 c a, F1 c a], RGot.err H2 (Or.inl rfl) (X1.cong fun c _ _ => F2 c (by omega)) (by omega)⟩
    | some k =>
      have k13 := (wd_some hw).1
      obtain ⟨h2, E2, H2, F2⟩ := R_blame H1 (k := 2)
      rw [if_neg (show ¬ wI (some k) = -1 from nI_m1 (by omega)), if_pos (show (8 : Int32) < nI e from nI_lt (a := 8) (by omega) (by omega))]
      unfold f_R_readTerm_47 f_R_readTerm_59
      rw [if_pos rfl, E2]
      exact ⟨h2, rfl, RFr.r fun c a => by rw [F2 c a, F1 c a], RGot.err H2 (Or.inr rfl) (X1.cong fun c _ _ => F2 c (by omega)) (by omega)⟩
  | succ d ih =>
    intro e f i n W M WF MF h he hf H X hn
    obtain ⟨f, rfl⟩ : ∃ f', f = f' + 1 := ⟨f - 1, by omega⟩
    have l60 := H.2.2.1
    have i60 := H.2.2.2.1
    obtain ⟨h1, E1, H1, F1⟩ := R_skip H
    have X1 : PX h1 p n WF MF := X.cong fun c _ _ => F1 c (by omega)
    have s0 := sk_ge (tx := tx) (len := len) (len - i) i (Nat.le_refl _)
    have l0 := lt_le (tx := tx) (len := len) (len - sk tx len i) (sk tx len i) (Nat.le_refl _)
    show ∃ h', t_R_readTerm _ _ _ _ = some h' ∧ _
    unfold t_R_readTerm pz
    rw [if_pos H.o, H.g3, Option.bind_some, if_pos rfl, E1, Option.bind_some, R_letters H1, Option.bind_some, R_word H1, Option.bind_some]
    cases hw : wd tx (sk tx len i) (lt tx len (sk tx len i)) with
    | none =>
      obtain ⟨h2, E2, H2, F2⟩ := R_blame H1 (k := 1)
      rw [show wI none = -1 from rfl, if_pos rfl, E2]
      exact ⟨h2, rfl, RFr.r fun c a => by rw [F2 c a, F1 c a], RGot.err H2 (Or.inl rfl) (X1.cong fun c _ _ => F2 c (by omega)) (by omega)⟩
    | some k =>
      obtain ⟨k13, -, t2, t5, t3⟩ := wd_some hw
      have n20 : n < 20 := by omega
      obtain ⟨h2, E2, X2, F2⟩ := P_add X1 n20 (x := nI k)
      have H2 : RO h2 R tx len (sk tx len i) 0 fp (.ref p) := H1.cong fun c _ _ => F2 c (by omega) (by omega) (by omega)
      obtain ⟨e3, E3, H3⟩ := H2.p2 (x := sk tx len i + lt tx len (sk tx len i)) (by omega)
      have X3 : PX (hup h2 R e3) p (n + 1) (upd WF n (nI k)) (upd MF n (-1)) := X2.cong fun c _ _ => hup_n (by omega)
      have F3 : RFr h (hup h2 R e3) R p := fun c a b d e => by rw [hup_n a, F2 c b d e, F1 c a]
      rw [if_neg (show ¬ wI (some k) = -1 from nI_m1 (by omega)), if_neg (show ¬ (8 : Int32) < nI e from nI_nlt (a := 8) (by omega) (by omega)), H1.g5, Option.bind_some]
      simp only [zm, Option.bind_some]
      rw [show wI (some k) = nI k from rfl, E2, zb2_s]
      unfold f_R_readTerm_59
      rw [if_neg (nI_m1 (by omega)), H2.g2, Option.bind_some, nI_add, E3, Option.bind_some]
      generalize hi1 : sk tx len i + lt tx len (sk tx len i) = i1 at *
      generalize hup h2 R e3 = g3 at *
      have un : ∀ q, q < n → upd WF n (nI k) q = WF q ∧ upd MF n (-1) q = MF q := fun q hq => ⟨pk_un (by omega), pk_un (by omega)⟩
      by_cases k3 : k = 3
      · rw [if_pos (show nI k = (3 : Int32) by rw [k3]; rfl), if_pos k3]
        obtain ⟨h4, E4, F4, Y⟩ := R_year dj n20 H3 X3
        rw [E4]
        refine ⟨h4, rfl, F3.trans F4, ?_⟩
        by_cases g : sk tx len i1 < len ∧ 48 ≤ tx (sk tx len i1) ∧ tx (sk tx len i1) ≤ 55
        · rw [if_pos g] at Y ⊢
          refine ⟨fun q hq => ?_, fun e he => (by cases he)⟩
          cases hq
          refine ⟨Y.1, _, _, Y.2, fun q hq => ⟨pk_un (by omega), ?_⟩, fun q h1 h2 => ?_⟩
          · rw [pk_un (by omega), pk_un (by omega)]
          · have : q = n := by dsimp only at h2; omega
            subst this
            exact ⟨by rw [pk_us]; dsimp only; rw [nup_s], fun _ => by rw [pk_us]; dsimp only; rw [nup_s]⟩
        · rw [if_neg g] at Y ⊢
          exact RGot.err Y.1 (Or.inl rfl) Y.2 (by omega)
      · rw [if_neg (show ¬ nI k = (3 : Int32) from fun x => k3 ((nI_eq (by omega) (by decide)).mp (show nI k = nI 3 from x))), if_neg k3]
        by_cases k6 : k < 6
        · rw [if_pos (show nI k < (10 : Int32) from nI_lt (b := 10) (by omega) (by decide)), if_pos (show nI k < (6 : Int32) from nI_lt (b := 6) k6 (by decide)), if_pos k6]
          refine ⟨g3, rfl, F3, fun q hq => ?_, fun e he => (by cases he)⟩
          cases hq
          refine ⟨H3, _, _, X3, un, fun q h1 h2 => ?_⟩
          have : q = n := by dsimp only at h2; omega
          subst this
          refine ⟨by rw [pk_us]; dsimp only; rw [nup_s], fun x => ?_⟩
          dsimp only at x
          rw [nup_s] at x
          omega
        · rw [if_neg k6]
          by_cases k10 : k < 10
          · rw [if_pos (show nI k < (10 : Int32) from nI_lt (b := 10) k10 (by decide)), if_neg (show ¬ nI k < (6 : Int32) from nI_nlt (b := 6) (by omega) (by omega)), if_pos k10]
            obtain ⟨f, rfl⟩ : ∃ f', f = f' + 1 := ⟨f - 1, by omega⟩
            have w3 := t3 k3
            obtain ⟨h4, E4, F4, G4⟩ := R_pair (W := nup W n k) (M := M) dj (fun i n W M WF MF h a b c => ih (e + 1) (f + 1) i n W M WF MF h (by omega) (by omega) a b c) n20 H3 X3 (by omega) (by rw [nup_s]; omega) (by rw [pk_us, nup_s])
            rw [E4]
            refine ⟨h4, rfl, F3.trans F4, fun q hq => ?_, G4.2⟩
            obtain ⟨Q1, WF', MF', Q2, Q3, Q4⟩ := G4.1 q hq
            exact ⟨Q1, WF', MF', Q2, fun j hj => ⟨by rw [(Q3 j hj).1, (un j hj).1], by rw [(Q3 j hj).2, (un j hj).2]⟩, Q4⟩
          · rw [if_neg (show ¬ nI k < (10 : Int32) from nI_nlt (b := 10) (by omega) (by omega)), if_neg k10, nI_1]
            obtain ⟨h4, E4, F4, G1, G2⟩ := ih (e + 1) f i1 (n + 1) (nup W n k) M _ _ g3 (by omega) (by omega) H3 X3 (by have := t3 k3; omega)
            rw [E4]
            refine ⟨h4, rfl, F3.trans F4, fun q hq => ?_, G2⟩
            obtain ⟨Q1, WF', MF', Q2, Q3, Q4⟩ := G1 q hq
            have po := pz_ok _ _ _ _ _ _ hq
            refine ⟨Q1, WF', MF', Q2, fun j hj => ⟨by rw [(Q3 j (by omega)).1, (un j hj).1], by rw [(Q3 j (by omega)).2, (un j hj).2]⟩, fun j h1 h2 => ?_⟩
            by_cases c : j = n
            · subst c
              have wj := (po.2.2.2.2.1 j (by omega)).1
              rw [nup_s] at wj
              refine ⟨by rw [(Q3 j (by omega)).1, pk_us, wj], fun x => ?_⟩
              rw [wj] at x
              omega
            · exact Q4 j (by omega) h2
end
