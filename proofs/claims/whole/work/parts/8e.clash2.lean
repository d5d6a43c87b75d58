/-! ===== sims: clash, the reference and whole ===== -/
section
variable {m mk : Nat} {T : Nt} {pr br tx : Nat → Nat} {len : Nat} {lf : Int32}
theorem M_isBrokenI {h : Hp} {F : Nat → Value} (H : MI h m mk T pr br tx len lf F) (hG : ∀ n, n < mk → good (nW T n) (nM T n) 8 0 (nl T n) ∧ nl T n ≤ 20) (h99 : ∀ k, k < 40 → pr k ≤ 99) (h9 : ∀ k, k < 150 → br k ≤ 9) {n w law : Nat} (hn : n < mk) (hw : w < 4) (hl : law < 7) : ∃ h' F', f_M_isBroken m (nI n) (nI w) (nI law) h = some (bI (brkQ (nW T n) (nM T n) pr br w law).isSome, h') ∧ MI h' m mk T pr br tx len lf F' ∧ MFs h h' m := by
  obtain ⟨h2, F2, E2, R2, g2, f2, -⟩ := M_isBroken (H.ms hn) (hG n hn).1 (hG n hn).2 h99 h9 hw hl
  exact ⟨h2, F2, E2, H.back R2 g2 f2 fun c _ _ => f2 c (by omega), f2⟩
theorem MI.c21 {h : Hp} {F : Nat → Value} (H : MI h m mk T pr br tx len lf F) {A : Nat → Int32} : MI (hup h (m + 21) (.inl (0, 8, .inl A))) m mk T pr br tx len lf F := by
  obtain ⟨⟨a0, a1, a2, a3⟩, b, c, ⟨s, d1, d2⟩, ⟨u, l, r, k⟩, w, ⟨t, mr⟩, f2, f7, ⟨x1, x2, x3, x4, x5⟩⟩ := H
  have e : ∀ c, c ≠ m + 21 → (hup h (m + 21) (.inl (0, 8, .inl A))) c = h c := fun c hc => hup_n hc
  have e0 := (e m (by omega)).trans a0
  exact ⟨⟨e0, a1, a2, a3⟩, b.cong (F := F) e0 a1 (fun c _ _ => e c (by omega)), fun n hn => (c n hn).cong fun c _ _ => e c (by omega), ⟨s, d1, d2.cong fun c _ _ => e c (by omega)⟩, ⟨u, l, r, k.cong (fun c _ _ => e c (by omega)) (fun _ _ _ _ _ _ _ => rfl)⟩, w.cong (fun c _ _ => e c (by omega)) (fun _ _ _ _ _ _ _ => rfl), ⟨t, mr.cong e0 (fun c _ _ => e c (by omega)) (fun _ _ => rfl)⟩, f2, f7, x1, ⟨A, hup_s⟩, by rw [e _ (by omega)]; exact x3, by rw [e _ (by omega)]; exact x4, by rw [e _ (by omega)]; exact x5⟩
theorem MI.g36 {h : Hp} {F : Nat → Value} (H : MI h m mk T pr br tx len lf F) : gA h m 8 36 = some (some (m + 21)) ∧ gI h m 8 2 = some (nI mk) := ⟨oc_a H.1.1 (by decide) H.2.2.2.2.2.2.2.2.2.1.1, oc_i H.1.1 (by decide) H.2.2.2.2.2.2.2.1⟩
theorem M_cl30 (hG : ∀ n, n < mk → good (nW T n) (nM T n) 8 0 (nl T n) ∧ nl T n ≤ 20) (h99 : ∀ k, k < 40 → pr k ≤ 99) (h9 : ∀ k, k < 150 → br k ≤ 9) (hm : mk ≤ 8) {w n : Nat} (hw : w < 4) (hn : n < mk) (k13 : Int32 → Int32 → Hp → Option (Int32 × Hp)) : ∀ (k f law a : Nat) (h : Hp) (F : Nat → Value) (A : Nat → Int32), law + k = 7 → MI h m mk T pr br tx len lf F → h (m + 21) = some (.inl (0, 8, .inl A)) → A n = nI a → ∃ h' F' A', f_M_clash_30 m k13 (f + k + 1) (nI w) (nI n) (nI law) h = k13 (nI w) (nI (n + 1)) h' ∧ MI h' m mk T pr br tx len lf F' ∧ h' (m + 21) = some (.inl (0, 8, .inl A')) ∧ A' n = nI (ksg (kpb T pr br w n) k law a) ∧ (∀ j, j ≠ n → A' j = A j) ∧ ∀ c, c < m → h' c = h c := by
  intro k
  induction k with
  | zero =>
    intro f law a h F A hl H h21 hA
    have e : law = 7 := by omega
    subst e
    refine ⟨h, F, A, ?_, H, h21, hA, fun _ _ => rfl, fun _ _ => rfl⟩
    show t_M_clash_30 _ _ _ _ _ _ _ = _
    unfold t_M_clash_30
    rw [if_pos (by decide), nI_1]
  | succ k ih =>
    intro f law a h F A hl H h21 hA
    obtain ⟨g36, g2⟩ := H.g36
    obtain ⟨h1, F1, E1, H1, f1⟩ := M_isBrokenI H hG h99 h9 hn hw (show law < 7 by omega)
    have h21' : h1 (m + 21) = some (.inl (0, 8, .inl A)) := by rw [f1 _ (by omega)]; exact h21
    have st : ∀ (b : Nat), ∃ h' F' A', f_M_clash_60 m k13 (f_M_clash_30 m k13 (f + k + 1)) (m + 21) (nI n) (nI a) (nI b) (nI w) (nI n) (nI law) h1 = k13 (nI w) (nI (n + 1)) h' ∧ MI h' m mk T pr br tx len lf F' ∧ h' (m + 21) = some (.inl (0, 8, .inl A')) ∧ A' n = nI (ksg (kpb T pr br w n) k (law + 1) (a ||| b)) ∧ (∀ j, j ≠ n → A' j = A j) ∧ ∀ c, c < m → h' c = h c := by
      intro b
      obtain ⟨h', F', A', G1, G2, G3, G4, G5, G6⟩ := ih f (law + 1) (a ||| b) _ F1 (upd A n (nI (a ||| b))) (by omega) (H1.c21 (A := upd A n (nI (a ||| b)))) hup_s pk_us
      refine ⟨h', F', A', ?_, G2, G3, G4, fun j hj => by rw [G5 j hj, pk_un hj], fun c hc => by rw [G6 c hc, hup_n (by omega), f1 c (by omega)]⟩
      rw [← G1]
      unfold f_M_clash_60
      rw [n_or, ai_set h21' (by omega) (by decide), Option.bind_some, nI_1]
    have start : f_M_clash_30 m k13 (f + (k + 1) + 1) (nI w) (nI n) (nI law) h = (if bI (brkQ (nW T n) (nM T n) pr br w law).isSome = 0 then f_M_clash_60 m k13 (f_M_clash_30 m k13 (f + k + 1)) (m + 21) (nI n) (nI a) ((1 : Int32) <<< (nI law &&& 31)) (nI w) (nI n) (nI law) h1 else f_M_clash_60 m k13 (f_M_clash_30 m k13 (f + k + 1)) (m + 21) (nI n) (nI a) (0 : Int32) (nI w) (nI n) (nI law) h1) := by
      show t_M_clash_30 _ _ (f_M_clash_30 m k13 (f + k + 1)) _ _ _ _ = _
      unfold t_M_clash_30
      rw [if_neg (show ¬ (7 : Int32) ≤ nI law from nI_ge (b := 7) (by omega) (by decide)), g36, Option.bind_some, Option.bind_some, ai_get h21 (by omega) (by decide), Option.bind_some, E1, zb2_s, hA]
    rw [start]
    have ek : ksg (kpb T pr br w n) (k + 1) law a = ksg (kpb T pr br w n) k (law + 1) (if kpb T pr br w n law then a ||| 2 ^ law else a) := rfl
    rw [ek]
    unfold kpb
    cases hx : brkQ (nW T n) (nM T n) pr br w law with
    | none =>
      rw [if_pos (show bI (Option.isSome (none : Option (Nat × Nat × Nat))) = 0 from rfl), if_pos (show Option.isNone (none : Option (Nat × Nat × Nat)) = true from rfl), sh_7 law (by omega)]
      exact st (2 ^ law)
    | some t =>
      rw [if_neg (show ¬ bI (Option.isSome (some t)) = 0 from show ¬ bI true = 0 by decide), if_neg (show ¬ Option.isNone (some t) = true by simp)]
      have := st 0
      rw [Nat.or_zero] at this
      exact this
theorem M_bits {s : Nat} (hs : s < 128) : f_M_bits (nI s) = some (nI (bc s)) := by
  have lp : ∀ (k f g r : Nat), g + k = 7 → f_M_bits_4 (f + k + 1) (nI s) (nI r) (nI g) = some (nI (bts s k g r)) := by
    intro k
    induction k with
    | zero =>
      intro f g r hg
      have e : g = 7 := by omega
      subst e
      rfl
    | succ k ih =>
      intro f g r hg
      show t_M_bits_4 (f_M_bits_4 (f + k + 1)) _ _ _ = _
      unfold t_M_bits_4
      rw [if_neg (show ¬ (7 : Int32) ≤ nI g from nI_ge (b := 7) (by omega) (by decide)), sh_b7 s hs g (by omega), nI_1]
      unfold bts
      rw [show (if s.testBit g = true then nI 1 else nI 0) = nI (if s.testBit g = true then 1 else 0) by split <;> rfl, nI_add]
      exact ih f (g + 1) _ (by omega)
  have e : ∀ s, s < 128 → bts s 7 0 0 = bc s := by decide +kernel
  unfold f_M_bits
  rw [← e s hs]
  exact lp 7 (FU - 8) 0 0 rfl
/-- one set: is it kept by one -/
theorem M_cl91 {h : Hp} {F : Nat → Value} (H : MI h m mk T pr br tx len lf F) (hm : mk ≤ 8) {A : Nat → Int32} {K : Nat → Nat} (h21 : h (m + 21) = some (.inl (0, 8, .inl A))) (hK : ∀ n, n < mk → A n = nI (K n)) {s : Nat} (x2 : Int32) (k78 : Int32 → Int32 → Hp → Option (Int32 × Hp)) : ∀ (k f n : Nat) (t : Bool), n + k = mk → f_M_clash_91 m k78 (f + k + 1) x2 (nI s) (bI t) (nI n) h = f_M_clash_91 m k78 (f + 1) x2 (nI s) (bI (t || kbo K s k n)) (nI mk) h := by
  obtain ⟨g36, g2⟩ := H.g36
  intro k
  induction k with
  | zero =>
    intro f n t hn
    have e : n = mk := by omega
    subst e
    unfold kbo
    rw [Bool.or_false]
  | succ k ih =>
    intro f n t hn
    show t_M_clash_91 _ _ (f_M_clash_91 m k78 (f + k + 1)) _ _ _ _ _ = _
    unfold t_M_clash_91
    rw [g2, Option.bind_some, if_neg (nI_ge (by omega) (by omega))]
    have e : kbo K s (k + 1) n = (sbK s (K n) || kbo K s k (n + 1)) := rfl
    rw [e]
    have nx : ∀ b : Bool, f_M_clash_124 m k78 (f_M_clash_91 m k78 (f + k + 1)) (bI b) x2 (nI s) (nI n) h = f_M_clash_91 m k78 (f + 1) x2 (nI s) (bI (b || kbo K s k (n + 1))) (nI mk) h := by
      intro b
      unfold f_M_clash_124
      rw [nI_1]
      exact ih f (n + 1) b (by omega)
    cases t with
    | true =>
      rw [if_neg (show ¬ bI true = 0 by decide)]
      unfold f_M_clash_119
      have := nx true
      rw [Bool.true_or] at this ⊢
      exact this
    | false =>
      rw [if_pos (show bI false = 0 from rfl), g36, Option.bind_some, Option.bind_some, ai_get h21 (by omega) (by decide), Option.bind_some, hK n (by omega), Bool.false_or]
      unfold sbK
      by_cases c : (nI s &&& (nI (K n) ^^^ (-1 : Int32))) = 0
      · rw [if_pos c, decide_eq_true c]
        unfold f_M_clash_119
        exact nx true
      · rw [if_neg c, decide_eq_false c]
        exact nx false
theorem M_cl78 {h : Hp} {F : Nat → Value} (H : MI h m mk T pr br tx len lf F) (hm : mk ≤ 8) {A : Nat → Int32} {K : Nat → Nat} (h21 : h (m + 21) = some (.inl (0, 8, .inl A))) (hK : ∀ n, n < mk → A n = nI (K n)) : ∀ (k f s : Nat) (x : Option Nat), s + k = 128 → (∀ b, x = some b → b < 128) → f_M_clash_78 m (f + k + 1) (oC x) (nI s) h = some (oC (mfo (Pq K mk) k s x), h) := by
  obtain ⟨g36, g2⟩ := H.g36
  intro k
  induction k with
  | zero =>
    intro f s x hs _
    have e : s = 128 := by omega
    subst e
    rfl
  | succ k ih =>
    intro f s x hs hx
    have s128 : s < 128 := by omega
    have b8 := bc_le s s128
    have one : f_M_clash_78 m (f + (k + 1) + 1) (oC x) (nI s) h = t_M_clash_91 m (f_M_clash_78 m (f + k + 1)) (f_M_clash_91 m (f_M_clash_78 m (f + k + 1)) (FU - mk - 1)) (oC x) (nI s) (bI (kbo K s mk 0)) (nI mk) h := by
      show t_M_clash_78 _ (f_M_clash_78 m (f + k + 1)) _ _ _ = _
      unfold t_M_clash_78
      rw [if_neg (show ¬ (128 : Int32) ≤ nI s from nI_ge (b := 128) s128 (by decide))]
      have := M_cl91 H hm h21 hK (s := s) (oC x) (f_M_clash_78 m (f + k + 1)) mk (FU - mk - 1) 0 false (by omega)
      have fu : FU - mk - 1 + mk + 1 = FU := by unfold FU; omega
      rw [fu, Bool.false_or] at this
      exact this
    rw [one]
    unfold t_M_clash_91
    rw [g2, Option.bind_some, if_pos (nI_le (Nat.le_refl _) (by omega))]
    cases hk : kbo K s mk 0 with
    | true =>
      have pf : Pq K mk s = false := by unfold Pq; rw [hk]; rfl
      rw [if_neg (show ¬ bI true = 0 by decide), mfo_n x pf]
      unfold f_M_clash_156 f_M_clash_157
      rw [nI_1]
      exact ih f (s + 1) x (by omega) hx
    | false =>
      have pf : Pq K mk s = true := by unfold Pq; rw [hk]; rfl
      rw [if_pos (show bI false = 0 from rfl)]
      cases x with
      | none =>
        rw [if_pos (show oC none < (0 : Int32) by decide), (mfo_y pf).1]
        unfold f_M_clash_152 f_M_clash_157
        rw [nI_1]
        exact ih f (s + 1) (some s) (by omega) (fun b e => by cases e; omega)
      | some b =>
        have hb := hx b rfl
        have b8' := bc_le b hb
        rw [show oC (some b) = nI b from rfl, if_neg (nI_pos (by omega)), M_bits s128, M_bits hb, Option.bind_some, Option.bind_some, (mfo_y pf).2 b]
        by_cases c : bc s < bc b
        · rw [if_neg (nI_ge c (by omega)), if_pos c]
          unfold f_M_clash_152 f_M_clash_157
          rw [nI_1]
          exact ih f (s + 1) (some s) (by omega) (fun b e => by cases e; omega)
        · rw [if_pos (nI_le (by omega) (by omega)), if_neg c]
          unfold f_M_clash_156 f_M_clash_157
          rw [nI_1]
          exact ih f (s + 1) (some b) (by omega) hx
theorem M_cl13 (hG : ∀ n, n < mk → good (nW T n) (nM T n) 8 0 (nl T n) ∧ nl T n ≤ 20) (h99 : ∀ k, k < 40 → pr k ≤ 99) (h9 : ∀ k, k < 150 → br k ≤ 9) (hm : mk ≤ 8) {w : Nat} (hw : w < 4) : ∀ (k f n : Nat) (h : Hp) (F : Nat → Value) (A : Nat → Int32), n + k = mk → MI h m mk T pr br tx len lf F → h (m + 21) = some (.inl (0, 8, .inl A)) → (∀ j, j < n → A j = nI (kq T pr br w j)) → ∃ h' F', f_M_clash_13 m (f + k + 1) (nI w) (nI n) h = some (oC (mfo (Pq (kq T pr br w) mk) 128 0 none), h') ∧ MI h' m mk T pr br tx len lf F' ∧ ∀ c, c < m → h' c = h c := by
  intro k
  induction k with
  | zero =>
    intro f n h F A hn H h21 hA
    have e : n = mk := by omega
    subst e
    obtain ⟨g36, g2⟩ := H.g36
    refine ⟨h, F, ?_, H, fun _ _ => rfl⟩
    show t_M_clash_13 _ _ _ _ _ = _
    unfold t_M_clash_13
    rw [g2, Option.bind_some, if_pos (nI_le (Nat.le_refl _) (by omega))]
    exact M_cl78 H hm h21 hA 128 (FU - 129) 0 none rfl (fun b e => by cases e)
  | succ k ih =>
    intro f n h F A hn H h21 hA
    obtain ⟨g36, g2⟩ := H.g36
    obtain ⟨h1, F1, A1, E1, H1, h211, e1, o1, f1⟩ := M_cl30 hG h99 h9 hm hw (show n < mk by omega) (f_M_clash_13 m (f + k + 1)) 7 (FU - 8) 0 0 _ F (upd A n 0) rfl (H.c21 (A := upd A n 0)) hup_s pk_us
    obtain ⟨h', F', G1, G2, G3⟩ := ih f (n + 1) h1 F1 A1 (by omega) H1 h211 (fun j hj => by
      by_cases c : j = n
      · subst c; exact e1
      · rw [o1 j c, pk_un c]; exact hA j (by omega))
    refine ⟨h', F', ?_, G2, fun c hc => by rw [G3 c hc, f1 c hc, hup_n (by omega)]⟩
    rw [← G1, ← E1]
    show t_M_clash_13 _ (f_M_clash_13 m (f + k + 1)) _ _ _ = _
    unfold t_M_clash_13
    rw [g2, Option.bind_some, if_neg (nI_ge (by omega) (by omega)), g36, Option.bind_some, Option.bind_some, ai_set h21 (by omega) (by decide), Option.bind_some]
    rfl
end
theorem sim_clash {S : Nat} : Sim_clash (zInv S) S := by
  intro h x1 I
  have I0 := I
  obtain ⟨mk, T, p, q, pr, br, tx, len, lf, F, hm, B, Z0, C, Mi⟩ := I
  unfold f_Y_clash
  rw [if_pos C.o]
  rcases (Z_who x1).symm with ⟨Y2, M2⟩ | ⟨w, hw, rfl, Y2, M2⟩
  · rw [Y2, Option.bind_some, if_neg (by decide)]
    refine ⟨_, h, h, rfl, ?_, I0⟩
    unfold f_M_clash
    rw [if_pos Mi.o, M2]
    rfl
  rw [Y2, Option.bind_some, if_pos rfl]
  obtain ⟨A, hA⟩ := C.2.2.2.2.2.2.2
  have fu : FU - mk - 1 + mk + 1 = FU := by unfold FU; omega
  obtain ⟨h1, E1, C1, f1⟩ := Y_cl13 B hm hw mk (FU - mk - 1) 0 h A (by omega) C hA (fun j hj => absurd hj (by omega))
  have M1 : MI h1 (S + 59) mk T pr br tx len lf F := Mi.cong fun c x _ => f1 c x
  obtain ⟨A2, hA2⟩ := M1.2.2.2.2.2.2.2.2.2.2.1
  obtain ⟨h2, F2, E2, Mi2, f2⟩ := M_cl13 (fun n hn => C.good hn) B.2.2.1 B.2.2.2 hm hw mk (FU - mk - 1) 0 h1 F A2 (by omega) M1 hA2 (fun j hj => absurd hj (by omega))
  rw [fu] at E1 E2
  refine ⟨_, h1, h2, E1, ?_, zcls hm B Z0 (C1.cong hm fun c _ _ => f2 c (by omega)) Mi2⟩
  unfold f_M_clash
  rw [if_pos M1.o, M2, Option.bind_some, if_neg (by decide), lk_eq]
  exact E2
