/-! ===== the reference: twice, whole ===== -/
section
variable {h : Hp} {m num n w : Nat} {p b W M : Nat → Nat} {s : St} {u l : Nat → Int64} {r : Nat → Int32}
/-- books are put back -/
theorem M_back {p' b' : Nat → Nat} (H : MX h m (40 * num) n p' b' W M s) (K : MK h m s.1 u l r) (h31 : s.1 31 = .ref (m + 19)) (h32 : s.1 32 = .ref (m + 20)) (A : IA h (m + 19) 50 p) (B : IA h (m + 20) 150 b) (hp : ∀ k, k < 50 → p k ≤ 198) (hb : ∀ k, k < 150 → b k ≤ 18) : ∃ h', f_M_putBooks m h = some h' ∧ MX h' m (40 * num) n p b W M s ∧ MK h' m s.1 u l r ∧ MWas h' m s.1 ∧ ∀ c, c ≠ m + 1 → c ≠ m + 2 → h' c = h c := by
  have mb := H.2.2.2.2.1
  obtain ⟨h4, E4, A4, B4, F4⟩ := M_putBooks (p0 := p) (b0 := b) (⟨H.1, H.2.1.1, H.2.1.2.1, h31, h32⟩ : MH2 h m s.1) A B mb.2.1.b0 mb.2.2.1.b0
  exact ⟨h4, E4, H.bk (fun c _ _ x y => F4 c x y) A4 B4 hp hb, K.cong (fun c _ _ => F4 c (by omega) (by omega)) fun _ _ _ _ _ _ _ => rfl, ⟨h31, h32, p, b, (A.cong (F4 _ (by omega) (by omega))).b0, (B.cong (F4 _ (by omega) (by omega))).b0⟩, F4⟩
theorem MWas.cong {h h' : Hp} {F F' : Nat → Value} (H : MWas h m F) (e : ∀ c, m + 19 ≤ c → c < m + 21 → h' c = h c) (g : MEq F F') : MWas h' m F' := by
  obtain ⟨a, b, p0, b0, ⟨G, c1, -⟩, ⟨G2, d1, -⟩⟩ := H
  refine ⟨?_, ?_, p0, b0, ⟨G, by rw [e _ (by omega) (by omega)]; exact c1, fun k hk => by omega⟩, ⟨G2, by rw [e _ (by omega) (by omega)]; exact d1, fun k hk => by omega⟩⟩
  · rw [g 31 (by decide) (by decide) (by decide) (by decide) (by decide) (by decide)]; exact a
  · rw [g 32 (by decide) (by decide) (by decide) (by decide) (by decide) (by decide)]; exact b
theorem M_twiceLaw (H : MX h m (40 * num) n p b W M s) (K : MK h m s.1 u l r) (A : MWas h m s.1) (hg : good W M 8 0 n) (hn : n ≤ 20) {a z : Nat} (hw : w < 4) (ha : a < 8) (hz : z < 8) (h99 : ∀ g, g < 5 → p (z * 5 + g) ≤ 99) : MLawB (f_M_twiceLaw m (nI num) (nI w) (nI a) (nI z) h) h m (40 * num) n p b W M s (twiceQ W M p (bam b w) a z) := by
  have mb := H.2.2.2.2.1
  obtain ⟨h1, s1, u1, l1, r1, E1, H1, K1, V1, J1, e1, f1⟩ := M_findKept (k := 0) H K hg hn hw ha hz (by decide)
  have k1 := evw_ok W M p (bam b w) a z
  have A1 : MWas h1 m s1.1 := A.cong (fun c x y => f1 c (by omega)) e1
  have mb1 := H1.2.2.2.2.1
  obtain ⟨p0, b0, C, D⟩ := A1.2.2
  obtain ⟨h2, E2, P2, B2, F2⟩ := M_holdBooks (H1.h2 A1) mb1.2.1 mb1.2.2.1 C D
  have H2 : MX h2 m (40 * num) n p b W M s1 := H1.cong fun c _ _ => F2 c (by omega) (by omega)
  have K2 : MK h2 m s1.1 u1 l1 r1 := K1.cong (fun c _ _ => F2 c (by omega) (by omega)) fun _ _ _ _ _ _ _ => rfl
  obtain ⟨h3, E3, H3, F3⟩ := M_twice_loop (p := p) (x1 := nI num) (x2 := nI w) (x3 := nI a) (x5 := mcode (evw W M p (bam b w) a z)) hz h99 5 (FU - 6) 0 h2 rfl H2
  have K3 : MK h3 m s1.1 u1 l1 r1 := K2.cong (fun c _ _ => F3 c (by omega)) fun _ _ _ _ _ _ _ => rfl
  have P3 : IA h3 (m + 19) 50 p := P2.cong (F3 _ (by omega))
  have B3 : IA h3 (m + 20) 150 b := B2.cong (F3 _ (by omega))
  have fr3 : ∀ c, ¬ ((m ≤ c ∧ c < m + 3) ∨ (m + 8 ≤ c ∧ c < m + 21)) → h3 c = h c := fun c hc => by rw [F3 c (by omega), F2 c (by omega) (by omega), f1 c (by omega)]
  unfold f_M_twiceLaw twiceQ
  rw [if_pos H.o, show f_M_findKept m (nI num) (nI w) (nI a) (nI z) (0 : Int32) h = _ from E1, zb2_s, E2, Option.bind_some, show f_M_twiceLaw_19 m FU (nI num) (nI w) (nI a) (nI z) (mcode (evw W M p (bam b w) a z)) (0 : Int32) h2 = _ from E3]
  have tail : f_M_twiceLaw_19 m (FU - 6 + 1) (nI num) (nI w) (nI a) (nI z) (mcode (evw W M p (bam b w) a z)) (nI 5) h3 = if (0 : Int32) ≤ mcode (evw W M p (bam b w) a z) then zb2 (f_M_findKept m (nI num) (nI w) (nI a) (nI z) (1 : Int32) h3) fun i38 h39 => f_M_twiceLaw_67 m i38 h39 else f_M_twiceLaw_67 m (mcode (evw W M p (bam b w) a z)) h3 := by
    show t_M_twiceLaw_19 _ _ _ _ _ _ _ _ _ = _
    unfold t_M_twiceLaw_19
    rw [if_pos (by decide)]
  rw [tail]
  have bad : ∀ {g : Hp} {t : St} {u l : Nat → Int64} {r : Nat → Int32} {e : Int32}, MX g m (40 * num) n (dbn p z 5) b W M t → MK g m t.1 u l r → IA g (m + 19) 50 p → IA g (m + 20) 150 b → MEq s.1 t.1 → (∀ c, ¬ ((m ≤ c ∧ c < m + 3) ∨ (m + 8 ≤ c ∧ c < m + 21)) → g c = h c) → qok (.error e) → MLawB (f_M_twiceLaw_67 m e g) h m (40 * num) n p b W M s (.error e) := by
    intro g t u l r e Hg Kg Pg Bg eg fg k
    obtain ⟨g2, G1, G2, G3, G4, G5⟩ := M_back Hg Kg (by rw [eg 31 (by decide) (by decide) (by decide) (by decide) (by decide) (by decide)]; exact A.1) (by rw [eg 32 (by decide) (by decide) (by decide) (by decide) (by decide) (by decide)]; exact A.2.1) Pg Bg mb.2.2.2.1 mb.2.2.2.2
    obtain ⟨g3, u3, l3, r3, I1, I2, I3, I4⟩ := M_124e G2 G3 k
    unfold f_M_twiceLaw_67
    rw [G1, Option.bind_some, if_neg (qneg k), I1]
    exact ⟨g3, t, u3, l3, r3, rfl, I2, I3, eg, G4.cong (fun c x y => I4 c (by omega)) (fun _ _ _ _ _ _ _ => rfl), fun c hc => by rw [I4 c (by omega), G5 c (by omega) (by omega), fg c hc]⟩
  cases hx : evw W M p (bam b w) a z with
  | error e =>
    rw [hx] at k1
    rw [if_neg (show ¬ (0 : Int32) ≤ mcode (.error e) from qneg k1)]
    exact bad H3 K3 P3 B3 e1 fr3 k1
  | ok x =>
    rw [hx] at k1
    rw [if_pos (show (0 : Int32) ≤ mcode (.ok x) from (by decide : (0 : Int32) ≤ 0))]
    obtain ⟨h4, s4, u4, l4, r4, E4, H4, K4, V4, J4, e4, f4⟩ := M_findKept (k := 1) H3 K3 hg hn hw ha hz (by decide)
    have k4 := evw_ok W M (dbn p z 5) (bam b w) a z
    have P4 : IA h4 (m + 19) 50 p := P3.cong (f4 _ (by omega))
    have B4 : IA h4 (m + 20) 150 b := B3.cong (f4 _ (by omega))
    have ee := e1.trans e4
    have fr4 : ∀ c, ¬ ((m ≤ c ∧ c < m + 3) ∨ (m + 8 ≤ c ∧ c < m + 21)) → h4 c = h c := fun c hc => by rw [f4 c (by omega), fr3 c hc]
    rw [show f_M_findKept m (nI num) (nI w) (nI a) (nI z) (1 : Int32) h3 = _ from E4, zb2_s]
    cases hy : evw W M (dbn p z 5) (bam b w) a z with
    | error e =>
      rw [hy] at k4
      exact bad H4 K4 P4 B4 ee fr4 k4
    | ok y =>
      rw [hy] at k4
      obtain ⟨g2, G1, G2, G3, G4, G5⟩ := M_back H4 K4 (by rw [ee 31 (by decide) (by decide) (by decide) (by decide) (by decide) (by decide)]; exact A.1) (by rw [ee 32 (by decide) (by decide) (by decide) (by decide) (by decide) (by decide)]; exact A.2.1) P4 B4 mb.2.2.2.1 mb.2.2.2.2
      have x0 := V1 x hx
      have j := J4 0 (by decide)
      have x0' : kpt u4 l4 r4 0 x := ⟨j.1.trans x0.1, j.2.1.trans x0.2.1, j.2.2.trans x0.2.2⟩
      obtain ⟨g28, g29, g30, a0, a1, a2⟩ := G3.gu G2 (k := 0) (by decide)
      rw [x0'.1] at a0
      rw [x0'.2.1] at a1
      rw [x0'.2.2] at a2
      unfold f_M_twiceLaw_67
      rw [G1, Option.bind_some, if_pos (show (0 : Int32) ≤ mcode (.ok y) from (by decide : (0 : Int32) ≤ 0)), g28, Option.bind_some, Option.bind_some, show aL g2 (m + 16) 0 = _ from a0, Option.bind_some, g29, Option.bind_some, Option.bind_some, show aL g2 (m + 17) 0 = _ from a1, Option.bind_some, g30, Option.bind_some, Option.bind_some, show aI g2 2 (m + 18) 0 = _ from a2, Option.bind_some]
      have fin : ∀ {X : Option (Int32 × Hp)} {res : LR}, MLaw X g2 m (40 * num) n p b W M s4 res → MLawB X h m (40 * num) n p b W M s res := by
        intro X res ⟨h', s', u', l', r', q1, q2, q3, q4, q5⟩
        exact ⟨h', s', u', l', r', q1, q2, q3, ee.trans q4, G4.cong (fun c x y => q5 c (by omega)) q4, fun c hc => by rw [q5 c (by omega), G5 c (by omega) (by omega), fr4 c hc]⟩
      have go := fun f hf => fin (M_114 (f := f) G2 G3 x0' (V4 y hy) k1 k4 hf)
      by_cases c : bI x.2.2 = 0
      · rw [if_pos c]
        exact go 2 (by rw [bI_0.mp c]; rfl)
      · rw [if_neg c]
        exact go 4 (by
          cases ht : x.2.2 with
          | true => rfl
          | false => rw [ht] at c; exact absurd rfl c)
end
