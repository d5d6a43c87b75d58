/-! ===== the reference: another unit, whole ===== -/
def unitsQ (W M p b : Nat → Nat) (w a z g : Nat) : LR := match evw W M p (bam b w) a z with
  | .error e => .error e
  | .ok x => match evw W M (dgn p g 8) (bam (dbb b g 150) w) a z with
    | .error e => .error e
    | .ok y => alikeQ (.ok x) (.ok y)
section
variable {h : Hp} {m num n w : Nat} {p b W M : Nat → Nat} {s : St} {u l : Nat → Int64} {r : Nat → Int32}
theorem M_unitsLaw (H : MX h m (40 * num) n p b W M s) (K : MK h m s.1 u l r) (A : MWas h m s.1) (hg : good W M 8 0 n) (hn : n ≤ 20) {a z g : Nat} (hw : w < 4) (ha : a < 8) (hz : z < 8) (hg5 : g < 5) (h99 : ∀ y, y < 8 → p (y * 5 + g) ≤ 99) (h9 : ∀ k, k < 150 → b k ≤ 9) : MLawB (f_M_unitsLaw m (nI num) (nI w) (nI a) (nI z) (nI g) h) h m (40 * num) n p b W M s (unitsQ W M p b w a z g) := by
  have mb := H.2.2.2.2.1
  obtain ⟨h1, s1, u1, l1, r1, E1, H1, K1, V1, J1, e1, f1⟩ := M_findKept (k := 0) H K hg hn hw ha hz (by decide)
  have k1 := evw_ok W M p (bam b w) a z
  have A1 : MWas h1 m s1.1 := A.cong (fun c x y => f1 c (by omega)) e1
  have mb1 := H1.2.2.2.2.1
  obtain ⟨p0, b0, C, D⟩ := A1.2.2
  obtain ⟨h2, E2, P2, B2, F2⟩ := M_holdBooks (H1.h2 A1) mb1.2.1 mb1.2.2.1 C D
  have H2 : MX h2 m (40 * num) n p b W M s1 := H1.cong fun c _ _ => F2 c (by omega) (by omega)
  obtain ⟨h3', E3', H3', F3'⟩ := M_units_loop1 (p := p) (g := g) (x1 := nI num) (x2 := nI w) (x3 := nI a) (x4 := nI z) (x6 := mcode (evw W M p (bam b w) a z)) hg5 h99 8 (FU - 9) 0 h2 rfl H2
  obtain ⟨h3, E3, H3, F3⟩ := M_units_loop2 (b := b) (g := g) (x1 := nI num) (x2 := nI w) (x3 := nI a) (x4 := nI z) (x6 := mcode (evw W M p (bam b w) a z)) hg5 h9 150 (FU - 151) 0 h3' rfl H3'
  have F23 : ∀ c, c ≠ m + 1 → c ≠ m + 2 → h3 c = h2 c := fun c x y => by rw [F3 c y, F3' c x]
  have K3 : MK h3 m s1.1 u1 l1 r1 := K1.cong (fun c _ _ => by rw [F23 c (by omega) (by omega), F2 c (by omega) (by omega)]) fun _ _ _ _ _ _ _ => rfl
  have P3 : IA h3 (m + 19) 50 p := P2.cong (F23 _ (by omega) (by omega))
  have B3 : IA h3 (m + 20) 150 b := B2.cong (F23 _ (by omega) (by omega))
  have fr3 : ∀ c, ¬ ((m ≤ c ∧ c < m + 3) ∨ (m + 8 ≤ c ∧ c < m + 21)) → h3 c = h c := fun c hc => by rw [F23 c (by omega) (by omega), F2 c (by omega) (by omega), f1 c (by omega)]
  unfold f_M_unitsLaw unitsQ
  rw [if_pos H.o, show f_M_findKept m (nI num) (nI w) (nI a) (nI z) (0 : Int32) h = _ from E1, zb2_s, E2, Option.bind_some, show f_M_unitsLaw_19 m FU (nI num) (nI w) (nI a) (nI z) (nI g) (mcode (evw W M p (bam b w) a z)) (0 : Int32) h2 = _ from E3', show f_M_unitsLaw_51 m FU (nI num) (nI w) (nI a) (nI z) (nI g) (mcode (evw W M p (bam b w) a z)) 0 h3' = _ from E3]
  have tail : f_M_unitsLaw_51 m (FU - 151 + 1) (nI num) (nI w) (nI a) (nI z) (nI g) (mcode (evw W M p (bam b w) a z)) (nI 150) h3 = if (0 : Int32) ≤ mcode (evw W M p (bam b w) a z) then zb2 (f_M_findKept m (nI num) (nI w) (nI a) (nI z) (1 : Int32) h3) fun i9 h10 => f_M_unitsLaw_109 m i9 h10 else f_M_unitsLaw_109 m (mcode (evw W M p (bam b w) a z)) h3 := by
    show t_M_unitsLaw_51 _ _ _ _ _ _ _ _ _ _ = _
    unfold t_M_unitsLaw_51
    rw [if_pos (by decide)]
  rw [tail]
  have bad : ∀ {g1 : Hp} {t : St} {u l : Nat → Int64} {r : Nat → Int32} {e : Int32}, MX g1 m (40 * num) n (dgn p g 8) (dbb b g 150) W M t → MK g1 m t.1 u l r → IA g1 (m + 19) 50 p → IA g1 (m + 20) 150 b → MEq s.1 t.1 → (∀ c, ¬ ((m ≤ c ∧ c < m + 3) ∨ (m + 8 ≤ c ∧ c < m + 21)) → g1 c = h c) → qok (.error e) → MLawB (f_M_unitsLaw_109 m e g1) h m (40 * num) n p b W M s (.error e) := by
    intro g1 t u l r e Hg Kg Pg Bg eg fg k
    obtain ⟨g2, G1, G2, G3, G4, G5⟩ := M_back Hg Kg (by rw [eg 31 (by decide) (by decide) (by decide) (by decide) (by decide) (by decide)]; exact A.1) (by rw [eg 32 (by decide) (by decide) (by decide) (by decide) (by decide) (by decide)]; exact A.2.1) Pg Bg mb.2.2.2.1 mb.2.2.2.2
    unfold f_M_unitsLaw_109
    rw [G1, Option.bind_some, M_alikeErr G2 k, zb2_s]
    exact ⟨g2, t, u, l, r, rfl, G2, G3, eg, G4, fun c hc => by rw [G5 c (by omega) (by omega), fg c hc]⟩
  cases hx : evw W M p (bam b w) a z with
  | error e =>
    rw [hx] at k1
    rw [if_neg (show ¬ (0 : Int32) ≤ mcode (.error e) from qneg k1)]
    exact bad H3 K3 P3 B3 e1 fr3 k1
  | ok x =>
    rw [hx] at k1
    rw [if_pos (show (0 : Int32) ≤ mcode (.ok x) from (by decide : (0 : Int32) ≤ 0))]
    obtain ⟨h4, s4, u4, l4, r4, E4, H4, K4, V4, J4, e4, f4⟩ := M_findKept (k := 1) H3 K3 hg hn hw ha hz (by decide)
    have k4 := evw_ok W M (dgn p g 8) (bam (dbb b g 150) w) a z
    have P4 : IA h4 (m + 19) 50 p := P3.cong (f4 _ (by omega))
    have B4 : IA h4 (m + 20) 150 b := B3.cong (f4 _ (by omega))
    have ee := e1.trans e4
    have fr4 : ∀ c, ¬ ((m ≤ c ∧ c < m + 3) ∨ (m + 8 ≤ c ∧ c < m + 21)) → h4 c = h c := fun c hc => by rw [f4 c (by omega), fr3 c hc]
    rw [show f_M_findKept m (nI num) (nI w) (nI a) (nI z) (1 : Int32) h3 = _ from E4, zb2_s]
    cases hy : evw W M (dgn p g 8) (bam (dbb b g 150) w) a z with
    | error e =>
      rw [hy] at k4
      exact bad H4 K4 P4 B4 ee fr4 k4
    | ok y =>
      rw [hy] at k4
      obtain ⟨g2, G1, G2, G3, G4, G5⟩ := M_back H4 K4 (by rw [ee 31 (by decide) (by decide) (by decide) (by decide) (by decide) (by decide)]; exact A.1) (by rw [ee 32 (by decide) (by decide) (by decide) (by decide) (by decide) (by decide)]; exact A.2.1) P4 B4 mb.2.2.2.1 mb.2.2.2.2
      have x0 := V1 x hx
      have j := J4 0 (by decide)
      have x0' : kpt u4 l4 r4 0 x := ⟨j.1.trans x0.1, j.2.1.trans x0.2.1, j.2.2.trans x0.2.2⟩
      obtain ⟨h5, s5, E5, H5, K5, e5, f5⟩ := M_alikeKept G2 G3 x0' (V4 y hy) k1 k4
      unfold f_M_unitsLaw_109
      rw [G1, Option.bind_some, show f_M_alikeKept m (mcode (.ok y)) g2 = _ from E5, zb2_s]
      exact ⟨h5, s5, u4, l4, r4, rfl, H5, K5, ee.trans e5, G4.cong (fun c x y => f5 c (by omega)) e5, fun c hc => by rw [f5 c (by omega), G5 c (by omega) (by omega), fr4 c hc]⟩
end
