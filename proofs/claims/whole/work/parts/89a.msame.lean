/-! ===== the reference: same ===== -/
theorem MX.bk {h h' : Hp} {m base n : Nat} {p b p' b' W M : Nat → Nat} {s : St} (H : MX h m base n p b W M s) (e : ∀ c, m ≤ c → c < m + 16 → c ≠ m + 1 → c ≠ m + 2 → h' c = h c) (h1 : IA h' (m + 1) 50 p') (h2 : IA h' (m + 2) 150 b') (h3 : ∀ k, k < 50 → p' k ≤ 198) (h4 : ∀ k, k < 150 → b' k ≤ 18) : MX h' m base n p' b' W M s := by
  obtain ⟨g0, g1, g2, g3, g4, g5, g6, g7, g8⟩ := H
  have e0 : h' m = some (ocell 8 40 s.1) := by rw [e m (by omega) (by omega) (by omega) (by omega)]; exact g0
  refine ⟨e0, g1, g2, g3, MB.of e0 g1 h1 h2 h3 h4, ?_, ?_, ?_, ?_⟩
  · obtain ⟨a0, KF, MF, a1, a2, a3⟩ := g5
    exact ⟨a0, KF, MF, by rw [e _ (by omega) (by omega) (by omega) (by omega)]; exact a1, by rw [e _ (by omega) (by omega) (by omega) (by omega)]; exact a2, a3⟩
  · intro k hk; rw [e _ (by omega) (by omega) (by omega) (by omega)]; exact g6 k hk
  · intro k hk; rw [e _ (by omega) (by omega) (by omega) (by omega)]; exact g7 k hk
  · rw [e _ (by omega) (by omega) (by omega) (by omega)]; exact g8
section
variable {h : Hp} {m base n w : Nat} {p b W M : Nat → Nat} {s : St}
theorem MX.setp (H : MX h m base n p b W M s) {k v : Nat} (hk : k < 50) (hv : v ≤ 198) : ∃ e, sI h (m + 1) (nI k) (nI v) = some (hup h (m + 1) e) ∧ MX (hup h (m + 1) e) m base n (nup p k v) b W M s := by
  obtain ⟨e, E, I⟩ := H.2.2.2.2.1.2.1.set (v := v) hk (by decide)
  refine ⟨e, E, H.bk (fun c _ _ a _ => hup_n a) I (H.2.2.2.2.1.2.2.1.up (by omega)) (fun j hj => ?_) H.2.2.2.2.1.2.2.2.2⟩
  unfold nup
  split
  · exact hv
  · exact H.2.2.2.2.1.2.2.2.1 j hj
/-- the prices of b are those of a -/
def cpn (p : Nat → Nat) (a b : Nat) : Nat → Nat → Nat
  | 0 => p
  | g + 1 => nup (cpn p a b g) (b * 5 + g) (cpn p a b g (a * 5 + g))
theorem M_same_loop {a z : Nat} (ha : a < 8) (hz : z < 8) {x1 x2 : Int32} : ∀ (k f g : Nat) (h : Hp), g + k = 5 → MX h m base n (cpn p a z g) b W M s → ∃ h', f_M_sameLaw_7 m (f + k + 1) x1 x2 (nI a) (nI z) (nI g) h = f_M_sameLaw_7 m (f + 1) x1 x2 (nI a) (nI z) (nI 5) h' ∧ MX h' m base n (cpn p a z 5) b W M s ∧ ∀ c, c ≠ m + 1 → h' c = h c := by
  intro k
  induction k with
  | zero =>
    intro f g h hg H
    have g5 : g = 5 := by omega
    subst g5
    exact ⟨h, rfl, H, fun _ _ => rfl⟩
  | succ k ih =>
    intro f g h hg H
    have bd := H.2.2.2.2.1.2.2.2.1 (a * 5 + g) (by omega)
    obtain ⟨e, E, H'⟩ := H.setp (k := z * 5 + g) (v := cpn p a z g (a * 5 + g)) (by omega) bd
    obtain ⟨h', G1, G2, G3⟩ := ih f (g + 1) _ (by omega) H'
    refine ⟨h', ?_, G2, fun c hc => by rw [G3 c hc, hup_n hc]⟩
    rw [← G1]
    show t_M_sameLaw_7 _ (f_M_sameLaw_7 m (f + k + 1)) _ _ _ _ _ _ = _
    unfold t_M_sameLaw_7
    rw [if_neg (by rw [i5]; exact nI_ge (by omega) (by decide)), H.2.2.2.2.1.g0]
    simp only [Option.bind_some]
    rw [M_price H.2.2.2.2.1 (by omega) (by omega)]
    simp only [Option.bind_some]
    rw [mx5, E]
    simp only [Option.bind_some]
    rw [nI_1]
end
def sameQ (W M p : Nat → Nat) (am : Nat → Nat → Nat) (a z : Nat) : LR := isOneQ (evw W M (cpn p a z 5) am a z)
/-- where books are put by -/
def MWas (h : Hp) (m : Nat) (F : Nat → Value) : Prop := F 31 = .ref (m + 19) ∧ F 32 = .ref (m + 20) ∧ ∃ p0 b0 : Nat → Nat, IB h (m + 19) 50 0 p0 ∧ IB h (m + 20) 150 0 b0
theorem MX.h2 {h : Hp} {m base n : Nat} {p b W M : Nat → Nat} {s : St} (H : MX h m base n p b W M s) (A : MWas h m s.1) : MH2 h m s.1 := ⟨H.1, H.2.1.1, H.2.1.2.1, A.1, A.2.1⟩
section
variable {h : Hp} {m num n w : Nat} {p b W M : Nat → Nat} {s : St} {u l : Nat → Int64} {r : Nat → Int32}
/-- a law over other books -/
def MLawB (x : Option (Int32 × Hp)) (h : Hp) (m base n : Nat) (p b W M : Nat → Nat) (s : St) (res : LR) : Prop := ∃ h' s' u' l' r', x = some (cod res, h') ∧ MX h' m base n p b W M s' ∧ MK h' m s'.1 u' l' r' ∧ MEq s.1 s'.1 ∧ MWas h' m s'.1 ∧ ∀ c, ¬ ((m ≤ c ∧ c < m + 3) ∨ (m + 8 ≤ c ∧ c < m + 21)) → h' c = h c
theorem M_sameLaw (H : MX h m (40 * num) n p b W M s) (K : MK h m s.1 u l r) (A : MWas h m s.1) (hg : good W M 8 0 n) (hn : n ≤ 20) {a z : Nat} (hw : w < 4) (ha : a < 8) (hz : z < 8) : MLawB (f_M_sameLaw m (nI num) (nI w) (nI a) (nI z) h) h m (40 * num) n p b W M s (sameQ W M p (bam b w) a z) := by
  have mb := H.2.2.2.2.1
  obtain ⟨p0, b0, C, D⟩ := A.2.2
  obtain ⟨h1, E1, A1, B1, F1⟩ := M_holdBooks (H.h2 A) mb.2.1 mb.2.2.1 C D
  have H1 : MX h1 m (40 * num) n p b W M s := H.cong fun c _ _ => F1 c (by omega) (by omega)
  have K1 : MK h1 m s.1 u l r := K.cong (fun c _ _ => F1 c (by omega) (by omega)) fun _ _ _ _ _ _ _ => rfl
  obtain ⟨h2, E2, H2, F2⟩ := M_same_loop (p := p) (x1 := nI num) (x2 := nI w) ha hz 5 (FU - 6) 0 h1 rfl H1
  have K2 : MK h2 m s.1 u l r := K1.cong (fun c _ _ => F2 c (by omega)) fun _ _ _ _ _ _ _ => rfl
  obtain ⟨h3, s3, u3, l3, r3, E3, H3, K3, V3, J3, e3, f3⟩ := M_findKept (k := 0) H2 K2 hg hn hw ha hz (by decide)
  have k3 := evw_ok W M (cpn p a z 5) (bam b w) a z
  have A3 : IA h3 (m + 19) 50 p := A1.cong (by rw [f3 _ (by omega), F2 _ (by omega)])
  have B3 : IA h3 (m + 20) 150 b := B1.cong (by rw [f3 _ (by omega), F2 _ (by omega)])
  have M3 : MH2 h3 m s3.1 := ⟨H3.1, H3.2.1.1, H3.2.1.2.1, by rw [e3 31 (by decide) (by decide) (by decide) (by decide) (by decide) (by decide)]; exact A.1, by rw [e3 32 (by decide) (by decide) (by decide) (by decide) (by decide) (by decide)]; exact A.2.1⟩
  have mb3 := H3.2.2.2.2.1
  obtain ⟨h4, E4, A4, B4, F4⟩ := M_putBooks (p0 := p) (b0 := b) M3 A3 B3 mb3.2.1.b0 mb3.2.2.1.b0
  have H4 : MX h4 m (40 * num) n p b W M s3 := H3.bk (fun c _ _ x y => F4 c x y) A4 B4 mb.2.2.2.1 mb.2.2.2.2
  have K4 : MK h4 m s3.1 u3 l3 r3 := K3.cong (fun c _ _ => F4 c (by omega) (by omega)) fun _ _ _ _ _ _ _ => rfl
  have one := M_isOneKept H4 K4 V3 k3
  refine ⟨h4, s3, u3, l3, r3, ?_, H4, K4, e3, ⟨M3.2.2.2.1, M3.2.2.2.2, p, b, (A3.cong (F4 _ (by omega) (by omega))).b0, (B3.cong (F4 _ (by omega) (by omega))).b0⟩, fun c hc => by rw [F4 c (by omega) (by omega), f3 c (by omega), F2 c (by omega), F1 c (by omega) (by omega)]⟩
  unfold f_M_sameLaw sameQ
  rw [if_pos H.o, E1, Option.bind_some, show f_M_sameLaw_7 m FU (nI num) (nI w) (nI a) (nI z) (0 : Int32) h1 = _ from E2]
  show t_M_sameLaw_7 _ _ _ _ _ _ _ _ = _
  unfold t_M_sameLaw_7
  rw [if_pos (by decide), show f_M_findKept m (nI num) (nI w) (nI a) (nI z) (0 : Int32) h2 = _ from E3, zb2_s, E4, Option.bind_some, one]
  rfl
end
