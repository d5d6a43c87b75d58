/-! ===== sims: dearest ===== -/
abbrev Ds : Type := Option (Nat × Nat × Nat × Bool)
def dsp (v : Nat → QR) (p : Nat) (st : Ds) : Ds := match v p with
  | .error _ => st
  | .ok x => match st with
    | none => some (p, x)
    | some y => match qord x y.2 with
      | .ok o => if o = 1 then some (p, x) else some y
      | .error _ => some y
def dst (v : Nat → QR) : Nat → Nat → Ds → Ds
  | 0, _, st => st
  | k + 1, p, st => dst v k (p + 1) (dsp v p st)
def dsI (st : Ds) : Int32 := match st with
  | some y => nI y.1
  | none => -1
def dsok (st : Ds) : Prop := ∀ y, st = some y → y.1 < 3 ∧ qok (.ok y.2)
theorem dsp_ok {v : Nat → QR} (kv : ∀ p, qok (v p)) {p : Nat} (hp : p < 3) {st : Ds} (h : dsok st) : dsok (dsp v p st) := by
  unfold dsp
  have k := kv p
  cases hv : v p with
  | error e => exact h
  | ok x =>
    rw [hv] at k
    cases st with
    | none => intro y e; cases e; exact ⟨hp, k⟩
    | some y =>
      dsimp only
      cases qord x y.2 with
      | error e => exact h
      | ok o =>
        dsimp only
        split
        · intro z e; cases e; exact ⟨hp, k⟩
        · exact h
theorem dsp_err {v : Nat → QR} {p : Nat} {st : Ds} {e : Int32} (h : v p = .error e) : dsp v p st = st := by unfold dsp; rw [h]
theorem dsp_none {v : Nat → QR} {p : Nat} {x : Nat × Nat × Bool} (h : v p = .ok x) : dsp v p none = some (p, x) := by unfold dsp; rw [h]
theorem dsp_le {v : Nat → QR} {p : Nat} {x : Nat × Nat × Bool} {y : Nat × Nat × Nat × Bool} (h : v p = .ok x) (e : qord x y.2 = .error eLARGE) : dsp v p (some y) = some y := by unfold dsp; rw [h]; dsimp only; rw [e]
theorem dsp_lo {v : Nat → QR} {p : Nat} {x : Nat × Nat × Bool} {y : Nat × Nat × Nat × Bool} {o : Int32} (h : v p = .ok x) (e : qord x y.2 = .ok o) : dsp v p (some y) = if o = 1 then some (p, x) else some y := by unfold dsp; rw [h]; dsimp only; rw [e]
section
variable {S m mk num n w : Nat} {T : Nt} {p q pr br b tx W M : Nat → Nat} {len : Nat} {lf : Int32}
theorem Y_dear_loop (B : RB p q pr br) (hm : mk ≤ 8) {n a z : Nat} (hn : n < mk) (ha : a < 8) (hz : z < 8) : ∀ (k f i : Nat) (h : Hp) (st : Ds), i + k = 3 → CI h S mk T p q pr br tx len lf → dsok st → (∀ y, st = some y → FR h (S + 57) (.ok y.2)) → ∃ h', f_Y_dearest_32 S (f + k + 1) (nI n) (nI a) (nI z) (dsI st) (nI i) h = some (dsI (dst (fun i => evw (nW T n) (nM T n) pr (bam br i) a z) k i st), h') ∧ CI h' S mk T p q pr br tx len lf ∧ ∀ c, S + 59 ≤ c → h' c = h c := by
  intro k
  induction k with
  | zero =>
    intro f i h st hi C ok hst
    have e : i = 3 := by omega
    subst e
    exact ⟨h, rfl, C, fun _ _ => rfl⟩
  | succ k ih =>
    intro f i h st hi C ok hst
    obtain ⟨a0, a1, a2, a3, a4, a5, a6, a7, a8, a9, a10⟩ := C.a
    obtain ⟨h1, E1, R1, C1, L1⟩ := Y_tell C B hm hn (show i < 4 by omega) ha hz (Or.inr rfl)
    obtain ⟨b0, b1, b2, b3, b4, b5, b6, b7, b8, b9, b10⟩ := C1.a
    have kv := evw_ok (nW T n) (nM T n) pr (bam br i) a z
    have ok' := dsp_ok (v := fun i => evw (nW T n) (nM T n) pr (bam br i) a z) (fun p => evw_ok _ _ _ _ _ _) (show i < 3 by omega) ok
    have hst1 : ∀ y, st = some y → FR h1 (S + 57) (.ok y.2) := fun y e => (L1 (S + 57) (by omega) (by omega)).trans (hst y e)
    have ed : dst (fun i => evw (nW T n) (nM T n) pr (bam br i) a z) (k + 1) i st = dst (fun i => evw (nW T n) (nM T n) pr (bam br i) a z) k (i + 1) (dsp (fun i => evw (nW T n) (nM T n) pr (bam br i) a z) i st) := rfl
    rw [ed]
    -- nothing new
    have keep : dsp (fun i => evw (nW T n) (nM T n) pr (bam br i) a z) i st = st → ∃ h', f_Y_dearest_111 S (f_Y_dearest_32 S (f + k + 1)) (nI n) (nI a) (nI z) (dsI st) (nI i) h1 = some (dsI (dst (fun i => evw (nW T n) (nM T n) pr (bam br i) a z) k (i + 1) (dsp (fun i => evw (nW T n) (nM T n) pr (bam br i) a z) i st)), h') ∧ CI h' S mk T p q pr br tx len lf ∧ ∀ c, S + 59 ≤ c → h' c = h c := by
      intro e
      rw [e]
      obtain ⟨h', G1, G2, G3⟩ := ih f (i + 1) h1 st (by omega) C1 ok hst1
      refine ⟨h', ?_, G2, fun c hc => by rw [G3 c hc, L1 c (by omega) (by omega)]⟩
      rw [← G1]
      unfold f_Y_dearest_111
      rw [nI_1]
    have take : ∀ x, evw (nW T n) (nM T n) pr (bam br i) a z = .ok x → dsp (fun i => evw (nW T n) (nM T n) pr (bam br i) a z) i st = some (i, x) → ∃ h', f_Y_dearest_96 S (f_Y_dearest_32 S (f + k + 1)) (nI n) (nI a) (nI z) (nI i) h1 = some (dsI (dst (fun i => evw (nW T n) (nM T n) pr (bam br i) a z) k (i + 1) (dsp (fun i => evw (nW T n) (nM T n) pr (bam br i) a z) i st)), h') ∧ CI h' S mk T p q pr br tx len lf ∧ ∀ c, S + 59 ≤ c → h' c = h c := by
      intro x hx e
      rw [hx] at R1
      rw [e] at ok' ⊢
      have C2 := C1.fr hm (a := S + 57) (Or.inl rfl) (r := .ok x)
      obtain ⟨h', G1, G2, G3⟩ := ih f (i + 1) (hup h1 (S + 57) (frE (.ok x))) (some (i, x)) (by omega) C2 ok' (fun y ey => by cases ey; exact hup_s)
      refine ⟨h', ?_, G2, fun c hc => by rw [G3 c hc, hup_n (by omega), L1 c (by omega) (by omega)]⟩
      rw [← G1]
      unfold f_Y_dearest_96 f_Y_dearest_111
      rw [b7, b8]
      simp only [Option.bind_some]
      rw [F_take (C1.fx (Or.inl rfl)) R1 (by omega)]
      simp only [Option.bind_some]
      rw [nI_1]
      rfl
    have start : f_Y_dearest_32 S (f + (k + 1) + 1) (nI n) (nI a) (nI z) (dsI st) (nI i) h = ((gI h1 (S + 58) 1 3).bind fun i33 => if i33 = 0 then
    if dsI st = (-1 : Int32) then
      f_Y_dearest_96 S (f_Y_dearest_32 S (f + k + 1)) (nI n) (nI a) (nI z) (nI i) h1
    else
    (f_F_orderOf h1 (S + 58) (S + 57)).bind fun i44 =>
    if i44 = (1 : Int32) then
      f_Y_dearest_96 S (f_Y_dearest_32 S (f + k + 1)) (nI n) (nI a) (nI z) (nI i) h1
    else
    f_Y_dearest_111 S (f_Y_dearest_32 S (f + k + 1)) (nI n) (nI a) (nI z) (dsI st) (nI i) h1
  else
  f_Y_dearest_111 S (f_Y_dearest_32 S (f + k + 1)) (nI n) (nI a) (nI z) (dsI st) (nI i) h1) := by
      show t_Y_dearest_32 _ (f_Y_dearest_32 S (f + k + 1)) _ _ _ _ _ _ = _
      unfold t_Y_dearest_32
      rw [if_neg (show ¬ (3 : Int32) ≤ nI i from nI_ge (b := 3) (by omega) (by decide)), a4, (Y_num_in C hm hn).2, a0, a8]
      simp only [Option.bind_some]
      rw [E1]
      simp only [Option.bind_some]
      rw [b8, b7]
      simp only [Option.bind_some]
    rw [start]
    cases hv : evw (nW T n) (nM T n) pr (bam br i) a z with
    | error e =>
      rw [hv] at R1 kv
      obtain ⟨-, -, -, z2, -⟩ := fo_g (fr_err R1)
      rw [z2, Option.bind_some, if_neg (err_ne kv)]
      exact keep (dsp_err hv)
    | ok x =>
      have R2 := R1
      rw [hv] at R2 kv
      obtain ⟨-, -, -, z2, -⟩ := fo_g (fr_ok R2)
      rw [z2, Option.bind_some, if_pos rfl]
      cases st with
      | none =>
        rw [if_pos (show dsI none = (-1 : Int32) from rfl)]
        exact take x hv (dsp_none hv)
      | some y =>
        obtain ⟨y3, ky⟩ := ok y rfl
        rw [if_neg (show ¬ dsI (some y) = (-1 : Int32) from nI_m1 (by omega)), F_orderOf R2 (hst1 y rfl) kv ky, Option.bind_some]
        rcases qord_cs x y.2 with e | ⟨i1, j1, e⟩
        · rw [e, if_neg (by decide)]
          exact keep (dsp_le hv e)
        · rw [e, show oI (.ok (cmp3 i1 j1)) = cmp3 i1 j1 from rfl]
          by_cases c : cmp3 i1 j1 = 1
          · rw [if_pos c]
            exact take x hv ((dsp_lo (v := fun i => evw (nW T n) (nM T n) pr (bam br i) a z) hv e).trans (if_pos c))
          · rw [if_neg c]
            exact keep ((dsp_lo (v := fun i => evw (nW T n) (nM T n) pr (bam br i) a z) hv e).trans (if_neg c))
theorem M_ordJ {h : Hp} {base : Nat} {s : St} {u l : Nat → Int64} {r : Nat → Int32} (H : MX h m base n p b W M s) (K : MK h m s.1 u l r) {i j : Nat} (hi : i < 3) (hj : j < 3) {x y : Nat × Nat × Bool} (h0 : kpt u l r i x) (h1 : kpt u l r j y) (k1 : qok (.ok x)) (k2 : qok (.ok y)) : ∃ h' s', f_M_orderKept m (nI i) (nI j) h = some (ocode (qord x y), h') ∧ MX h' m base n p b W M s' ∧ MK h' m s'.1 u l r ∧ (∀ z, qord x y = .ok z → s'.1 17 = .int z) ∧ MEq s.1 s'.1 ∧ MFr h h' m := by
  obtain ⟨g28, g29, g30, a0, a1, a2⟩ := K.gu H hi
  obtain ⟨-, -, -, b0, b1, b2⟩ := K.gu H hj
  obtain ⟨c0, c1, c2⟩ := h0
  obtain ⟨d0, d1, d2⟩ := h1
  rw [c0] at a0
  rw [c1] at a1
  rw [c2] at a2
  rw [d0] at b0
  rw [d1] at b1
  rw [d2] at b2
  obtain ⟨F1, E1, O1⟩ := M_orderOf H.1 H.2.2.1 H.2.2.2.1 k1 k2
  have me : MEq s.1 F1 := fun k a b c d _ _ => O1.1 k a b c d
  refine ⟨_, (F1, s.2), ?_, H.obj me O1.2.1 O1.2.2.1, K.cong (fun c _ _ => hup_n (by omega)) me, O1.2.2.2, me, fun c hc => hup_n (by omega)⟩
  unfold f_M_orderKept
  rw [if_pos H.o, g28, g29, g30]
  simp only [Option.bind_some]
  rw [a0, a1, a2, b0, b1, b2]
  simp only [Option.bind_some]
  rw [E1, zb2_s]
/-- the second that is kept becomes the first -/
theorem M_copyK {h : Hp} {base : Nat} {s : St} {u l : Nat → Int64} {r : Nat → Int32} (H : MX h m base n p b W M s) (K : MK h m s.1 u l r) {x : Nat × Nat × Bool} (h1 : kpt u l r 1 x) (k32 : Int32 → Int32 → Int32 → Int32 → Int32 → Hp → Option (Int32 × Hp)) (x1 x2 x3 x5 : Int32) : ∃ h' u' l' r', f_M_dearest_89 m k32 x1 x2 x3 x5 h = f_M_dearest_129 m k32 x1 x2 x3 x5 x5 h' ∧ MX h' m base n p b W M s ∧ MK h' m s.1 u' l' r' ∧ kpt u' l' r' 0 x ∧ MFr h h' m := by
  obtain ⟨g28, g29, g30, a0, a1, a2⟩ := K.gu H (k := 1) (by decide)
  obtain ⟨⟨k28, k29, k30⟩, ka, kb, kc⟩ := K
  obtain ⟨c0, c1, c2⟩ := h1
  rw [c0] at a0
  rw [c1] at a1
  rw [c2] at a2
  have E1 := sL_set (k := 0) (x := lN x.1) ka (by decide) (by decide)
  obtain ⟨g1, hg1⟩ : ∃ g, g = hup h (m + 16) (.inl (1, 3, .inr (.inl (vp_updL u 0 (lN x.1))))) := ⟨_, rfl⟩
  rw [← hg1] at E1
  have o1 : ∀ c, c ≠ m + 16 → g1 c = h c := fun c hc => by rw [hg1, hup_n hc]
  have E2 : sL g1 (m + 17) (nI 0) (lN x.2.1) = some (hup g1 (m + 17) (.inl (1, 3, .inr (.inl (vp_updL l 0 (lN x.2.1)))))) := sL_set (by rw [o1 _ (by omega)]; exact kb) (by decide) (by decide)
  obtain ⟨g2, hg2⟩ : ∃ g, g = hup g1 (m + 17) (.inl (1, 3, .inr (.inl (vp_updL l 0 (lN x.2.1))))) := ⟨_, rfl⟩
  rw [← hg2] at E2
  have o2 : ∀ c, c ≠ m + 16 → c ≠ m + 17 → g2 c = h c := fun c h1 h2 => by rw [hg2, hup_n h2, o1 c h1]
  have E3 : sZ g2 (m + 18) (nI 0) (bI x.2.2) = some (hup g2 (m + 18) (.inl (2, 3, .inl (upd r 0 (bI x.2.2))))) := by
    unfold sZ
    rw [o2 _ (by omega) (by omega), kc]
    simp only []
    rw [if_pos ⟨trivial, nI_in (by decide) (by decide)⟩, nI_clamp (by omega), show vp_nar .boolean (bI x.2.2) = bI x.2.2 by cases x.2.2 <;> decide +kernel]
  have o3 : ∀ c, c ≠ m + 16 → c ≠ m + 17 → c ≠ m + 18 → (hup g2 (m + 18) (.inl (2, 3, .inl (upd r 0 (bI x.2.2))))) c = h c := fun c h1 h2 h3 => by rw [hup_n h3, o2 c h1 h2]
  refine ⟨_, vp_updL u 0 (lN x.1), vp_updL l 0 (lN x.2.1), upd r 0 (bI x.2.2), ?_, H.cong fun c _ _ => o3 c (by omega) (by omega) (by omega), ⟨⟨k28, k29, k30⟩, ?_, ?_, hup_s⟩, ⟨pk_uLs, pk_uLs, pk_us⟩, fun c hc => o3 c (by omega) (by omega) (by omega)⟩
  · have f1 : ∀ k v, gA h m 8 k = some v → gA g1 m 8 k = some v := fun k v e => by
      unfold gA gV at *
      rw [o1 _ (by omega)]
      exact e
    have f2 : ∀ k v, gA h m 8 k = some v → gA g2 m 8 k = some v := fun k v e => by
      unfold gA gV at *
      rw [o2 _ (by omega) (by omega)]
      exact e
    have a1' : aL g1 (m + 17) (nI 1) = some (lN x.2.1) := by
      unfold aL at *
      rw [o1 _ (by omega)]
      exact a1
    have a2' : aI g2 2 (m + 18) (nI 1) = some (bI x.2.2) := by
      unfold aI at *
      rw [o2 _ (by omega) (by omega)]
      exact a2
    unfold f_M_dearest_89
    rw [g28]
    simp only [Option.bind_some]
    rw [show aL h (m + 16) 1 = some (lN x.1) from a0]
    simp only [Option.bind_some]
    rw [show sL h (m + 16) 0 (lN x.1) = some g1 from E1]
    simp only [Option.bind_some]
    rw [f1 29 _ g29]
    simp only [Option.bind_some]
    rw [show aL g1 (m + 17) 1 = some (lN x.2.1) from a1']
    simp only [Option.bind_some]
    rw [show sL g1 (m + 17) 0 (lN x.2.1) = some g2 from E2]
    simp only [Option.bind_some]
    rw [f2 30 _ g30]
    simp only [Option.bind_some]
    rw [show aI g2 2 (m + 18) 1 = some (bI x.2.2) from a2']
    simp only [Option.bind_some]
    rw [show sZ g2 (m + 18) 0 (bI x.2.2) = some _ from E3]
    rfl
  · rw [hup_n (by omega), hg2, hup_n (by omega), hg1, hup_s]
  · rw [hup_n (by omega), hg2, hup_s]
theorem M_dear_loop (hg : good W M 8 0 n) (hn20 : n ≤ 20) {a z : Nat} (ha : a < 8) (hz : z < 8) : ∀ (k f i : Nat) (h : Hp) (s : St) (u l : Nat → Int64) (r : Nat → Int32) (st : Ds), i + k = 3 → MX h m (40 * num) n p b W M s → MK h m s.1 u l r → MWas h m s.1 → dsok st → (∀ y, st = some y → kpt u l r 0 y.2) → ∃ h' s' u' l' r', f_M_dearest_32 m (f + k + 1) (nI num) (nI a) (nI z) (dsI st) (nI i) h = some (dsI (dst (fun i => evw W M p (bam b i) a z) k i st), h') ∧ MX h' m (40 * num) n p b W M s' ∧ MK h' m s'.1 u' l' r' ∧ MWas h' m s'.1 ∧ MEq s.1 s'.1 ∧ MFs h h' m := by
  intro k
  induction k with
  | zero =>
    intro f i h s u l r st hi X K A ok hst
    have e : i = 3 := by omega
    subst e
    exact ⟨h, s, u, l, r, rfl, X, K, A, fun _ _ _ _ _ _ _ => rfl, fun _ _ => rfl⟩
  | succ k ih =>
    intro f i h s u l r st hi X K A ok hst
    obtain ⟨h1, s1, u1, l1, r1, E1, X1, K1, V1, J1, e1, f1⟩ := M_findKept (k := 1) X K hg hn20 (w := i) (show i < 4 by omega) ha hz (by decide)
    have A1 : MWas h1 m s1.1 := A.cong (fun c x y => f1 c (by omega)) e1
    have kv := evw_ok W M p (bam b i) a z
    have ok' := dsp_ok (v := fun i => evw W M p (bam b i) a z) (fun p => evw_ok _ _ _ _ _ _) (show i < 3 by omega) ok
    have hst1 : ∀ y, st = some y → kpt u1 l1 r1 0 y.2 := fun y e => by
      obtain ⟨j0, j1, j2⟩ := J1 0 (by decide)
      obtain ⟨y0, y1, y2⟩ := hst y e
      exact ⟨j0.trans y0, j1.trans y1, j2.trans y2⟩
    have ed : dst (fun i => evw W M p (bam b i) a z) (k + 1) i st = dst (fun i => evw W M p (bam b i) a z) k (i + 1) (dsp (fun i => evw W M p (bam b i) a z) i st) := rfl
    rw [ed]
    have keep : ∀ {h2 : Hp} {s2 : St}, MX h2 m (40 * num) n p b W M s2 → MK h2 m s2.1 u1 l1 r1 → MWas h2 m s2.1 → MEq s.1 s2.1 → MFs h h2 m → dsp (fun i => evw W M p (bam b i) a z) i st = st → ∃ h' s' u' l' r', f_M_dearest_129 m (f_M_dearest_32 m (f + k + 1)) (nI num) (nI a) (nI z) (dsI st) (nI i) h2 = some (dsI (dst (fun i => evw W M p (bam b i) a z) k (i + 1) (dsp (fun i => evw W M p (bam b i) a z) i st)), h') ∧ MX h' m (40 * num) n p b W M s' ∧ MK h' m s'.1 u' l' r' ∧ MWas h' m s'.1 ∧ MEq s.1 s'.1 ∧ MFs h h' m := by
      intro h2 s2 X2 K2 A2 e2 f2 e
      rw [e]
      obtain ⟨h', s', u', l', r', G1, G2, G3, G4, G5, G6⟩ := ih f (i + 1) h2 s2 u1 l1 r1 st (by omega) X2 K2 A2 ok hst1
      refine ⟨h', s', u', l', r', ?_, G2, G3, G4, e2.trans G5, MFs.trans f2 G6⟩
      rw [← G1]
      unfold f_M_dearest_129
      rw [nI_1]
    have take : ∀ {h2 : Hp} {s2 : St}, MX h2 m (40 * num) n p b W M s2 → MK h2 m s2.1 u1 l1 r1 → MWas h2 m s2.1 → MEq s.1 s2.1 → MFs h h2 m → ∀ x, evw W M p (bam b i) a z = .ok x → dsp (fun i => evw W M p (bam b i) a z) i st = some (i, x) → ∃ h' s' u' l' r', f_M_dearest_89 m (f_M_dearest_32 m (f + k + 1)) (nI num) (nI a) (nI z) (nI i) h2 = some (dsI (dst (fun i => evw W M p (bam b i) a z) k (i + 1) (dsp (fun i => evw W M p (bam b i) a z) i st)), h') ∧ MX h' m (40 * num) n p b W M s' ∧ MK h' m s'.1 u' l' r' ∧ MWas h' m s'.1 ∧ MEq s.1 s'.1 ∧ MFs h h' m := by
      intro h2 s2 X2 K2 A2 e2 f2 x hx e
      obtain ⟨h3, u3, l3, r3, E3, X3, K3, P3, f3⟩ := M_copyK X2 K2 (V1 x hx) (f_M_dearest_32 m (f + k + 1)) (nI num) (nI a) (nI z) (nI i)
      rw [e] at ok' ⊢
      obtain ⟨h', s', u', l', r', G1, G2, G3, G4, G5, G6⟩ := ih f (i + 1) h3 s2 u3 l3 r3 (some (i, x)) (by omega) X3 K3 (A2.cong (fun c x y => f3 c (by omega)) (fun _ _ _ _ _ _ _ => rfl)) ok' (fun y ey => by cases ey; exact P3)
      refine ⟨h', s', u', l', r', ?_, G2, G3, G4, e2.trans G5, MFs.trans (MFs.trans f2 f3.s) G6⟩
      rw [← G1, E3]
      unfold f_M_dearest_129
      rw [nI_1]
      rfl
    have start : f_M_dearest_32 m (f + (k + 1) + 1) (nI num) (nI a) (nI z) (dsI st) (nI i) h = if mcode (evw W M p (bam b i) a z) = 0 then
    if 0 ≤ dsI st then
      zb2 (f_M_orderKept m (1 : Int32) (0 : Int32) h1) fun i46 h47 =>
      f_M_dearest_70 m (f_M_dearest_32 m (f + k + 1)) i46 (nI num) (nI a) (nI z) (dsI st) (nI i) h47
    else
    f_M_dearest_70 m (f_M_dearest_32 m (f + k + 1)) (0 : Int32) (nI num) (nI a) (nI z) (dsI st) (nI i) h1
  else
  f_M_dearest_129 m (f_M_dearest_32 m (f + k + 1)) (nI num) (nI a) (nI z) (dsI st) (nI i) h1 := by
      show t_M_dearest_32 _ (f_M_dearest_32 m (f + k + 1)) _ _ _ _ _ _ = _
      unfold t_M_dearest_32
      rw [if_neg (show ¬ (3 : Int32) ≤ nI i from nI_ge (b := 3) (by omega) (by decide)), show f_M_findKept m (nI num) (nI i) (nI a) (nI z) (1 : Int32) h = _ from E1, zb2_s]
    rw [start]
    have f1s : MFs h h1 m := fun c hc => f1 c (by omega)
    cases hv : evw W M p (bam b i) a z with
    | error e =>
      rw [hv] at kv
      rw [if_neg (show ¬ mcode (.error e) = 0 from err_ne kv)]
      exact keep X1 K1 A1 e1 f1s (dsp_err hv)
    | ok x =>
      rw [hv] at kv
      rw [if_pos (show mcode (.ok x) = 0 from rfl)]
      cases st with
      | none =>
        rw [if_neg (show ¬ 0 ≤ dsI none by decide)]
        unfold f_M_dearest_70
        rw [if_pos rfl, if_pos (show dsI none < 0 by decide)]
        exact take X1 K1 A1 e1 f1s x hv (dsp_none hv)
      | some y =>
        obtain ⟨y3, ky⟩ := ok y rfl
        obtain ⟨h2, s2, E2, X2, K2, z2, e2, f2⟩ := M_ordJ X1 K1 (i := 1) (j := 0) (by decide) (by decide) (V1 x hv) (hst1 y rfl) kv ky
        have A2 : MWas h2 m s2.1 := A1.cong (fun c x y => f2 c (by omega)) e2
        rw [if_pos (show 0 ≤ dsI (some y) from nI_pos' (by omega)), show f_M_orderKept m (1 : Int32) (0 : Int32) h1 = _ from E2, zb2_s]
        unfold f_M_dearest_70
        rcases qord_cs x y.2 with e | ⟨i1, j1, e⟩
        · rw [e, if_neg (show ¬ ocode (.error eLARGE) = 0 by decide)]
          exact keep X2 K2 A2 (e1.trans e2) (MFs.trans f1s f2.s) (dsp_le hv e)
        · rw [e, if_pos (show ocode (.ok (cmp3 i1 j1)) = 0 from rfl), if_neg (show ¬ dsI (some y) < 0 from nI_pos (by omega)), oc_i X2.1 (by decide) (z2 _ e), Option.bind_some]
          rcases cmp3_cs i1 j1 with c | c | c
          · rw [c, if_pos (by decide)]
            exact keep X2 K2 A2 (e1.trans e2) (MFs.trans f1s f2.s) ((dsp_lo (v := fun i => evw W M p (bam b i) a z) hv e).trans (if_neg (by rw [c]; decide)))
          · rw [c, if_pos (by decide)]
            exact keep X2 K2 A2 (e1.trans e2) (MFs.trans f1s f2.s) ((dsp_lo (v := fun i => evw W M p (bam b i) a z) hv e).trans (if_neg (by rw [c]; decide)))
          · rw [c, if_neg (by decide)]
            exact take X2 K2 A2 (e1.trans e2) (MFs.trans f1s f2.s) x hv ((dsp_lo (v := fun i => evw W M p (bam b i) a z) hv e).trans (if_pos c))
end
theorem sim_dearest {S : Nat} : Sim_dearest (zInv S) S := by
  intro h x1 x2 x3 I
  have I0 := I
  obtain ⟨mk, T, p, q, pr, br, tx, len, lf, F, hm, B, Z0, C, Mi⟩ := I
  unfold f_Y_dearest
  rw [if_pos C.o]
  rcases (num_cs x1 mk hm).symm with ho | ⟨n, hn, rfl⟩
  · rw [Y_num_out C hm ho, Option.bind_some, if_neg (by decide)]
    refine ⟨_, h, h, rfl, ?_, I0⟩
    unfold f_M_dearest
    rw [if_pos Mi.o, M_num_out Mi hm ho]
    rfl
  rw [(Y_num_in C hm hn).1, Option.bind_some, if_pos rfl]
  rcases (Z_year x2).symm with ⟨Y3, M3⟩ | ⟨a, ha, rfl, Y3, M3⟩
  · rw [Y3, Option.bind_some, if_neg (by decide)]
    refine ⟨_, h, h, rfl, ?_, I0⟩
    unfold f_M_dearest
    rw [if_pos Mi.o, M_num_in Mi hm hn, M3]
    rfl
  rw [Y3, Option.bind_some, if_pos rfl]
  rcases (Z_year x3).symm with ⟨Y4, M4⟩ | ⟨b, hb, rfl, Y4, M4⟩
  · rw [Y4, Option.bind_some, if_neg (by decide)]
    refine ⟨_, h, h, rfl, ?_, I0⟩
    unfold f_M_dearest
    rw [if_pos Mi.o, M_num_in Mi hm hn, M3, M4]
    rfl
  rw [Y4, Option.bind_some, if_pos rfl]
  obtain ⟨h1, E1, C1, L1⟩ := Y_dear_loop B hm hn ha hb 3 (FU - 4) 0 h none rfl C (fun y e => by cases e) (fun y e => by cases e)
  have Mi1 : MI h1 (S + 59) mk T pr br tx len lf F := Mi.cong fun c x _ => L1 c x
  obtain ⟨gd1, gl1⟩ := C.good hn
  obtain ⟨s, u, l, r, eF, K, A, X⟩ := Mi1.mx
  subst eF
  obtain ⟨h2, s2, u2, l2, r2, E2, X2, K2, A2, e2, f2⟩ := M_dear_loop gd1 gl1 ha hb 3 (FU - 4) 0 h1 s u l r none rfl (X n hn) K A (fun y e => by cases e) (fun y e => by cases e)
  refine ⟨_, h1, h2, E1, ?_, zfin (n := n) hm B Z0 C1 Mi1 ⟨s2, u2, l2, r2, rfl, X2, K2, A2⟩ e2.e3 f2⟩
  unfold f_M_dearest
  rw [if_pos Mi1.o, M_num_in Mi1 hm hn, M3, M4]
  exact E2
