/-! ===== the reference: every E; find ===== -/
section
variable {h : Hp} {m base n w : Nat} {p b W M : Nat → Nat} {s : St}
theorem M_lk {R : Nat → Nat → Nat → QR} {i d s1 : Nat} (hi : i < n) (hW : W i = 11) (hi1 : i + 1 < n) (hV1 : W (i + 1) < 13) (hd : 0 < d) (o1 : EvOK m base n w p b W M R (i + 1) d s1) (k1 : ∀ a b s, qok (R a b s)) : EvOK m base n w p b W M (fun a z set => lnq (fun y z => R y z set) a z) i (d + 1) (1 + s1) := by
  intro f a z set h s hf ha hz hs H fr i4
  dsimp only
  rw [if_pos hW] at i4
  have lk : Lk base s f i a z set a := ⟨fr.2.1, fr.2.2.1, fr.2.2.2.1, fr.2.2.2.2, i4⟩
  have g6 : (6 : Int32) ≤ nI (W i) := by rw [hW]; decide
  have g11 : nI (W i) = (11 : Int32) := by rw [hW]; rfl
  have mx1 : 1 ≤ max 1 (far a z) := Nat.le_max_left _ _
  have ex : 4 * (1 + s1) * max 1 (far a z) = 4 * max 1 (far a z) + 4 * s1 * max 1 (far a z) := by
    rw [Nat.mul_add, Nat.mul_one, Nat.add_mul]
  have head : f_M_work m (nI w) 0 h = f_M_work_116 m (0 : Int32) (nI f) (nI (base + i)) (nI a) (nI z) h := by
    rw [M_work_head H (by omega) hi fr, if_pos g6, if_pos g11, if_pos rfl]
  by_cases haz : a = z
  · subst haz
    unfold lnq
    rw [if_pos rfl]
    obtain ⟨e1, H1, S1⟩ := H.fld (k := 27) (Or.inr rfl) 1
    obtain ⟨e2, H2, S2⟩ := H1.fld (k := 26) (Or.inl rfl) (nI f)
    have tk : MHand (f_M_take m (1 : Int64) (1 : Int64) (0 : Int32) _) _ m _ (qmk 1 1 false) := M_take (u := 1) (l := 1) (t := false) H2.1 (by decide) (by decide) (by decide)
    rw [mk11] at tk
    have wk : JN (f_M_work m (nI w) 0 h) h m (fset (fset s.1 27 (.int 1)) 26 (.int (nI f))) (.ok (1, 1, false)) := by
      rw [head]
      unfold f_M_work_116
      rw [if_pos (by decide), show gA h m 8 22 = some (some (m + 8 + 4)) from H.r (k := 4) (by decide), Option.bind_some, Option.bind_some, H.gi (by decide) (by omega), i4, Option.bind_some, if_pos rfl]
      unfold f_M_work_143
      rw [show zB (1 : Int32) = some 1 from rfl, Option.bind_some, e1, Option.bind_some, H1.g27 (x := 1) rfl, Option.bind_some, if_neg (by decide), H1.g26 (f := f + 1) (show (fset s.1 27 (.int 1), s.2).1 26 = .int (nI (f + 1)) from (fset_n (F := s.1) (k := 27) (j := 26) (v := .int 1) (by decide)).trans fr.1), Option.bind_some, nI_pred, e2, Option.bind_some, if_pos rfl]
      obtain ⟨F', G1, G2⟩ := MHand.zb tk
      exact ⟨F', by rw [G1, hup_u, hup_u], G2.mh H2.2.2.2.1⟩
    obtain ⟨g11, t11, H11, S11, F11⟩ := M_last H fr.1 (by omega) one_ok wk (fun k a b c d e g => by rw [fset_n e, fset_n g]) (by rw [fset_s]) (by rw [fset_n (by decide), fset_s])
    exact ⟨1, g11, t11, by omega, H11, S11, F11⟩
  · have dr : Dr (decide (a < z)) a a (far a z - 1) z := by
      unfold far
      by_cases c : a < z
      · rw [decide_eq_true c]; show a ≤ a ∧ _; omega
      · rw [decide_eq_false c]; show a ≤ a ∧ _; omega
    have hL0 : 0 < far a z := by unfold far; omega
    unfold lnq
    rw [if_neg haz]
    generalize decide (a < z) = up at *
    obtain ⟨g5, t5, E5, H5, S5, fr5, x4, x27⟩ := M_more (set := set) H (by omega) ha hz hi1 hV1 dr fr.1 lk
    have wk : f_M_work m (nI w) 0 h = some (0, g5) := by rw [head]; exact E5
    have st : ∀ k, f_M_find_20 m (k + 1) (nI w) 0 h = f_M_find_20 m k (nI w) 0 g5 := fun k => M_find_ok H fr.1 (by omega) wk (by decide) (H5.g27 x27)
    obtain ⟨c2, g6, t6, b6, H6, S6, F6⟩ := M_link_loop hi hW hi1 hV1 hd o1 k1 hf ha hz hs haz (far a z - 1) a (0, 1, false) g5 t5 dr H5 fr5 x4 (lk.keep S5 (by omega)) (fun c => absurd rfl c)
    rw [if_pos rfl] at F6
    refine ⟨c2 + 1, g6, t6, ?_, H6, (S5.weak (by omega)).trans S6, Fin.pre st F6⟩
    rw [Nat.sub_add_cancel hL0] at b6
    have mxe : max 1 (far a z) = far a z := Nat.max_eq_right hL0
    rw [mxe] at ex ⊢
    rw [ex]
    have : far a z * (4 * s1 + 1) = 4 * s1 * far a z + far a z := by rw [Nat.mul_add, Nat.mul_one, Nat.mul_comm]
    omega
theorem good_W {W M : Nat → Nat} : ∀ (d i j : Nat), good W M d i j → W i < 13 := by
  intro d
  cases d with
  | zero => intro i j h; exact h.elim
  | succ d =>
    intro i j h
    rcases h with h | ⟨-, h, -⟩ | ⟨-, h, -⟩ <;> omega
theorem good_d {W M : Nat → Nat} : ∀ (d i j : Nat), good W M d i j → 0 < d := by
  intro d i j h
  cases d with
  | zero => exact h.elim
  | succ d => omega
theorem EvOK.cong {R R' : Nat → Nat → Nat → QR} {i d sz sz' : Nat} (H : EvOK m base n w p b W M R i d sz) (e : ∀ a z s, R' a z s = R a z s) (hs : sz = sz') : EvOK m base n w p b W M R' i d sz' := by
  subst hs
  have : R' = R := by funext a z s; exact e a z s
  rw [this]
  exact H
theorem M_ev (hw : w < 4) : ∀ (d i j : Nat), good W M d i j → j ≤ n → EvOK m base n w p b W M (fun a z set => ev W M p (bam b w) d i a z set) i d (j - i) := by
  intro d
  induction d with
  | zero => intro i j h; exact h.elim
  | succ d ih =>
    intro i j hg hj
    have hi : i < n := Nat.lt_of_lt_of_le (good_lt _ _ _ hg) hj
    rcases hg with ⟨hW, hij, hM⟩ | ⟨hW, hW2, hg1, hg2⟩ | ⟨hW, hW2, hg1⟩
    · refine EvOK.cong (M_lf (d := d) hi hW hM hw) (fun a z s => ?_) (by omega)
      rw [ev, if_pos hW]
    · have l1 := good_lt _ _ _ hg1
      have l2 := good_lt _ _ _ hg2
      refine EvOK.cong (M_two hi hW hW2 (by omega) (by omega) (good_W _ _ _ hg1) (good_W _ _ _ hg2) (good_d _ _ _ hg1) (ih (i + 1) _ hg1 (by omega)) (ih (M i) j hg2 hj) (fun a b s => ev_ok _ _ _ _ _ _ _ _ _) (fun a b s => ev_ok _ _ _ _ _ _ _ _ _)) (fun a z s => ?_) (by omega)
      rw [ev, if_neg (by omega), if_pos hW2]
      rfl
    · have l1 := good_lt _ _ _ hg1
      have R1 := ih (i + 1) j hg1 hj
      by_cases c : W i = 11
      · refine EvOK.cong (M_lk hi c (by omega) (good_W _ _ _ hg1) (good_d _ _ _ hg1) R1 (fun a b s => ev_ok _ _ _ _ _ _ _ _ _)) (fun a z s => ?_) (by omega)
        rw [ev, if_neg (by omega), if_neg (by omega), if_neg (by omega), if_pos c]
      · refine EvOK.cong (M_one1 hi (by omega) (by omega) (good_W _ _ _ hg1) (good_d _ _ _ hg1) R1 (fun a b s => ev_ok _ _ _ _ _ _ _ _ _)) (fun a z s => ?_) (by omega)
        rw [ev, if_neg (by omega), if_neg (by omega)]
        by_cases c2 : W i = 10
        · rw [if_pos c2, if_pos c2]
        · rw [if_neg c2, if_neg c, if_neg c2]
/-- find: WORTH of the number at base comes to hand -/
theorem M_find (H : MX h m base n p b W M s) (hg : good W M 8 0 n) (hn : n ≤ 20) {a z : Nat} (hw : w < 4) (ha : a < 8) (hz : z < 8) : ∃ h' s', f_M_find m (nI base) (nI w) (nI a) (nI z) h = some (mcode (evw W M p (bam b w) a z), h') ∧ MX h' m base n p b W M s' ∧ Sq 0 h s h' s' m ∧ ∀ q, evw W M p (bam b w) a z = .ok q → hnd s'.1 q := by
  obtain ⟨e1, H1, S1⟩ := H.fld (k := 26) (Or.inl rfl) (nI 0)
  have l0 := good_lt _ _ _ hg
  obtain ⟨h2, s2, E2, H2, S2, x1, B0, B1, B2, B3, B4⟩ := M_push (i := 0) (f := 0) (a := a) (z := z) (set := amk p) H1 (by decide) (show (fset s.1 26 (.int (nI 0)), s.2).1 26 = .int (nI 0) from fset_s (F := s.1) (k := 26) (v := .int (nI 0))) l0 (good_W _ _ _ hg)
  have fr : Fr base s2 0 0 a z (amk p) := ⟨by rw [x1, fset_s], B0, B1, B2, B3⟩
  obtain ⟨c, h3, s3, bc, H3, S3, F3⟩ := M_ev hw 8 0 n hg (Nat.le_refl n) 0 a z (amk p) h2 s2 (by decide) ha hz (amk_lt p) H2 fr B4
  have f7 : max 1 (far a z) ≤ 7 := by unfold far; omega
  have c560 : c ≤ 560 := by
    refine Nat.le_trans bc ?_
    calc 4 * (n - 0) * max 1 (far a z) ≤ 4 * 20 * 7 := Nat.mul_le_mul (Nat.mul_le_mul_left 4 (by omega)) f7
      _ = 560 := rfl
  have start : f_M_find m (nI base) (nI w) (nI a) (nI z) h = f_M_find_20 m (FU - c - 1 + 1 + c) (nI w) 0 h2 := by
    rw [show FU - c - 1 + 1 + c = FU by unfold FU; omega]
    unfold f_M_find
    rw [if_pos H.o, show (0 : Int32) = nI 0 from rfl, e1, Option.bind_some, M_allGoods H1.2.2.2.2.1, Option.bind_some]
    rw [show f_M_push m (nI base) (nI a) (nI z) (nI (amk p)) _ = some h2 from E2, Option.bind_some]
  rw [start]
  have R : evw W M p (bam b w) a z = ev W M p (bam b w) 8 0 a z (amk p) := rfl
  rw [R]
  cases hr : ev W M p (bam b w) 8 0 a z (amk p) with
  | error e =>
    rw [F3.2 e hr]
    exact ⟨h3, s3, rfl, H3, ((S1 0).trans S2).trans S3, fun q hq => (by cases hq)⟩
  | ok q =>
    obtain ⟨y26, hq, eq⟩ := F3.1 q hr
    refine ⟨h3, s3, ?_, H3, ((S1 0).trans S2).trans S3, fun r hr2 => (by cases hr2; exact hq)⟩
    rw [eq]
    show t_M_find_20 _ _ _ _ _ = _
    unfold t_M_find_20
    rw [H3.g26 y26, Option.bind_some, if_pos (by decide)]
    rfl
end
