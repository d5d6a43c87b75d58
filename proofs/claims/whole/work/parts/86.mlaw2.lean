/-! ===== the reference: backward, third ===== -/
section
variable {h : Hp} {m num n w : Nat} {p b W M : Nat → Nat} {s : St} {u l : Nat → Int64} {r : Nat → Int32}
/-- a law's answer; the worlds stay -/
def MLaw (x : Option (Int32 × Hp)) (h : Hp) (m base n : Nat) (p b W M : Nat → Nat) (s : St) (res : LR) : Prop := ∃ h' s' u' l' r', x = some (cod res, h') ∧ MX h' m base n p b W M s' ∧ MK h' m s'.1 u' l' r' ∧ MEq s.1 s'.1 ∧ MFr h h' m
def backQ (v : Nat → Nat → QR) (a z : Nat) : LR := isOneQ (qmul (v a z) (v z a))
def thirdQ (v : Nat → Nat → QR) (a z c : Nat) : LR := alikeQ (qmul (v a z) (v z c)) (v a c)
theorem M_backLaw (H : MX h m (40 * num) n p b W M s) (K : MK h m s.1 u l r) (hg : good W M 8 0 n) (hn : n ≤ 20) {a z : Nat} (hw : w < 4) (ha : a < 8) (hz : z < 8) : MLaw (f_M_backLaw m (nI num) (nI w) (nI a) (nI z) h) h m (40 * num) n p b W M s (backQ (evw W M p (bam b w)) a z) := by
  obtain ⟨h1, s1, u1, l1, r1, E1, H1, K1, V1, J1, e1, f1⟩ := M_findKept (k := 0) H K hg hn hw ha hz (by decide)
  have k1 := evw_ok W M p (bam b w) a z
  unfold f_M_backLaw backQ
  rw [if_pos H.o, show f_M_findKept m (nI num) (nI w) (nI a) (nI z) (0 : Int32) h = _ from E1, zb2_s]
  have err : ∀ {g : Hp} {e : Int32} {t : St} {u l : Nat → Int64} {r : Nat → Int32}, MX g m (40 * num) n p b W M t → MK g m t.1 u l r → qok (.error e) → f_M_backLaw_32 m e g = some (e, g) := by
    intro g e t u l r Hg Kg k
    unfold f_M_backLaw_32 f_M_backLaw_50
    rw [if_neg (qneg k), show f_M_isOneKept m g e = some e from M_isOneKept (x := .error e) Hg Kg (fun q hq => by cases hq) k]
    rfl
  cases hv : evw W M p (bam b w) a z with
  | error e =>
    rw [hv] at k1
    rw [if_neg (show ¬ (0 : Int32) ≤ mcode (.error e) from qneg k1), show f_M_backLaw_32 m (mcode (.error e)) h1 = _ from err H1 K1 k1]
    exact ⟨h1, s1, u1, l1, r1, rfl, H1, K1, e1, f1⟩
  | ok x =>
    rw [hv] at k1
    rw [if_pos (show (0 : Int32) ≤ mcode (.ok x) from (by decide : (0 : Int32) ≤ 0))]
    obtain ⟨h2, s2, u2, l2, r2, E2, H2, K2, V2, J2, e2, f2⟩ := M_findKept (k := 1) H1 K1 hg hn hw hz ha (by decide)
    have k2 := evw_ok W M p (bam b w) z a
    rw [show f_M_findKept m (nI num) (nI w) (nI z) (nI a) (1 : Int32) h1 = _ from E2, zb2_s]
    cases hv2 : evw W M p (bam b w) z a with
    | error e =>
      rw [hv2] at k2
      rw [show f_M_backLaw_32 m (mcode (.error e)) h2 = _ from err H2 K2 k2]
      exact ⟨h2, s2, u2, l2, r2, rfl, H2, K2, e1.trans e2, MFr.trans f1 f2⟩
    | ok y =>
      rw [hv2] at k2
      have x0 := V1 x hv
      have j := J2 0 (by decide)
      have x0' : kpt u2 l2 r2 0 x := ⟨j.1.trans x0.1, j.2.1.trans x0.2.1, j.2.2.trans x0.2.2⟩
      obtain ⟨h3, s3, u3, l3, r3, E3, H3, K3, V3, e3, f3⟩ := M_product H2 K2 x0' (V2 y hv2) k1 k2
      unfold f_M_backLaw_32 f_M_backLaw_50
      rw [if_pos (show (0 : Int32) ≤ mcode (.ok y) from (by decide : (0 : Int32) ≤ 0)), E3, zb2_s, M_isOneKept H3 K3 V3 (qmul_ok k1 k2)]
      exact ⟨h3, s3, u3, l3, r3, rfl, H3, K3, (e1.trans e2).trans e3, MFr.trans (MFr.trans f1 f2) f3⟩
theorem M_thirdLaw (H : MX h m (40 * num) n p b W M s) (K : MK h m s.1 u l r) (hg : good W M 8 0 n) (hn : n ≤ 20) {a z c : Nat} (hw : w < 4) (ha : a < 8) (hz : z < 8) (hc : c < 8) : MLaw (f_M_thirdLaw m (nI num) (nI w) (nI a) (nI z) (nI c) h) h m (40 * num) n p b W M s (thirdQ (evw W M p (bam b w)) a z c) := by
  obtain ⟨h1, s1, u1, l1, r1, E1, H1, K1, V1, J1, e1, f1⟩ := M_findKept (k := 0) H K hg hn hw ha hz (by decide)
  have k1 := evw_ok W M p (bam b w) a z
  unfold f_M_thirdLaw thirdQ
  rw [if_pos H.o, show f_M_findKept m (nI num) (nI w) (nI a) (nI z) (0 : Int32) h = _ from E1, zb2_s]
  have err73 : ∀ {g : Hp} {e : Int32} {t : St}, MX g m (40 * num) n p b W M t → qok (.error e) → f_M_thirdLaw_73 m e g = some (e, g) := by
    intro g e t Hg k
    unfold f_M_thirdLaw_73
    rw [M_alikeErr Hg k]
    rfl
  have err51 : ∀ {g : Hp} {e x1 x2 x3 x5 : Int32} {t : St}, MX g m (40 * num) n p b W M t → qok (.error e) → f_M_thirdLaw_51 m e x1 x2 x3 x5 g = some (e, g) := by
    intro g e x1 x2 x3 x5 t Hg k
    unfold f_M_thirdLaw_51
    rw [if_neg (qneg k), err73 Hg k]
  have err33 : ∀ {g : Hp} {e x1 x2 x3 x5 : Int32} {t : St}, MX g m (40 * num) n p b W M t → qok (.error e) → f_M_thirdLaw_33 m e x1 x2 x3 x5 g = some (e, g) := by
    intro g e x1 x2 x3 x5 t Hg k
    unfold f_M_thirdLaw_33
    rw [if_neg (qneg k), err51 Hg k]
  cases hv : evw W M p (bam b w) a z with
  | error e =>
    rw [hv] at k1
    rw [if_neg (show ¬ (0 : Int32) ≤ mcode (.error e) from qneg k1), show f_M_thirdLaw_33 m (mcode (.error e)) _ _ _ _ h1 = _ from err33 H1 k1]
    exact ⟨h1, s1, u1, l1, r1, rfl, H1, K1, e1, f1⟩
  | ok x =>
    rw [hv] at k1
    rw [if_pos (show (0 : Int32) ≤ mcode (.ok x) from (by decide : (0 : Int32) ≤ 0))]
    obtain ⟨h2, s2, u2, l2, r2, E2, H2, K2, V2, J2, e2, f2⟩ := M_findKept (k := 1) H1 K1 hg hn hw hz hc (by decide)
    have k2 := evw_ok W M p (bam b w) z c
    rw [show f_M_findKept m (nI num) (nI w) (nI z) (nI c) (1 : Int32) h1 = _ from E2, zb2_s]
    cases hv2 : evw W M p (bam b w) z c with
    | error e =>
      rw [hv2] at k2
      rw [show f_M_thirdLaw_33 m (mcode (.error e)) _ _ _ _ h2 = _ from err33 H2 k2]
      exact ⟨h2, s2, u2, l2, r2, rfl, H2, K2, e1.trans e2, MFr.trans f1 f2⟩
    | ok y =>
      rw [hv2] at k2
      have x0 := V1 x hv
      have j := J2 0 (by decide)
      have x0' : kpt u2 l2 r2 0 x := ⟨j.1.trans x0.1, j.2.1.trans x0.2.1, j.2.2.trans x0.2.2⟩
      obtain ⟨h3, s3, u3, l3, r3, E3, H3, K3, V3, e3, f3⟩ := M_product H2 K2 x0' (V2 y hv2) k1 k2
      have k3 := qmul_ok k1 k2
      unfold f_M_thirdLaw_33
      rw [if_pos (show (0 : Int32) ≤ mcode (.ok y) from (by decide : (0 : Int32) ≤ 0)), E3, zb2_s]
      cases hm : qmul (.ok x) (.ok y) with
      | error e =>
        rw [hm] at k3
        rw [show f_M_thirdLaw_51 m (mcode (.error e)) _ _ _ _ h3 = _ from err51 H3 k3]
        exact ⟨h3, s3, u3, l3, r3, rfl, H3, K3, (e1.trans e2).trans e3, MFr.trans (MFr.trans f1 f2) f3⟩
      | ok q =>
        rw [hm] at k3
        obtain ⟨h4, s4, u4, l4, r4, E4, H4, K4, V4, J4, e4, f4⟩ := M_findKept (k := 1) H3 K3 hg hn hw ha hc (by decide)
        have k4 := evw_ok W M p (bam b w) a c
        unfold f_M_thirdLaw_51
        rw [if_pos (show (0 : Int32) ≤ mcode (.ok q) from (by decide : (0 : Int32) ≤ 0)), show f_M_findKept m (nI num) (nI w) (nI a) (nI c) (1 : Int32) h3 = _ from E4, zb2_s]
        have ee := ((e1.trans e2).trans e3).trans e4
        have ff := MFr.trans (MFr.trans (MFr.trans f1 f2) f3) f4
        cases hv4 : evw W M p (bam b w) a c with
        | error e =>
          rw [hv4] at k4
          rw [show f_M_thirdLaw_73 m (mcode (.error e)) h4 = _ from err73 H4 k4]
          exact ⟨h4, s4, u4, l4, r4, rfl, H4, K4, ee, ff⟩
        | ok y2 =>
          rw [hv4] at k4
          have q0 := V3 q hm
          have j4 := J4 0 (by decide)
          have q0' : kpt u4 l4 r4 0 q := ⟨j4.1.trans q0.1, j4.2.1.trans q0.2.1, j4.2.2.trans q0.2.2⟩
          obtain ⟨h5, s5, E5, H5, K5, e5, f5⟩ := M_alikeKept H4 K4 q0' (V4 y2 hv4) k3 k4
          unfold f_M_thirdLaw_73
          rw [show f_M_alikeKept m (mcode (.ok y2)) h4 = _ from E5, zb2_s]
          exact ⟨h5, s5, u4, l4, r4, rfl, H5, K5, ee.trans e5, MFr.trans ff f5⟩
end
