/-! ===== the reference: twice ===== -/
def twiceQ (W M p : Nat → Nat) (am : Nat → Nat → Nat) (a z : Nat) : LR := match evw W M p am a z with
  | .error e => .error e
  | .ok x => match evw W M (dbn p z 5) am a z with
    | .error e => .error e
    | .ok y => alikeQ (qdbl (.ok x)) (.ok y)
section
variable {h : Hp} {m num n w : Nat} {p b W M : Nat → Nat} {s : St} {u l : Nat → Int64} {r : Nat → Int32}
theorem M_124e {e : Int32} (H : MX h m (40 * num) n p b W M s) (K : MK h m s.1 u l r) (k : qok (.error e)) : ∃ h' u' l' r', f_M_twiceLaw_124 m e h = some (e, h') ∧ MX h' m (40 * num) n p b W M s ∧ MK h' m s.1 u' l' r' ∧ ∀ c, ¬ (m + 16 ≤ c ∧ c < m + 19) → h' c = h c := by
  obtain ⟨U, L, T, t1, t2, t3⟩ := H.2.2.1
  obtain ⟨h2, u', l', r', E2, H2, K2, -, -, F2⟩ := M_keep (q := (U, L, T)) (k := 0) H K (by decide) ⟨t1, t2, t3⟩
  refine ⟨h2, u', l', r', ?_, H2, K2, F2⟩
  unfold f_M_twiceLaw_124
  rw [show f_M_keep m 0 h = some h2 from E2, Option.bind_some, M_alikeErr H2 k]
  rfl
theorem M_114 {x y : Nat × Nat × Bool} {f : Nat} (H : MX h m (40 * num) n p b W M s) (K : MK h m s.1 u l r) (h0 : kpt u l r 0 x) (h1 : kpt u l r 1 y) (k1 : qok (.ok x)) (k2 : qok (.ok y)) (hf : f = if x.2.2 then 4 else 2) : MLaw (f_M_twiceLaw_114 m (lN x.1) (lN x.2.1) (lN f) h) h m (40 * num) n p b W M s (alikeQ (qdbl (.ok x)) (.ok y)) := by
  obtain ⟨g28, g29, g30, a0, a1, a2⟩ := K.gu H (k := 0) (by decide)
  rw [h0.2.2] at a2
  have f4 : f ≤ 4 := by rw [hf]; split <;> omega
  have kf : qok (.ok (f, 1, x.2.2)) := ⟨Nat.gcd_one_right f, Nat.one_pos, by show f ≤ qM; rw [qM_eq]; omega, by show 1 ≤ qM; rw [qM_eq]; omega⟩
  obtain ⟨F', E, R⟩ := M_multiply (t := x.2.2) H.1 H.2.2.1 k1 kf
  have mh := R.mh H.2.2.2.1
  obtain ⟨H1, -⟩ := H.res mh
  have K1 : MK (hup h m (ocell 8 40 F')) m F' u l r := K.cong (fun c _ _ => hup_n (by omega)) mh.meq
  obtain ⟨U, L, T, t1, t2, t3⟩ := mh.2.2.1
  obtain ⟨h2, u', l', r', E2, H2, K2, P2, J2, F2⟩ := M_keep (q := (U, L, T)) (k := 0) H1 K1 (by decide) ⟨t1, t2, t3⟩
  have ed : qmk (x.1 * f) (x.2.1 * 1) x.2.2 = qdbl (.ok x) := by rw [hf, Nat.mul_one]; rfl
  have kd := qdbl_ok k1
  have fr : MFr h h2 m := fun c hc => by rw [F2 c (by omega), hup_n (by omega)]
  unfold f_M_twiceLaw_114
  rw [g30, Option.bind_some, Option.bind_some, show aI h 2 (m + 18) 0 = some (bI x.2.2) from a2, Option.bind_some, show f_M_multiply m (lN x.1) (lN x.2.1) (lN f) (1 : Int64) (bI x.2.2) h = _ from E, zb2_s, ed]
  rw [ed] at mh
  unfold f_M_twiceLaw_124
  rw [show f_M_keep m 0 _ = some h2 from E2, Option.bind_some]
  cases hd : qdbl (.ok x) with
  | error e =>
    rw [hd] at kd
    rw [show f_M_alikeKept m (mcode (.error e)) h2 = _ from M_alikeErr H2 kd, zb2_s]
    exact ⟨h2, _, u', l', r', rfl, H2, K2, mh.meq, fr⟩
  | ok q =>
    rw [hd] at kd mh
    have v := mh.2.2.2 q rfl
    have e1 : lN U = lN q.1 := by have := t1.symm.trans v.1; injection this
    have e2 : lN L = lN q.2.1 := by have := t2.symm.trans v.2.1; injection this
    have e3 : bI T = bI q.2.2 := by have := t3.symm.trans v.2.2; injection this
    have q0 : kpt u' l' r' 0 q := ⟨P2.1.trans e1, P2.2.1.trans e2, P2.2.2.trans e3⟩
    have j := J2 1 (by decide)
    have q1 : kpt u' l' r' 1 y := ⟨j.1.trans h1.1, j.2.1.trans h1.2.1, j.2.2.trans h1.2.2⟩
    obtain ⟨h5, s5, E5, H5, K5, e5, f5⟩ := M_alikeKept H2 K2 q0 q1 kd k2
    rw [show f_M_alikeKept m (mcode (.ok q)) h2 = _ from E5, zb2_s]
    exact ⟨h5, s5, u', l', r', rfl, H5, K5, mh.meq.trans e5, MFr.trans fr f5⟩
end
