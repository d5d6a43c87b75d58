/-! ===== sims: feed, number ===== -/
theorem fe_u {x : Int64} {s : UInt64} {d : Nat} (hs : s.toNat = d) (hd : d < 64) (i : Nat) : ((x.toUInt64 >>> s).toInt64).toBitVec.getLsbD i = x.toBitVec.getLsbD (d + i) := by
  have e : ((x.toUInt64 >>> s).toInt64).toBitVec = x.toBitVec >>> d := by
    show (x.toUInt64 >>> s).toBitVec = _
    rw [UInt64.toBitVec_shiftRight]
    show x.toBitVec >>> (s.toBitVec % 64) = _
    show x.toBitVec >>> (s.toBitVec % 64).toNat = _
    congr 1
    rw [BitVec.toNat_umod]
    show s.toNat % 64 = d
    rw [hs]
    omega
  rw [e, BitVec.getLsbD_ushiftRight]
theorem fe_s {x D : Int64} {d : Nat} (hD : (D.toBitVec.smod 64).toNat = d) {i : Nat} (hi : d + i < 64) : (x >>> D).toBitVec.getLsbD i = x.toBitVec.getLsbD (d + i) := by
  rw [Int64.toBitVec_shiftRight, BitVec.sshiftRight_eq', hD, BitVec.getLsbD_sshiftRight]
  have h1 : ¬ 64 ≤ i := by omega
  simp only [h1, decide_false, Bool.not_false, Bool.true_and]
  rw [if_pos hi]
theorem fe_255 {i : Nat} (hi : i < 32) : (255 : Int32).toBitVec.getLsbD i = decide (i < 8) ∧ (255 : Int64).toBitVec.getLsbD i = decide (i < 8) := by
  have : ∀ i, i < 32 → (255 : Int32).toBitVec.getLsbD i = decide (i < 8) ∧ (255 : Int64).toBitVec.getLsbD i = decide (i < 8) := by decide +kernel
  exact this i hi
theorem fe_and {y z : Int64} (h : ∀ i, i < 8 → y.toBitVec.getLsbD i = z.toBitVec.getLsbD i) : y.toInt32 &&& 255 = (z &&& 255).toInt32 := by
  apply Int32.toBitVec_inj.mp
  apply BitVec.eq_of_getLsbD_eq
  intro i hi
  obtain ⟨a, b⟩ := fe_255 hi
  rw [Int32.toBitVec_and, Int64.toBitVec_toInt32, Int64.toBitVec_toInt32, Int64.toBitVec_and, BitVec.getLsbD_and, BitVec.getLsbD_signExtend, BitVec.getLsbD_signExtend, if_pos (show i < 64 by omega), if_pos (show i < 64 by omega), BitVec.getLsbD_and, a, b, decide_eq_true hi, Bool.true_and, Bool.true_and]
  by_cases c : i < 8
  · rw [h i c, decide_eq_true c, Bool.and_true]
  · rw [decide_eq_false c, Bool.and_false, Bool.and_false]
theorem fe_amt : ∀ k, k < 8 → ((((8 : Int32) * nI k)).toInt64.toUInt64 &&& Int64.toUInt64 63).toNat = 8 * k ∧ ((((8 : Int32) * nI k).toInt64 &&& (63 : Int64)).toBitVec.smod 64).toNat = 8 * k := by decide +kernel
theorem fe_v (y : Int32) : ∃ v, v < 256 ∧ y &&& 255 = nI v := by
  refine ⟨(y &&& 255).toBitVec.toNat, ?_, ?_⟩
  · rw [Int32.toBitVec_and, BitVec.toNat_and]
    exact Nat.lt_of_le_of_lt Nat.and_le_right (by decide)
  · unfold nI
    apply Int32.toBitVec_inj.mp
    show _ = BitVec.ofNat 32 _
    rw [BitVec.ofNat_toNat, BitVec.setWidth_eq]
/-- a byte told, on both sides -/
theorem fe_byte (x : Int64) {k : Nat} (hk : k < 8) : ∃ v, v < 256 ∧ (((x.toUInt64 >>> ((((8 : Int32) * nI k)).toInt64.toUInt64 &&& Int64.toUInt64 63)).toInt64).toInt32 &&& (255 : Int32)) = nI v ∧ ((x >>> ((((8 : Int32) * nI k)).toInt64 &&& 63)) &&& (255 : Int64)).toInt32 = nI v := by
  obtain ⟨a, b⟩ := fe_amt k hk
  obtain ⟨v, hv, e⟩ := fe_v ((x.toUInt64 >>> ((((8 : Int32) * nI k)).toInt64.toUInt64 &&& Int64.toUInt64 63)).toInt64).toInt32
  refine ⟨v, hv, e, ?_⟩
  rw [← e]
  exact (fe_and fun i hi => by rw [fe_u a (by omega) i, fe_s b (by omega)]).symm
section
variable {S m mk : Nat} {T : Nt} {p q pr br tx : Nat → Nat} {len : Nat} {lf : Int32} {F F' : Nat → Value}
theorem R_append {h : Hp} {R v : Nat} (H : RZ h R tx len) (hl : len < 60) (hv : v < 256) : ∃ h', f_R_append R (nI v) h = some h' ∧ RZ h' R (nup tx len v) (len + 1) ∧ ∀ c, c ≠ R → c ≠ R + 1 → h' c = h c := by
  obtain ⟨⟨x2, x3, x4, x5, a⟩, b, c, d⟩ := H
  obtain ⟨e, E, I⟩ := b.set (k := len) (v := v) hl (by decide)
  have a2 : (hup h (R + 1) e) R = some (.inr (5, [.ref (R + 1), .int (nI len), .int x2, .int x3, .int x4, x5])) := by rw [hup_n (by omega)]; exact a
  refine ⟨hup (hup h (R + 1) e) R (.inr (5, [.ref (R + 1), .int (nI (len + 1)), .int x2, .int x3, .int x4, x5])), ?_, ⟨⟨x2, x3, x4, x5, hup_s⟩, I.up (by omega), by omega, fun j hj => ?_⟩, fun c x y => by rw [hup_n x, hup_n y]⟩
  · unfold f_R_append
    rw [if_pos (by simp [isO, a]), show gI h R 5 1 = some (nI len) by simp [gI, gV, a], show gA h R 5 0 = some (some (R + 1)) by simp [gA, gV, a]]
    simp only [Option.bind_some]
    rw [if_neg (nI_pos (by omega)), if_neg (show ¬ (60 : Int32) ≤ nI len from nI_ge (b := 60) hl (by decide)), E]
    simp only [Option.bind_some]
    rw [show gI (hup h (R + 1) e) R 5 1 = some (nI len) by simp [gI, gV, a2]]
    simp only [Option.bind_some]
    rw [nI_1, show pV (hup h (R + 1) e) R 5 1 (.int (nI (len + 1))) = some (hup (hup h (R + 1) e) R (.inr (5, [.ref (R + 1), .int (nI (len + 1)), .int x2, .int x3, .int x4, x5]))) by simp [pV, a2]]
    rfl
  · unfold nup
    split
    · exact hv
    · exact d j (by omega)
/-- the text grows on the class's side -/
theorem CI.text {h h' : Hp} {tx' : Nat → Nat} {len' : Nat} (H : CI h S mk T p q pr br tx len lf) (hm : mk ≤ 8) (R : RZ h' (S + 32) tx' len') (e : ∀ c, c ≠ S + 32 → c ≠ S + 33 → h' c = h c) : CI h' S mk T p q pr br tx' len' lf := by
  obtain ⟨a, ⟨PF, b1, b2⟩, c, d, f, ⟨g1, g2⟩, i, A, j⟩ := H
  obtain ⟨pl, w, t, rc, FF, V, F49, oF, oT, P⟩ := d
  have e' : ∀ c, c < S + 32 ∨ S + 34 ≤ c → h' c = h c := fun c hc => e c (by omega) (by omega)
  obtain ⟨vb, ⟨pt, qt, tr⟩, z, l, u, v, k, x, y⟩ := V
  exact ⟨by rw [e' _ (by omega)]; exact a, ⟨PF, by rw [e' _ (by omega)]; exact b1, b2⟩, fun k hk => by
    obtain ⟨s, WF, MF, X⟩ := c k hk
    exact ⟨s, WF, MF, X.cong fun c _ _ => e' c (by omega)⟩, ⟨pl, w, t, rc, FF, ⟨vb.cong fun c _ _ => e' c (by omega), ⟨pt, qt, tr.cong fun c _ _ => e' c (by omega)⟩, z.cong fun c _ _ => e' c (by omega), by rw [e' _ (by omega)]; exact l, by rw [e' _ (by omega)]; exact u, by rw [e' _ (by omega)]; exact v, by rw [e' _ (by omega)]; exact k, x.cong (e' _ (by omega)), y.cong (e' _ (by omega))⟩, by rw [e' _ (by omega)]; exact F49, oF, oT, P.cong hm fun c _ _ => e' c (by omega)⟩, R, ⟨g1.cong (e' _ (by omega)), g2.cong (e' _ (by omega))⟩, i.cong fun c _ _ => e' c (by omega), A, by rw [e' _ (by omega)]; exact j⟩
theorem Y_feed_loop (hm : mk ≤ 8) (x : Int64) : ∀ (k f : Nat) (h : Hp) (tx : Nat → Nat) (len : Nat), k ≤ 8 → len + k ≤ 60 → CI h S mk T p q pr br tx len lf → ∃ h' tx', f_Y_feed_38 S (f + k + 1) x (nI k - 1) h = some (nI (len + k), h') ∧ CI h' S mk T p q pr br tx' (len + k) lf ∧ (∀ c, S + 59 ≤ c → h' c = h c) ∧ (∀ (g : Hp) (F : Nat → Value) (m : Nat), MI g m mk T pr br tx len lf F → ∃ g' F', f_M_feed_36 m (f + k + 1) x (nI k - 1) g = some (nI (len + k), g') ∧ MI g' m mk T pr br tx' (len + k) lf F' ∧ ∀ c, c < m → g' c = g c) := by
  intro k
  induction k with
  | zero =>
    intro f h tx len _ hl H
    obtain ⟨a0, a1, a2, a3, -⟩ := H.a
    obtain ⟨x2, x3, x4, x5, r0⟩ := H.2.2.2.2.1.1
    refine ⟨h, tx, ?_, H, fun _ _ => rfl, fun g F m Mg => ⟨g, F, ?_, Mg, fun _ _ => rfl⟩⟩
    · show t_Y_feed_38 _ _ _ _ _ = _
      unfold t_Y_feed_38
      rw [if_pos (by decide), a3]
      simp only [Option.bind_some]
      rw [show gI h (S + 32) 5 1 = some (nI len) by simp [gI, gV, r0]]
      rfl
    · show t_M_feed_36 _ _ _ _ _ = _
      unfold t_M_feed_36
      obtain ⟨t, mr⟩ := Mg.2.2.2.2.2.2.1
      rw [if_pos (by decide), oc_i Mg.1.1 (by decide) mr.2.1.2.2.2.2.2]
      rfl
  | succ k ih =>
    intro f h tx len hk hl H
    obtain ⟨a0, a1, a2, a3, -⟩ := H.a
    obtain ⟨v, hv, e1, e2⟩ := fe_byte x (show k < 8 by omega)
    obtain ⟨h1, E1, R1, fr1⟩ := R_append H.2.2.2.2.1 (show len < 60 by omega) hv
    have C1 := H.text hm R1 fr1
    obtain ⟨h', tx', E2, C2, fr2, mm⟩ := ih f h1 _ (len + 1) (by omega) (by omega) C1
    rw [show len + 1 + k = len + (k + 1) by omega] at E2 C2 mm
    have st : nI (k + 1) - 1 + (-1 : Int32) = nI k - 1 := by
      rw [nI_pred, Int32.sub_eq_add_neg]
    refine ⟨h', tx', ?_, C2, fun c hc => by rw [fr2 c hc, fr1 c (by omega) (by omega)], fun g F m Mg => ?_⟩
    · rw [← E2]
      show t_Y_feed_38 _ (f_Y_feed_38 S (f + k + 1)) _ _ _ = _
      unfold t_Y_feed_38
      rw [st, nI_pred, if_neg (nI_pos (by omega)), a3]
      simp only [Option.bind_some]
      rw [e1, E1]
      rfl
    · obtain ⟨⟨y0, y1, y2, y3⟩, b, c, ⟨s, d1, d2⟩, ⟨u, l, r, kk⟩, w, ⟨t, mr⟩, f2, f7, xx⟩ := Mg
      obtain ⟨-, ⟨m3, m4, m5, m10, m11, m6⟩, it, il, ib, i3, i4, i6, i7⟩ := mr
      obtain ⟨e, E, I⟩ := it.set (k := len) (v := v) (by omega) (by decide)
      have g0 : (hup g (m + 5) e) m = some (ocell 8 40 F) := by rw [hup_n (by omega)]; exact y0
      have n6 : ∀ j, j ≠ 6 → fset F 6 (.int (nI (len + 1))) j = F j := fun j hj => fset_n hj
      have oth : ∀ c, c ≠ m → c ≠ m + 5 → (hup (hup g (m + 5) e) m (ocell 8 40 (fset F 6 (.int (nI (len + 1)))))) c = g c := fun c x y => by rw [hup_n x, hup_n y]
      have M1 : MI (hup (hup g (m + 5) e) m (ocell 8 40 (fset F 6 (.int (nI (len + 1)))))) m mk T pr br (nup tx len v) (len + 1) lf (fset F 6 (.int (nI (len + 1)))) := by
        have yR : mRef (fset F 6 (.int (nI (len + 1)))) m := ⟨by rw [n6 0 (by decide)]; exact y1.1, by rw [n6 1 (by decide)]; exact y1.2.1, by rw [n6 3 (by decide)]; exact y1.2.2.1, by rw [n6 4 (by decide)]; exact y1.2.2.2.1, fun k hk => by rw [n6 (18 + k) (by omega)]; exact y1.2.2.2.2 k hk⟩
        obtain ⟨⟨ka, kb, kc⟩, kd, ke, kf⟩ := kk
        obtain ⟨wa, wb, p0, b0, ⟨W1, wc, wd⟩, ⟨W2, we, wf⟩⟩ := w
        refine ⟨⟨hup_s, yR, mTy_set y2 (by decide), by rw [n6 17 (by decide)]; exact y3⟩, MB.of hup_s yR (b.2.1.cong (oth _ (by omega) (by omega))) (b.2.2.1.cong (oth _ (by omega) (by omega))) b.2.2.2.1 b.2.2.2.2, fun n hn => ?_, ⟨(fset F 6 (.int (nI (len + 1))), s.2), rfl, d2.cong fun c _ _ => oth c (by omega) (by omega)⟩, ⟨u, l, r, ⟨by rw [n6 28 (by decide)]; exact ka, by rw [n6 29 (by decide)]; exact kb, by rw [n6 30 (by decide)]; exact kc⟩, by rw [oth _ (by omega) (by omega)]; exact kd, by rw [oth _ (by omega) (by omega)]; exact ke, by rw [oth _ (by omega) (by omega)]; exact kf⟩, ⟨by rw [n6 31 (by decide)]; exact wa, by rw [n6 32 (by decide)]; exact wb, p0, b0, ⟨W1, by rw [oth _ (by omega) (by omega)]; exact wc, wd⟩, ⟨W2, by rw [oth _ (by omega) (by omega)]; exact we, wf⟩⟩, ⟨t, hup_s, ⟨by rw [n6 3 (by decide)]; exact m3, by rw [n6 4 (by decide)]; exact m4, by rw [n6 5 (by decide)]; exact m5, by rw [n6 10 (by decide)]; exact m10, by rw [n6 11 (by decide)]; exact m11, fset_s⟩, I.up (by omega), by omega, fun j hj => ?_, by rw [oth _ (by omega) (by omega)]; exact i3, by rw [oth _ (by omega) (by omega)]; exact i4, by rw [oth _ (by omega) (by omega)]; exact i6, by rw [oth _ (by omega) (by omega)]; exact i7⟩, by rw [n6 2 (by decide)]; exact f2, by rw [n6 7 (by decide)]; exact f7, xx.cong (fun c _ _ => oth c (by omega) (by omega)) (fun k _ _ => n6 k (by omega))⟩
        · obtain ⟨z0, KF, MF, z1, z2, z3⟩ := c n hn
          exact ⟨z0, KF, MF, by rw [oth _ (by omega) (by omega)]; exact z1, by rw [oth _ (by omega) (by omega)]; exact z2, z3⟩
        · unfold nup
          split
          · exact hv
          · exact ib j (by omega)
      obtain ⟨g', F', G1, G2, G3⟩ := mm _ _ _ M1
      refine ⟨g', F', ?_, G2, fun c hc => by rw [G3 c hc, oth c (by omega) (by omega)]⟩
      rw [← G1]
      show t_M_feed_36 _ (f_M_feed_36 m (f + k + 1)) _ _ _ = _
      unfold t_M_feed_36
      rw [st, nI_pred, if_neg (nI_pos (by omega)), oc_a y0 (by decide) m5, oc_i y0 (by decide) m6]
      simp only [Option.bind_some]
      rw [e2, E]
      simp only [Option.bind_some]
      rw [oc_i g0 (by decide) m6]
      simp only [Option.bind_some]
      rw [nI_1, oc_p g0 (by decide)]
      rfl
end
