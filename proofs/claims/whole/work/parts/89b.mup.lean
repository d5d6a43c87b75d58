/-! ===== the reference: up ===== -/
theorem nup_back {p : Nat → Nat} {k v w : Nat} (h : p k = v) : nup (nup p k w) k v = p := by
  funext j
  unfold nup
  by_cases c : j = k
  · rw [if_pos c, c, h]
  · rw [if_neg c, if_neg c]
def upQ (W M p : Nat → Nat) (am : Nat → Nat → Nat) (a z g : Nat) : LR := if p (z * 5 + g) = 0 then .error eNOT else match evw W M p am a z with
  | .error e => .error e
  | .ok x => match evw W M (nup p (z * 5 + g) (p (z * 5 + g) + 1)) am a z with
    | .error e => .error e
    | .ok y => match qord x y with
      | .error _ => .error eLARGE
      | .ok o => .ok (decide (¬ 0 < o))
section
variable {h : Hp} {m num n w : Nat} {p b W M : Nat → Nat} {s : St} {u l : Nat → Int64} {r : Nat → Int32}
theorem M_upLaw (H : MX h m (40 * num) n p b W M s) (K : MK h m s.1 u l r) (hg : good W M 8 0 n) (hn : n ≤ 20) {a z g : Nat} (hw : w < 4) (ha : a < 8) (hz : z < 8) (hg5 : g < 5) (h99 : p (z * 5 + g) ≤ 99) : MLaw (f_M_upLaw m (nI num) (nI w) (nI a) (nI z) (nI g) h) h m (40 * num) n p b W M s (upQ W M p (bam b w) a z g) := by
  have mb := H.2.2.2.2.1
  unfold f_M_upLaw upQ
  rw [if_pos H.o, mb.g0]
  simp only [Option.bind_some]
  rw [M_price mb (by omega) hg5]
  simp only [Option.bind_some]
  generalize hv : p (z * 5 + g) = v at *
  by_cases v0 : v = 0
  · rw [if_pos ((nI_eq0 (by omega)).mpr v0), if_pos v0]
    exact ⟨h, s, u, l, r, rfl, H, K, fun _ _ _ _ _ _ _ => rfl, fun _ _ => rfl⟩
  · rw [if_neg (fun e => v0 ((nI_eq0 (by omega)).mp e)), if_neg v0]
    obtain ⟨h1, s1, u1, l1, r1, E1, H1, K1, V1, J1, e1, f1⟩ := M_findKept (k := 0) H K hg hn hw ha hz (by decide)
    have k1 := evw_ok W M p (bam b w) a z
    obtain ⟨c2, E2, H2⟩ := H1.setp (k := z * 5 + g) (v := v + 1) (by omega) (by omega)
    have K2 : MK (hup h1 (m + 1) c2) m s1.1 u1 l1 r1 := K1.cong (fun c _ _ => hup_n (by omega)) fun _ _ _ _ _ _ _ => rfl
    rw [show f_M_findKept m (nI num) (nI w) (nI a) (nI z) (0 : Int32) h = _ from E1, zb2_s, H1.2.2.2.2.1.g0]
    simp only [Option.bind_some]
    rw [M_price H1.2.2.2.2.1 (by omega) hg5, hv]
    simp only [Option.bind_some]
    rw [mx5, nI_1, E2]
    simp only [Option.bind_some]
    have fr2 : MFr h (hup h1 (m + 1) c2) m := fun c hc => by rw [hup_n (by omega), f1 c hc]
    -- the price goes back
    have back : ∀ {g1 : Hp} {t : St} {u l : Nat → Int64} {r : Nat → Int32} {x : Int32}, MX g1 m (40 * num) n (nup p (z * 5 + g) (v + 1)) b W M t → MK g1 m t.1 u l r → ∃ g2, f_M_upLaw_67 m x (nI z) (nI g) g1 = (if 0 ≤ x then zb2 (f_M_orderKept m 0 1 g2) fun i14 h15 => f_M_upLaw_101 m i14 h15 else f_M_upLaw_101 m x g2) ∧ MX g2 m (40 * num) n p b W M t ∧ MK g2 m t.1 u l r ∧ ∀ c, c ≠ m + 1 → g2 c = g1 c := by
      intro g1 t u l r x Hg Kg
      obtain ⟨c3, E3, H3⟩ := Hg.setp (k := z * 5 + g) (v := v) (by omega) (by omega)
      rw [nup_back hv] at H3
      refine ⟨_, ?_, H3, Kg.cong (fun c _ _ => hup_n (by omega)) (fun _ _ _ _ _ _ _ => rfl), fun c hc => hup_n hc⟩
      unfold f_M_upLaw_67
      rw [Hg.2.2.2.2.1.g0]
      simp only [Option.bind_some]
      rw [M_price Hg.2.2.2.2.1 (by omega) hg5, nup_s]
      simp only [Option.bind_some]
      rw [mx5, nI_pred, E3]
      rfl
    cases hx : evw W M p (bam b w) a z with
    | error e =>
      rw [hx] at k1
      rw [if_neg (show ¬ (0 : Int32) ≤ mcode (.error e) from qneg k1)]
      obtain ⟨g2, G1, G2, G3, G4⟩ := back (x := mcode (.error e)) H2 K2
      rw [G1, if_neg (show ¬ (0 : Int32) ≤ mcode (.error e) from qneg k1)]
      unfold f_M_upLaw_101
      rw [if_neg (show ¬ (0 : Int32) ≤ mcode (.error e) from qneg k1)]
      exact ⟨g2, s1, u1, l1, r1, rfl, G2, G3, e1, MFr.trans fr2 fun c hc => G4 c (by omega)⟩
    | ok x =>
      rw [hx] at k1
      rw [if_pos (show (0 : Int32) ≤ mcode (.ok x) from (by decide : (0 : Int32) ≤ 0))]
      obtain ⟨h3, s3, u3, l3, r3, E3, H3, K3, V3, J3, e3, f3⟩ := M_findKept (k := 1) H2 K2 hg hn hw ha hz (by decide)
      have k3 := evw_ok W M (nup p (z * 5 + g) (v + 1)) (bam b w) a z
      rw [show f_M_findKept m (nI num) (nI w) (nI a) (nI z) (1 : Int32) (hup h1 (m + 1) c2) = _ from E3, zb2_s]
      obtain ⟨g2, G1, G2, G3, G4⟩ := back (x := mcode (evw W M (nup p (z * 5 + g) (v + 1)) (bam b w) a z)) H3 K3
      have fr4 : MFr h g2 m := MFr.trans (MFr.trans fr2 f3) fun c hc => G4 c (by omega)
      rw [G1]
      cases hy : evw W M (nup p (z * 5 + g) (v + 1)) (bam b w) a z with
      | error e =>
        rw [hy] at k3
        rw [if_neg (show ¬ (0 : Int32) ≤ mcode (.error e) from qneg k3)]
        unfold f_M_upLaw_101
        rw [if_neg (show ¬ (0 : Int32) ≤ mcode (.error e) from qneg k3)]
        exact ⟨g2, s3, u3, l3, r3, rfl, G2, G3, e1.trans e3, fr4⟩
      | ok y =>
        rw [hy] at k3
        rw [if_pos (show (0 : Int32) ≤ mcode (.ok y) from (by decide : (0 : Int32) ≤ 0))]
        have x0 := V1 x hx
        have j := J3 0 (by decide)
        have x0' : kpt u3 l3 r3 0 x := ⟨j.1.trans x0.1, j.2.1.trans x0.2.1, j.2.2.trans x0.2.2⟩
        obtain ⟨h5, s5, E5, H5, K5, z5, e5, f5⟩ := M_alike G2 G3 x0' (V3 y hy) k1 k3
        rw [E5, zb2_s]
        unfold f_M_upLaw_101
        rcases qord_cs x y with c | ⟨i, q, c⟩
        · rw [c, if_neg (by decide)]
          dsimp only
          rw [c]
          exact ⟨h5, s5, u3, l3, r3, rfl, H5, K5, (e1.trans e3).trans e5, MFr.trans fr4 f5⟩
        · rw [c, if_pos (show (0 : Int32) ≤ ocode (.ok (cmp3 i q)) from (by decide : (0 : Int32) ≤ 0)), oc_i H5.1 (by decide) (z5 _ c), Option.bind_some]
          dsimp only
          rw [c]
          dsimp only
          by_cases d : 0 < cmp3 i q
          · rw [if_pos d, decide_eq_false (fun x => x d)]
            exact ⟨h5, s5, u3, l3, r3, rfl, H5, K5, (e1.trans e3).trans e5, MFr.trans fr4 f5⟩
          · rw [if_neg d, decide_eq_true d]
            exact ⟨h5, s5, u3, l3, r3, rfl, H5, K5, (e1.trans e3).trans e5, MFr.trans fr4 f5⟩
end
