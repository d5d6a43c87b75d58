/-! ===== the reference: join ===== -/
theorem JN.up {x : Option (Int32 × Hp)} {h : Hp} {m : Nat} {F F1 : Nat → Value} {r : QR} (e : ∀ k, k ≠ 14 → k ≠ 15 → k ≠ 16 → k ≠ 17 → F1 k = F k) (H : JN x (hup h m (ocell 8 40 F1)) m F1 r) : JN x h m F r := by
  obtain ⟨F', g, h1, h2⟩ := H
  exact ⟨F', by rw [g, hup_u], fun k a b c d => by rw [h1 k a b c d, e k a b c d], h2⟩
theorem JN.zb {x : Option (Int32 × Hp)} {h : Hp} {m : Nat} {F : Nat → Value} {r : QR} (H : JN x h m F r) : JN (zb2 x fun i h' => some (i, h')) h m F r := by
  obtain ⟨F', e, g⟩ := H
  exact ⟨F', by rw [e]; rfl, g⟩
section
variable {h : Hp} {m base n : Nat} {p b W M : Nat → Nat} {s : St} {q : Nat × Nat × Bool}
theorem M_join (H : MX h m base n p b W M s) {i f : Nat} {a : Nat × Nat × Bool} (hi : i < n) (hW : 6 ≤ W i) (hW2 : W i < 10) (hf : f < 8) (i0 : s.2.1 0 f = nI (base + i)) (e : hnd s.1 q) (ha : has s f a) (k1 : qok (.ok a)) (k2 : qok (.ok q)) : JN (f_M_join m (nI f) h) h m s.1 (pair (W i) a q) := by
  unfold f_M_join
  rw [if_pos H.o, show gA h m 8 23 = some (some (m + 13 + 0)) from H.r (k := 5) (by decide), show gA h m 8 24 = some (some (m + 13 + 1)) from H.r (k := 6) (by decide), show gA h m 8 18 = some (some (m + 8 + 0)) from H.r (k := 0) (by decide), H.r3]
  simp only [Option.bind_some]
  rw [H.gl (by decide) hf, H.gl (by decide) hf, H.gi (by decide) hf, ha.1, ha.2.1, i0]
  simp only [Option.bind_some]
  rw [H.kw hi]
  simp only [Option.bind_some]
  by_cases c6 : W i = 6
  · rw [if_pos (show nI (W i) = (6 : Int32) by rw [c6]; rfl)]
    exact M_join42 H (Or.inl c6) hf e ha k1 k2
  · have n6 : ¬ nI (W i) = (6 : Int32) := fun x => c6 ((nI_eq (by omega) (by decide)).mp (show nI (W i) = nI 6 from x))
    rw [if_neg n6]
    by_cases c7 : W i = 7
    · rw [if_pos (show nI (W i) = (7 : Int32) by rw [c7]; rfl)]
      exact M_join42 H (Or.inr c7) hf e ha k1 k2
    · have n7 : ¬ nI (W i) = (7 : Int32) := fun x => c7 ((nI_eq (by omega) (by decide)).mp (show nI (W i) = nI 7 from x))
      rw [if_neg n7, H.h14 e]
      simp only [Option.bind_some]
      rw [H.h15 e]
      simp only [Option.bind_some]
      rw [H.h16 e]
      simp only [Option.bind_some]
      rw [show gA h m 8 25 = some (some (m + 15)) from H.r (k := 7) (by decide)]
      simp only [Option.bind_some]
      rw [H.gz hf, ha.2.2]
      simp only [Option.bind_some]
      obtain ⟨F1, E1, O1⟩ := M_orderOf H.1 H.2.2.1 H.2.2.2.1 k1 k2
      rw [E1, zb2_s]
      have hz : gA (hup h m (ocell 8 40 F1)) m 8 25 = some (some (m + 15)) := by
        have := H.2.1.2.2.2.2 7 (by decide)
        exact oc_a hup_s (by decide) (by rw [O1.1 25 (by decide) (by decide) (by decide) (by decide)]; exact this)
      have hg : aI (hup h m (ocell 8 40 F1)) 2 (m + 15) (nI f) = some (bI a.2.2) := by
        rw [ai_get (n := 8) (F := s.2.2.2) (by rw [hup_n (by omega)]; exact H.2.2.2.2.2.2.2.2) hf (by decide), ha.2.2]
      have pick : ∀ x : Bool, JN (f_M_join_257 m (bI x) (nI f) (lN a.1) (lN a.2.1) (lN q.1) (lN q.2.1) (bI q.2.2) (hup h m (ocell 8 40 F1))) h m s.1 (if x then .ok a else .ok q) := fun x => JN.up O1.1 (M_257 (t := a.2.2) (r := q.2.2) hup_s O1.2.2.1 hz hg k1 k2)
      have bad : qord a q = .error eLARGE → JN (some (eLARGE, hup h m (ocell 8 40 F1))) h m s.1 (.error eLARGE) := fun _ => ⟨F1, rfl, O1.1, O1.2.2.1, O1.2.1, fun q e => by cases e⟩
      unfold pair
      rw [qord_sw a q]
      rcases (by omega : W i = 8 ∨ W i = 9) with c | c
      · rw [if_pos c]
        rcases qord_cs a q with g | ⟨x, y, g⟩
        · rw [g]
          exact bad g
        · have z17 := O1.2.2.2 _ g
          rw [g, if_pos (show (0 : Int32) ≤ ocode (.ok (cmp3 x y)) from (by decide : (0 : Int32) ≤ 0)), if_pos (show nI (W i) = (8 : Int32) by rw [c]; rfl), oc_i hup_s (by decide) z17]
          simp only [Option.bind_some]
          rcases cmp3_cs x y with o | o | o
          · rw [o, if_neg (by decide), if_neg (by decide)]
            exact pick true
          · rw [o, if_neg (by decide), if_neg (by decide)]
            exact pick true
          · rw [o, if_pos (by decide), if_pos (by decide)]
            exact pick false
      · rw [if_neg (show ¬ W i = 8 by omega), if_pos c]
        rcases qord_cs a q with g | ⟨x, y, g⟩
        · rw [g]
          exact bad g
        · have z17 := O1.2.2.2 _ g
          rw [g, if_pos (show (0 : Int32) ≤ ocode (.ok (cmp3 x y)) from (by decide : (0 : Int32) ≤ 0)), if_neg (show ¬ nI (W i) = (8 : Int32) by rw [c]; decide), oc_i hup_s (by decide) z17]
          simp only [Option.bind_some]
          rcases cmp3_cs x y with o | o | o
          · rw [o, if_pos (by decide), if_pos (by decide)]
            exact pick false
          · rw [o, if_neg (by decide), if_neg (by decide)]
            exact pick true
          · rw [o, if_neg (by decide), if_neg (by decide)]
            exact pick true
end
