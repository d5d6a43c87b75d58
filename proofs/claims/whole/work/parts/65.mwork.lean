/-! ===== the reference: one piece of work ===== -/
theorem i10 : (10 : Int32) = nI 10 := rfl
theorem M_isOne {k : Nat} (h : k < 13) : f_M_isOne (nI k) = some (if 10 ≤ k then 1 else 0) := by
  unfold f_M_isOne
  by_cases c : 10 ≤ k
  · rw [if_pos c]
    first
    | (rw [if_pos (show (10 : Int32) ≤ nI k by rw [i10]; exact nI_le c (by omega))]; done)
    | (rw [if_neg (show ¬ nI k < (10 : Int32) by rw [i10]; exact nI_nlt c (by omega))]; done)
  · rw [if_neg c]
    first
    | (rw [if_neg (show ¬ (10 : Int32) ≤ nI k by rw [i10]; exact nI_ge (by omega) (by decide))]; done)
    | (rw [if_pos (show nI k < (10 : Int32) by rw [i10]; exact nI_lt (by omega) (by decide))]; done)
theorem qneg {e : Int32} (k : qok (.error e)) : ¬ (0 : Int32) ≤ e := by rcases k with rfl | rfl <;> decide
section
variable {h : Hp} {m base n : Nat} {p b W M : Nat → Nat} {s : St} {q : Nat × Nat × Bool}
theorem MX.g26 (H : MX h m base n p b W M s) {f : Nat} (e : s.1 26 = .int (nI f)) : gI h m 8 26 = some (nI f) := oc_i H.1 (by decide) e
theorem MX.g27 (H : MX h m base n p b W M s) {x : Int32} (e : s.1 27 = .int x) : gI h m 8 27 = some x := oc_i H.1 (by decide) e
theorem M_find_ok (H : MX h m base n p b W M s) {f k : Nat} {w came z d : Int32} {h1 : Hp} (e : s.1 26 = .int (nI (f + 1))) (hf : f < 8) (E : f_M_work m w came h = some (z, h1)) (hz : 0 ≤ z) (hd : gI h1 m 8 27 = some d) : f_M_find_20 m (k + 1) w came h = f_M_find_20 m k w d h1 := by
  show t_M_find_20 _ _ _ _ _ = _
  unfold t_M_find_20
  rw [H.g26 e]
  simp only [Option.bind_some]
  rw [if_neg (nI_nle (by omega) (by omega)), E, zb2_s, if_pos hz, hd]
  rfl
theorem M_find_err (H : MX h m base n p b W M s) {f k : Nat} {w came z : Int32} {h1 : Hp} (e : s.1 26 = .int (nI (f + 1))) (hf : f < 8) (E : f_M_work m w came h = some (z, h1)) (hz : ¬ 0 ≤ z) : f_M_find_20 m (k + 1) w came h = some (z, h1) := by
  show t_M_find_20 _ _ _ _ _ = _
  unfold t_M_find_20
  rw [H.g26 e]
  simp only [Option.bind_some]
  rw [if_neg (nI_nle (by omega) (by omega)), E, zb2_s, if_neg hz]
/-- the frame f is for the E at i, of the years a and z and a set -/
def Fr (base : Nat) (s : St) (f i a z set : Nat) : Prop := s.1 26 = .int (nI (f + 1)) ∧ s.2.1 0 f = nI (base + i) ∧ s.2.1 1 f = nI a ∧ s.2.1 2 f = nI z ∧ s.2.1 3 f = nI set
theorem Fr.keep {s' : St} {f g i a z set : Nat} (H : Fr base s f i a z set) {h' : Hp} (S : Sq g h s h' s' m) (hg : f < g) (e : s'.1 26 = .int (nI (f + 1))) : Fr base s' f i a z set :=
  ⟨e, by rw [S.2.1.1 0 f (by decide) hg]; exact H.2.1, by rw [S.2.1.1 1 f (by decide) hg]; exact H.2.2.1, by rw [S.2.1.1 2 f (by decide) hg]; exact H.2.2.2.1, by rw [S.2.1.1 3 f (by decide) hg]; exact H.2.2.2.2⟩
/-- what was worked out from a state on -/
def Fin (m f : Nat) (w : Int32) (came : Int32) (R : QR) (c : Nat) (h h' : Hp) (s' : St) : Prop := (∀ q, R = .ok q → s'.1 26 = .int (nI f) ∧ hnd s'.1 q ∧ ∀ k, f_M_find_20 m (k + c) w came h = f_M_find_20 m k w 1 h') ∧ ∀ e, R = .error e → ∀ k, f_M_find_20 m (k + c) w came h = some (e, h')
/-- the last piece of work of a frame: R comes to hand, the frame goes -/
theorem M_last (H : MX h m base n p b W M s) {f : Nat} {w came : Int32} {R : QR} {F1 : Nat → Value} (e : s.1 26 = .int (nI (f + 1))) (hf : f < 8) (k : qok R) (E : JN (f_M_work m w came h) h m F1 R) (e1 : MEq s.1 F1) (e26 : F1 26 = .int (nI f)) (e27 : F1 27 = .int 1) : ∃ h' s', MX h' m base n p b W M s' ∧ Sq f h s h' s' m ∧ Fin m f w came R 1 h h' s' := by
  obtain ⟨F', E', g⟩ := E
  have me : MEq s.1 F' := fun k a b c d e f => by rw [g.1 k a b c d, e1 k a b c d e f]
  have H' := H.obj me g.2.2.1 g.2.1
  have x26 : F' 26 = .int (nI f) := by rw [g.1 26 (by decide) (by decide) (by decide) (by decide)]; exact e26
  have x27 : F' 27 = .int 1 := by rw [g.1 27 (by decide) (by decide) (by decide) (by decide)]; exact e27
  refine ⟨_, _, H', MX.s_obj me, ?_, ?_⟩
  · intro q hq
    subst hq
    exact ⟨x26, g.2.2.2 q rfl, fun k => M_find_ok H e hf E' (by decide : (0 : Int32) ≤ 0) (H'.g27 x27)⟩
  · intro x hx
    subst hx
    exact fun j => M_find_err H e hf E' (qneg k)
/-- what work reads first -/
theorem M_work_head (H : MX h m base n p b W M s) {f i a z set : Nat} {w came : Int32} (hf : f < 8) (hi : i < n) (fr : Fr base s f i a z set) : f_M_work m w came h = if (6 : Int32) ≤ nI (W i) then (if nI (W i) = (11 : Int32) then (if came = 0 then f_M_work_116 m (0 : Int32) (nI f) (nI (base + i)) (nI a) (nI z) h else if s.2.1 4 f = nI a then f_M_work_109 m (nI f) (1 : Int32) (nI f) (nI (base + i)) (nI a) (nI z) h else f_M_work_109 m (nI f) (0 : Int32) (nI f) (nI (base + i)) (nI a) (nI z) h) else if came = 0 then f_M_work_275 m came (nI f) (nI (base + i)) (nI a) (nI z) (nI (W i)) h else (f_M_isOne (nI (W i))).bind fun i175 => if i175 = 0 then (if s.2.1 4 f = (1 : Int32) then f_M_work_271 m came (nI f) (nI (base + i)) (nI a) (nI z) (nI (W i)) h else f_M_work_275 m came (nI f) (nI (base + i)) (nI a) (nI z) (nI (W i)) h) else f_M_work_271 m came (nI f) (nI (base + i)) (nI a) (nI z) (nI (W i)) h) else (pV h m 8 26 (.int (nI f))).bind fun h196 => (pV h196 m 8 27 (.int (1 : Int32))).bind fun h198 => (gA h198 m 8 21).bind fun r200 => (r200).bind fun a202 => (aI h198 0 a202 (nI f)).bind fun i205 => zb2 (f_M_leaf m (nI (base + i)) w (nI a) (nI z) i205 h198) fun i207 h208 => some (i207, h208) := by
  obtain ⟨f26, f0, f1, f2, f3⟩ := fr
  unfold f_M_work
  rw [if_pos H.o, H.g26 f26]
  simp only [Option.bind_some]
  rw [nI_pred, show gA h m 8 18 = some (some (m + 8 + 0)) from H.r (k := 0) (by decide), show gA h m 8 19 = some (some (m + 8 + 1)) from H.r (k := 1) (by decide), show gA h m 8 20 = some (some (m + 8 + 2)) from H.r (k := 2) (by decide), H.r3, show gA h m 8 22 = some (some (m + 8 + 4)) from H.r (k := 4) (by decide)]
  simp only [Option.bind_some]
  rw [H.gi (by decide) hf, H.gi (by decide) hf, H.gi (by decide) hf, H.gi (by decide) hf, f0, f1, f2]
  simp only [Option.bind_some]
  rw [H.kw hi]
  rfl
end
