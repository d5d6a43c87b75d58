/-! ===== the reference: worths that are kept ===== -/
theorem MX.cong {h h' : Hp} {m base n : Nat} {p b W M : Nat → Nat} {s : St} (H : MX h m base n p b W M s) (e : ∀ c, m ≤ c → c < m + 16 → h' c = h c) : MX h' m base n p b W M s := by
  obtain ⟨h0, h1, h2, h3, h4, h5, h6, h7, h8⟩ := H
  refine ⟨by rw [e m (by omega) (by omega)]; exact h0, h1, h2, h3, h4.cong (F := s.1) (by rw [e m (by omega) (by omega)]; exact h0) h1 (fun c a b => e c (by omega) (by omega)), h5.cong (fun c a b => e c (by omega) (by omega)), ?_, ?_, ?_⟩
  · intro k hk; rw [e _ (by omega) (by omega)]; exact h6 k hk
  · intro k hk; rw [e _ (by omega) (by omega)]; exact h7 k hk
  · rw [e _ (by omega) (by omega)]; exact h8
/-- what is kept -/
def MK (h : Hp) (m : Nat) (F : Nat → Value) (u l : Nat → Int64) (r : Nat → Int32) : Prop := (F 28 = .ref (m + 16) ∧ F 29 = .ref (m + 17) ∧ F 30 = .ref (m + 18)) ∧ h (m + 16) = some (.inl (1, 3, .inr (.inl u))) ∧ h (m + 17) = some (.inl (1, 3, .inr (.inl l))) ∧ h (m + 18) = some (.inl (2, 3, .inl r))
theorem MK.cong {h h' : Hp} {m : Nat} {F F' : Nat → Value} {u l : Nat → Int64} {r : Nat → Int32} (H : MK h m F u l r) (e : ∀ c, m + 16 ≤ c → c < m + 19 → h' c = h c) (g : MEq F F') : MK h' m F' u l r := by
  obtain ⟨⟨a, b, c⟩, d, f, i⟩ := H
  refine ⟨⟨?_, ?_, ?_⟩, by rw [e _ (by omega) (by omega)]; exact d, by rw [e _ (by omega) (by omega)]; exact f, by rw [e _ (by omega) (by omega)]; exact i⟩
  · rw [g 28 (by decide) (by decide) (by decide) (by decide) (by decide) (by decide)]; exact a
  · rw [g 29 (by decide) (by decide) (by decide) (by decide) (by decide) (by decide)]; exact b
  · rw [g 30 (by decide) (by decide) (by decide) (by decide) (by decide) (by decide)]; exact c
/-- the k-th that is kept is q -/
def kpt (u l : Nat → Int64) (r : Nat → Int32) (k : Nat) (q : Nat × Nat × Bool) : Prop := u k = lN q.1 ∧ l k = lN q.2.1 ∧ r k = bI q.2.2
section
variable {h : Hp} {m base n w : Nat} {p b W M : Nat → Nat} {s : St} {u l : Nat → Int64} {r : Nat → Int32}
theorem M_keep (H : MX h m base n p b W M s) (K : MK h m s.1 u l r) {k : Nat} (hk : k < 3) {q : Nat × Nat × Bool} (e : hnd s.1 q) : ∃ h' u' l' r', f_M_keep m (nI k) h = some h' ∧ MX h' m base n p b W M s ∧ MK h' m s.1 u' l' r' ∧ kpt u' l' r' k q ∧ (∀ j, j ≠ k → u' j = u j ∧ l' j = l j ∧ r' j = r j) ∧ ∀ c, ¬ (m + 16 ≤ c ∧ c < m + 19) → h' c = h c := by
  obtain ⟨⟨k28, k29, k30⟩, a, b', c⟩ := K
  have ex : ∀ (g : Hp) (x : Nat) (f : Nat → Int64) (y : Int64), g x = some (.inl (1, 3, .inr (.inl f))) → sL g x (nI k) y = some (hup g x (.inl (1, 3, .inr (.inl (vp_updL f k y))))) := by
    intro g x f y hx
    unfold sL
    rw [hx]
    simp only []
    rw [if_pos ⟨trivial, nI_in hk (by decide)⟩, nI_clamp (by omega)]
  have ez : ∀ (g : Hp) (x : Nat) (f : Nat → Int32) (t : Bool), g x = some (.inl (2, 3, .inl f)) → sZ g x (nI k) (bI t) = some (hup g x (.inl (2, 3, .inl (upd f k (bI t))))) := by
    intro g x f t hx
    unfold sZ
    rw [hx]
    simp only []
    rw [if_pos ⟨trivial, nI_in hk (by decide)⟩, nI_clamp (by omega), show vp_nar .boolean (bI t) = bI t by cases t <;> decide +kernel]
  have E1 := ex h (m + 16) u (lN q.1) a
  have H1 : MX (hup h (m + 16) (.inl (1, 3, .inr (.inl (vp_updL u k (lN q.1)))))) m base n p b W M s := H.cong fun c _ _ => hup_n (by omega)
  have E2 := ex (hup h (m + 16) (.inl (1, 3, .inr (.inl (vp_updL u k (lN q.1)))))) (m + 17) l (lN q.2.1) (by rw [hup_n (by omega)]; exact b')
  have H2 : MX (hup (hup h (m + 16) (.inl (1, 3, .inr (.inl (vp_updL u k (lN q.1)))))) (m + 17) (.inl (1, 3, .inr (.inl (vp_updL l k (lN q.2.1)))))) m base n p b W M s := H1.cong fun c _ _ => hup_n (by omega)
  have E3 := ez (hup (hup h (m + 16) (.inl (1, 3, .inr (.inl (vp_updL u k (lN q.1)))))) (m + 17) (.inl (1, 3, .inr (.inl (vp_updL l k (lN q.2.1)))))) (m + 18) r q.2.2 (by rw [hup_n (by omega), hup_n (by omega)]; exact c)
  refine ⟨hup (hup (hup h (m + 16) (.inl (1, 3, .inr (.inl (vp_updL u k (lN q.1)))))) (m + 17) (.inl (1, 3, .inr (.inl (vp_updL l k (lN q.2.1)))))) (m + 18) (.inl (2, 3, .inl (upd r k (bI q.2.2)))), vp_updL u k (lN q.1), vp_updL l k (lN q.2.1), upd r k (bI q.2.2), ?_, H2.cong fun c _ _ => hup_n (by omega), ⟨⟨k28, k29, k30⟩, ?_, ?_, hup_s⟩, ⟨pk_uLs, pk_uLs, pk_us⟩, fun j hj => ⟨pk_uLn hj, pk_uLn hj, pk_un hj⟩, fun c hc => ?_⟩
  · unfold f_M_keep
    rw [if_pos H.o, oc_a H.1 (by decide) k28, Option.bind_some, H.h14 e, Option.bind_some, Option.bind_some, E1, Option.bind_some, oc_a H1.1 (by decide) k29, Option.bind_some, H1.h15 e, Option.bind_some, Option.bind_some, E2, Option.bind_some, oc_a H2.1 (by decide) k30, Option.bind_some, H2.h16 e, Option.bind_some, Option.bind_some, E3]
    rfl
  · rw [hup_n (by omega), hup_n (by omega), hup_s]
  · rw [hup_n (by omega), hup_s]
  · rw [hup_n (by omega), hup_n (by omega), hup_n (by omega)]
/-- findKept -/
theorem M_findKept {num : Nat} (H : MX h m (40 * num) n p b W M s) (K : MK h m s.1 u l r) (hg : good W M 8 0 n) (hn : n ≤ 20) {a z k : Nat} (hw : w < 4) (ha : a < 8) (hz : z < 8) (hk : k < 3) : ∃ h' s' u' l' r', f_M_findKept m (nI num) (nI w) (nI a) (nI z) (nI k) h = some (mcode (evw W M p (bam b w) a z), h') ∧ MX h' m (40 * num) n p b W M s' ∧ MK h' m s'.1 u' l' r' ∧ (∀ q, evw W M p (bam b w) a z = .ok q → kpt u' l' r' k q) ∧ (∀ j, j ≠ k → u' j = u j ∧ l' j = l j ∧ r' j = r j) ∧ MEq s.1 s'.1 ∧ ∀ c, ¬ ((m ≤ c ∧ c < m + 3) ∨ (m + 8 ≤ c ∧ c < m + 19)) → h' c = h c := by
  obtain ⟨h1, s1, E1, H1, S1, V1⟩ := M_find H hg hn hw ha hz
  have K1 : MK h1 m s1.1 u l r := K.cong (fun c x y => S1.2.2 c (by omega) (by omega)) S1.1
  obtain ⟨U, L, T, t1, t2, t3⟩ := H1.2.2.1
  obtain ⟨h2, u', l', r', E2, H2, K2, P2, J2, F2⟩ := M_keep (q := (U, L, T)) H1 K1 hk ⟨t1, t2, t3⟩
  refine ⟨h2, s1, u', l', r', ?_, H2, K2, fun q hq => ?_, J2, S1.1, fun c hc => by rw [F2 c (by omega), S1.2.2 c (by omega) (by omega)]⟩
  · unfold f_M_findKept
    rw [if_pos H.o, show (40 : Int32) * nI num = nI (40 * num) from pk_mul 40 num, E1, zb2_s, E2]
    rfl
  · have v := V1 q hq
    have c1 : lN U = lN q.1 := by have := t1.symm.trans v.1; injection this
    have c2 : lN L = lN q.2.1 := by have := t2.symm.trans v.2.1; injection this
    have c3 : bI T = bI q.2.2 := by have := t3.symm.trans v.2.2; injection this
    exact ⟨P2.1.trans c1, P2.2.1.trans c2, P2.2.2.trans c3⟩
end
