/-! ===== the class's reader: every E ===== -/
def PX (h : Hp) (p n : Nat) (WF MF : Nat → Int32) : Prop := h p = some (.inr (4, [.ref (p + 1), .ref (p + 2), .int (nI n)])) ∧ h (p + 1) = some (.inl (0, 20, .inl WF)) ∧ h (p + 2) = some (.inl (0, 20, .inl MF))
def RFr (h h' : Hp) (R p : Nat) : Prop := ∀ c, c ≠ R → c ≠ p → c ≠ p + 1 → c ≠ p + 2 → h' c = h c
theorem RFr.trans {h h1 h2 : Hp} {R p : Nat} (a : RFr h h1 R p) (b : RFr h1 h2 R p) : RFr h h2 R p := fun c x y z w => by rw [b c x y z w, a c x y z w]
theorem RFr.r {h h1 : Hp} {R p : Nat} (a : ∀ c, c ≠ R → h1 c = h c) : RFr h h1 R p := fun c x _ _ _ => a c x
theorem PX.cong {h h' : Hp} {p n : Nat} {WF MF : Nat → Int32} (H : PX h p n WF MF) (e : ∀ c, p ≤ c → c < p + 3 → h' c = h c) : PX h' p n WF MF :=
  ⟨by rw [e _ (by omega) (by omega)]; exact H.1, by rw [e _ (by omega) (by omega)]; exact H.2.1, by rw [e _ (by omega) (by omega)]; exact H.2.2⟩
theorem RO.cong {h h' : Hp} {R len pl : Nat} {tx : Nat → Nat} {fk fp : Int32} {P : Value} (H : RO h R tx len pl fk fp P) (e : ∀ c, R ≤ c → c < R + 2 → h' c = h c) : RO h' R tx len pl fk fp P :=
  ⟨by rw [e _ (by omega) (by omega)]; exact H.1, H.2.1.cong (e _ (by omega) (by omega)), H.2.2⟩
section
variable {h : Hp} {p n : Nat} {WF MF : Nat → Int32}
theorem P_add (H : PX h p n WF MF) (hn : n < 20) {x : Int32} : ∃ h', f_P_add p x h = some (nI n, h') ∧ PX h' p (n + 1) (upd WF n x) (upd MF n (-1)) ∧ ∀ c, c ≠ p → c ≠ p + 1 → c ≠ p + 2 → h' c = h c := by
  have g2 : gI h p 4 2 = some (nI n) := by simp [gI, gV, H.1]
  have g0 : gA h p 4 0 = some (some (p + 1)) := by simp [gA, gV, H.1]
  have e1 := ai_set (x := x) H.2.1 hn (by decide)
  have x0 : (hup h (p + 1) (.inl (0, 20, .inl (upd WF n x)))) p = some (.inr (4, [.ref (p + 1), .ref (p + 2), .int (nI n)])) := by rw [hup_n (by omega)]; exact H.1
  have x2 : (hup h (p + 1) (.inl (0, 20, .inl (upd WF n x)))) (p + 2) = some (.inl (0, 20, .inl MF)) := by rw [hup_n (by omega)]; exact H.2.2
  have e2 := ai_set (x := (-1 : Int32)) x2 hn (by decide)
  have y0 : (hup (hup h (p + 1) (.inl (0, 20, .inl (upd WF n x)))) (p + 2) (.inl (0, 20, .inl (upd MF n (-1))))) p = some (.inr (4, [.ref (p + 1), .ref (p + 2), .int (nI n)])) := by rw [hup_n (by omega)]; exact x0
  refine ⟨hup (hup (hup h (p + 1) (.inl (0, 20, .inl (upd WF n x)))) (p + 2) (.inl (0, 20, .inl (upd MF n (-1))))) p (.inr (4, [.ref (p + 1), .ref (p + 2), .int (nI (n + 1))])), ?_, ⟨hup_s, ?_, ?_⟩, ?_⟩
  · unfold f_P_add
    rw [if_pos (by simp [isO, H.1]), g2, Option.bind_some, if_neg (nI_pos (by omega)), Option.bind_some, if_pos (show nI n < (20 : Int32) from nI_lt (b := 20) hn (by decide)), g0]
    simp only [Option.bind_some]
    rw [e1]
    simp only [Option.bind_some]
    rw [show gA _ p 4 1 = some (some (p + 2)) by simp [gA, gV, x0], show gI _ p 4 2 = some (nI n) by simp [gI, gV, x0]]
    simp only [Option.bind_some]
    rw [e2]
    simp only [Option.bind_some]
    rw [show gI _ p 4 2 = some (nI n) by simp [gI, gV, y0]]
    simp only [Option.bind_some]
    have pv : ∀ (g : Hp), g p = some (.inr (4, [.ref (p + 1), .ref (p + 2), .int (nI n)])) → pV g p 4 2 (.int (nI (n + 1))) = some (hup g p (.inr (4, [.ref (p + 1), .ref (p + 2), .int (nI (n + 1))]))) := fun g hg => by simp [pV, hg]
    rw [nI_1, pv _ y0]
    simp only [Option.bind_some]
    have gv : ∀ (g : Hp), gI (hup g p (.inr (4, [.ref (p + 1), .ref (p + 2), .int (nI (n + 1))]))) p 4 2 = some (nI (n + 1)) := fun g => by simp [gI, gV, hup_s]
    rw [gv]
    simp only [Option.bind_some]
    rw [nI_pred]
  · rw [hup_n (by omega), hup_n (by omega), hup_s]
  · rw [hup_n (by omega), hup_s]
  · intro c a b d
    rw [hup_n a, hup_n d, hup_n b]
theorem P_mark (H : PX h p n WF MF) {i : Nat} (hi : i < 20) {x : Int32} : ∃ h', f_P_mark p (nI i) x h = some h' ∧ PX h' p n WF (upd MF i x) ∧ ∀ c, c ≠ p → c ≠ p + 1 → c ≠ p + 2 → h' c = h c := by
  refine ⟨hup h (p + 2) (.inl (0, 20, .inl (upd MF i x))), ?_, ⟨?_, ?_, hup_s⟩, fun c _ _ d => hup_n d⟩
  · unfold f_P_mark
    rw [if_pos (by simp [isO, H.1]), if_neg (nI_pos (by omega)), if_neg (show ¬ (20 : Int32) ≤ nI i from nI_ge (b := 20) hi (by decide)), show gA h p 4 1 = some (some (p + 2)) by simp [gA, gV, H.1]]
    simp only [Option.bind_some]
    rw [ai_set H.2.2 hi (by decide)]
    rfl
  · rw [hup_n (by omega)]; exact H.1
  · rw [hup_n (by omega)]; exact H.2.1
end
section
variable {h : Hp} {R len i : Nat} {tx : Nat → Nat} {fk fp : Int32} {P : Value}
theorem R_blame (H : RO h R tx len i fk fp P) {k : Int32} : ∃ h', f_R_blame R k h = some h' ∧ RO h' R tx len i k (nI i) P ∧ ∀ c, c ≠ R → h' c = h c := by
  refine ⟨hup h R (.inr (5, [.ref (R + 1), .int (nI len), .int (nI i), .int k, .int (nI i), P])), ?_, ⟨hup_s, H.2.1.up (by omega), H.2.2⟩, fun c a => hup_n a⟩
  unfold f_R_blame
  rw [if_pos H.o, show pV h R 5 3 (.int k) = some (hup h R (.inr (5, [.ref (R + 1), .int (nI len), .int (nI i), .int k, .int fp, P]))) by simp [pV, H.1], Option.bind_some, show gI (hup h R (.inr (5, [.ref (R + 1), .int (nI len), .int (nI i), .int k, .int fp, P]))) R 5 2 = some (nI i) by simp [gI, gV, hup_s], Option.bind_some, show pV (hup h R (.inr (5, [.ref (R + 1), .int (nI len), .int (nI i), .int k, .int fp, P]))) R 5 4 (.int (nI i)) = some (hup h R (.inr (5, [.ref (R + 1), .int (nI len), .int (nI i), .int k, .int (nI i), P]))) by simp [pV, hup_s, hup_u]]
  rfl
/-- a sign, no fault before -/
theorem R_sign (H : RO h R tx len i 0 fp P) {c : Nat} (hc : c < 128) : ∃ h', f_R_readSign R (nI c) h = some h' ∧ (∀ c, c ≠ R → h' c = h c) ∧ (∀ j, sgn tx len c i = .ok j → RO h' R tx len j 0 fp P) ∧ ∀ e, sgn tx len c i = .error e → e.1 = 1 ∧ RO h' R tx len e.2 1 (nI e.2) P := by
  obtain ⟨h1, E1, H1, F1⟩ := R_skip H
  have l60 := H.2.2.1
  have b := R_byteAt H1 (i := sk tx len i) (by have := H1.2.2.2.1; omega)
  unfold f_R_readSign sgn
  rw [if_pos H.o, H.g3, Option.bind_some, if_pos rfl, E1, Option.bind_some, H1.g2, Option.bind_some, b, Option.bind_some]
  by_cases g : sk tx len i < len ∧ tx (sk tx len i) = c
  · obtain ⟨e, E2, H2⟩ := H1.p2 (x := sk tx len i + 1) (by omega)
    rw [if_pos ((bt_eq hc H.2.2.2.2).mpr g), Option.bind_some, nI_1, E2, if_pos g]
    exact ⟨_, rfl, fun c a => by rw [hup_n a, F1 c a], fun j hj => (by cases hj; exact H2), fun e he => (by cases he)⟩
  · obtain ⟨h2, E2, H2, F2⟩ := R_blame H1 (k := 1)
    rw [if_neg (fun e => g ((bt_eq hc H.2.2.2.2).mp e)), E2, if_neg g]
    exact ⟨h2, rfl, fun c a => by rw [F2 c a, F1 c a], fun j hj => (by cases hj), fun e he => (by cases he; exact ⟨rfl, H2⟩)⟩
theorem R_sign_dead (H : RO h R tx len i fk fp P) (hk : fk ≠ 0) {c : Int32} : f_R_readSign R c h = some h := by
  unfold f_R_readSign
  rw [if_pos H.o, H.g3, Option.bind_some, if_neg hk]
theorem R_term_dead (H : RO h R tx len i fk fp P) (hk : fk ≠ 0) {f : Nat} {d : Int32} : f_R_readTerm (f + 1) R d h = some h := by
  show t_R_readTerm _ _ _ _ = _
  unfold t_R_readTerm
  rw [if_pos H.o, H.g3, Option.bind_some, if_neg hk]
/-- what a reading leaves -/
def RGot (h' : Hp) (R p : Nat) (tx : Nat → Nat) (len n : Nat) (fp : Int32) (WF MF : Nat → Int32) (r : PR) : Prop :=
  (∀ q, r = .ok q → RO h' R tx len q.1 0 fp (.ref p) ∧ ∃ WF' MF', PX h' p q.2.1 WF' MF' ∧ (∀ k, k < n → WF' k = WF k ∧ MF' k = MF k) ∧ ∀ k, n ≤ k → k < q.2.1 → WF' k = nI (q.2.2.1 k) ∧ (q.2.2.1 k = 3 ∨ (6 ≤ q.2.2.1 k ∧ q.2.2.1 k < 10) → MF' k = nI (q.2.2.2 k))) ∧
  ∀ e, r = .error e → (e.1 = 1 ∨ e.1 = 2) ∧ RO h' R tx len e.2 (nI e.1) (nI e.2) (.ref p) ∧ ∃ n' WF' MF', n' ≤ 20 ∧ PX h' p n' WF' MF'
end
