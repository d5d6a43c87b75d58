/-! ===== the class's reader: a whole text ===== -/
/-- the text as one E -/
def pt (tx : Nat → Nat) (len : Nat) : PR := match pz tx len 8 0 0 (fun _ => 0) (fun _ => 0) with
  | .error e => .error e
  | .ok r => if sk tx len r.1 < len then .error (1, sk tx len r.1) else .ok r
/-- a reader, whatever it read last -/
def RZ (h : Hp) (R : Nat) (tx : Nat → Nat) (len : Nat) : Prop := (∃ x2 x3 x4 x5, h R = some (.inr (5, [.ref (R + 1), .int (nI len), .int x2, .int x3, .int x4, x5]))) ∧ IA h (R + 1) 60 tx ∧ len ≤ 60 ∧ ∀ j, j < len → tx j < 256
theorem RO.z {h : Hp} {R len pl : Nat} {tx : Nat → Nat} {fk fp : Int32} {P : Value} (H : RO h R tx len pl fk fp P) : RZ h R tx len := ⟨⟨_, _, _, _, H.1⟩, H.2.1, H.2.2.1, H.2.2.2.2⟩
theorem pt_ok {tx : Nat → Nat} {len : Nat} {r : Nat × Nat × (Nat → Nat) × (Nat → Nat)} (h : pt tx len = .ok r) (hl : len ≤ 60) : r.2.1 ≤ 20 ∧ good r.2.2.1 r.2.2.2 8 0 r.2.1 ∧ pz tx len 8 0 0 (fun _ => 0) (fun _ => 0) = .ok r := by
  unfold pt at h
  split at h
  · cases h
  · rename_i q hq
    split at h
    · cases h
    · cases h
      have := pz_ok _ _ _ _ _ _ hq
      exact ⟨by omega, this.2.2.2.2.2, hq⟩
theorem R_read {h : Hp} {R p len s : Nat} {tx : Nat → Nat} {WF MF : Nat → Int32} (dj : R + 1 < p ∨ p + 2 < R) (H : RZ h R tx len) (X : PX h p s WF MF) : ∃ h', f_R_read R p h = some h' ∧ RFr h h' R p ∧ (∀ r, pt tx len = .ok r → gI h' R 5 3 = some 0 ∧ RZ h' R tx len ∧ PL h' p r.2.1 r.2.2.1 r.2.2.2) ∧ ∀ e, pt tx len = .error e → (e.1 = 1 ∨ e.1 = 2) ∧ gI h' R 5 3 = some (nI e.1) ∧ gI h' R 5 4 = some (nI e.2) ∧ RZ h' R tx len ∧ ∃ n' WF' MF', n' ≤ 20 ∧ PX h' p n' WF' MF' := by
  obtain ⟨⟨x2, x3, x4, x5, h0⟩, hI, hl, hb⟩ := H
  have R1 : RO (hup h R (.inr (5, [.ref (R + 1), .int (nI len), .int (nI 0), .int 0, .int (-1), .ref p]))) R tx len 0 0 (-1) (.ref p) := ⟨hup_s, hI.up (by omega), hl, by omega, hb⟩
  have X1 : PX (hup h R (.inr (5, [.ref (R + 1), .int (nI len), .int (nI 0), .int 0, .int (-1), .ref p]))) p s WF MF := X.cong fun c _ _ => hup_n (by omega)
  have R2 : RO (hup (hup h R (.inr (5, [.ref (R + 1), .int (nI len), .int (nI 0), .int 0, .int (-1), .ref p]))) p (.inr (4, [.ref (p + 1), .ref (p + 2), .int (nI 0)]))) R tx len 0 0 (-1) (.ref p) := R1.cong fun c _ _ => hup_n (by omega)
  have X2 : PX (hup (hup h R (.inr (5, [.ref (R + 1), .int (nI len), .int (nI 0), .int 0, .int (-1), .ref p]))) p (.inr (4, [.ref (p + 1), .ref (p + 2), .int (nI 0)]))) p 0 WF MF := ⟨hup_s, by rw [hup_n (by omega)]; exact X1.2.1, by rw [hup_n (by omega)]; exact X1.2.2⟩
  have start : f_R_read R p h = f_R_read_35 R (hup (hup h R (.inr (5, [.ref (R + 1), .int (nI len), .int (nI 0), .int 0, .int (-1), .ref p]))) p (.inr (4, [.ref (p + 1), .ref (p + 2), .int (nI 0)]))) := by
    unfold f_R_read
    rw [if_pos (by simp [isO, h0]), show pV h R 5 5 (.ref p) = some (hup h R (.inr (5, [.ref (R + 1), .int (nI len), .int x2, .int x3, .int x4, .ref p]))) by simp [pV, h0], Option.bind_some,
      show pV (hup h R (.inr (5, [.ref (R + 1), .int (nI len), .int x2, .int x3, .int x4, .ref p]))) R 5 2 (.int (0 : Int32)) = some (hup h R (.inr (5, [.ref (R + 1), .int (nI len), .int (nI 0), .int x3, .int x4, .ref p]))) by simp [pV, hup_s, hup_u, i0], Option.bind_some,
      show pV (hup h R (.inr (5, [.ref (R + 1), .int (nI len), .int (nI 0), .int x3, .int x4, .ref p]))) R 5 3 (.int (0 : Int32)) = some (hup h R (.inr (5, [.ref (R + 1), .int (nI len), .int (nI 0), .int 0, .int x4, .ref p]))) by simp [pV, hup_s, hup_u], Option.bind_some,
      show pV (hup h R (.inr (5, [.ref (R + 1), .int (nI len), .int (nI 0), .int 0, .int x4, .ref p]))) R 5 4 (.int (-1 : Int32)) = some (hup h R (.inr (5, [.ref (R + 1), .int (nI len), .int (nI 0), .int 0, .int (-1), .ref p]))) by simp [pV, hup_s, hup_u], Option.bind_some, R1.g5]
    simp only [Option.bind_some, zm]
    rw [show pV (hup h R (.inr (5, [.ref (R + 1), .int (nI len), .int (nI 0), .int 0, .int (-1), .ref p]))) p 4 2 (.int (0 : Int32)) = some (hup (hup h R (.inr (5, [.ref (R + 1), .int (nI len), .int (nI 0), .int 0, .int (-1), .ref p]))) p (.inr (4, [.ref (p + 1), .ref (p + 2), .int (nI 0)]))) by simp only [pV, X1.1]; rfl, Option.bind_some]
  rw [start]
  have F0 : RFr h (hup (hup h R (.inr (5, [.ref (R + 1), .int (nI len), .int (nI 0), .int 0, .int (-1), .ref p]))) p (.inr (4, [.ref (p + 1), .ref (p + 2), .int (nI 0)]))) R p := fun c a b _ _ => by rw [hup_n b, hup_n a]
  generalize hup (hup h R (.inr (5, [.ref (R + 1), .int (nI len), .int (nI 0), .int 0, .int (-1), .ref p]))) p (.inr (4, [.ref (p + 1), .ref (p + 2), .int (nI 0)])) = g at *
  obtain ⟨h1, E1, F1, G1, B1⟩ := R_term dj 8 1 12 0 0 (fun _ => 0) (fun _ => 0) WF MF g rfl (by decide) R2 X2 (Nat.le_refl _)
  unfold f_R_read_35
  rw [show f_R_readTerm 12 R (1 : Int32) g = some h1 from E1, Option.bind_some]
  unfold pt
  cases hp : pz tx len 8 0 0 (fun _ => 0) (fun _ => 0) with
  | error e =>
    obtain ⟨b1, b2, s', WF', MF', b3, b4⟩ := B1 e hp
    obtain ⟨h2, E2, H2, F2⟩ := R_skip b2
    have pl2 : ∃ x, h2 R = some (.inr (5, [.ref (R + 1), .int (nI len), .int x, .int (nI e.1), .int (nI e.2), .ref p])) := ⟨_, H2.1⟩
    rw [E2, Option.bind_some, H2.g3, Option.bind_some, if_neg (nI_12 b1)]
    refine ⟨h2, rfl, (F0.trans F1).trans (RFr.r F2), fun r hr => (by cases hr), fun e' he => ?_⟩
    cases he
    exact ⟨b1, H2.g3, by simp [gI, gV, H2.1], H2.z, s', WF', MF', b3, b4.cong fun c _ _ => F2 c (by omega)⟩
  | ok r =>
    obtain ⟨Q1, WF', MF', Q2, -, Q4⟩ := G1 r hp
    have po := pz_ok _ _ _ _ _ _ hp
    obtain ⟨h2, E2, H2, F2⟩ := R_skip Q1
    have X5 : PX h2 p r.2.1 WF' MF' := Q2.cong fun c _ _ => F2 c (by omega)
    rw [E2, Option.bind_some, H2.g3, Option.bind_some, if_pos rfl, H2.g2, Option.bind_some, H2.g1, Option.bind_some]
    dsimp only
    by_cases c : sk tx len r.1 < len
    · obtain ⟨h3, E3, H3, F3⟩ := R_blame H2 (k := 1)
      rw [if_neg (nI_ge c (by omega)), E3, if_pos c]
      refine ⟨h3, rfl, ((F0.trans F1).trans (RFr.r F2)).trans (RFr.r F3), fun r hr => (by cases hr), fun e' he => ?_⟩
      cases he
      exact ⟨Or.inl rfl, H3.g3, by simp [gI, gV, H3.1], H3.z, _, WF', MF', by omega, X5.cong fun c _ _ => F3 c (by omega)⟩
    · have := H2.2.2.2.1
      rw [if_pos (nI_le (by omega) (by omega)), if_neg c]
      refine ⟨h2, rfl, (F0.trans F1).trans (RFr.r F2), fun r' hr => ?_, fun e' he => (by cases he)⟩
      cases hr
      exact ⟨H2.g3, H2.z, X5.1, by omega, WF', MF', X5.2.1, X5.2.2, fun k hk => Q4 k (Nat.zero_le _) hk⟩
