/-! ===== the reference: number ===== -/
/-- the reference between calls, as to its text -/
def MR (h : Hp) (m : Nat) (F : Nat → Value) (tx : Nat → Nat) (len : Nat) (t : Pt) : Prop := h m = some (ocell 8 40 F) ∧ (F 3 = .ref (m + 3) ∧ F 4 = .ref (m + 4) ∧ F 5 = .ref (m + 5) ∧ F 10 = .ref (m + 6) ∧ F 11 = .ref (m + 7) ∧ F 6 = .int (nI len)) ∧ IA h (m + 5) 80 tx ∧ len ≤ 60 ∧ (∀ j, j < len → tx j < 256) ∧ h (m + 3) = some (.inl (0, 320, .inl t.1)) ∧ h (m + 4) = some (.inl (0, 320, .inl t.2.1)) ∧ h (m + 6) = some (.inl (0, 8, .inl t.2.2.1)) ∧ h (m + 7) = some (.inl (2, 8, .inl t.2.2.2))
def QEq (F F' : Nat → Value) : Prop := ∀ k, k ≠ 2 → k ≠ 6 → k ≠ 7 → k ≠ 8 → k ≠ 9 → k ≠ 12 → k ≠ 13 → F' k = F k
section
variable {h : Hp} {m len pl o n base : Nat} {F : Nat → Value} {tx : Nat → Nat} {t : Pt}
theorem M_143 (H : MP h m F tx len pl o n t) {num e : Nat} (h2 : F 2 = .int (nI num)) (he : e = 0 ∨ e = 1 ∨ e = 2) : ∃ F', f_M_number_143 m (nI e) h = some ((if e = 0 then nI num else (-10 : Int32) - nI e), hup h m (ocell 8 40 F')) ∧ (∀ k, k ≠ 2 → k ≠ 6 → F' k = F k) ∧ F' 6 = .int (nI 0) ∧ F' 2 = .int (nI (if e = 0 then num + 1 else num)) := by
  unfold f_M_number_143
  rw [show (0 : Int32) = nI 0 from rfl, oc_p H.1.1 (by decide), Option.bind_some]
  by_cases c : e = 0
  · subst c
    rw [if_pos (by decide), if_pos rfl, if_pos rfl]
    refine ⟨fset (fset F 6 (.int (nI 0))) 2 (.int (nI (num + 1))), ?_, fun k a b => by rw [fset_n a, fset_n b], by rw [fset_n (by decide), fset_s], fset_s⟩
    rw [oc_i (x := nI num) hup_s (by decide) (by rw [fset_n (by decide)]; exact h2), Option.bind_some, nI_1, oc_p hup_s (by decide), Option.bind_some, oc_i (x := nI (num + 1)) hup_s (by decide) fset_s, Option.bind_some, nI_pred, hup_u]
  · rw [if_neg (show ¬ nI e ≤ nI 0 by rcases he with rfl | rfl | rfl <;> first | exact absurd rfl c | decide), if_neg c, if_neg c]
    exact ⟨fset F 6 (.int (nI 0)), rfl, fun k _ b => fset_n b, fset_s, by rw [fset_n (by decide)]; exact h2⟩
theorem M_number (H : MR h m F tx len t) {num : Nat} (hn : num < 8) (h2 : F 2 = .int (nI num)) : ∃ h' F' t', MR h' m F' tx 0 t' ∧ QEq F F' ∧ PC h h' m ∧ (∀ j, j < 40 * num → t'.1 j = t.1 j ∧ t'.2.1 j = t.2.1 j) ∧ (∀ r, pt tx len = .ok r → f_M_number m h = some (nI num, h') ∧ F' 2 = .int (nI (num + 1)) ∧ F' 7 = .int (-1) ∧ MN h' m (40 * num) r.2.1 r.2.2.1 r.2.2.2) ∧ ∀ e, pt tx len = .error e → f_M_number m h = some ((-10 : Int32) - nI e.1, h') ∧ F' 2 = .int (nI num) ∧ F' 7 = .int (nI e.2) := by
  obtain ⟨a0, ⟨b3, b4, b5, b10, b11, b6⟩, aI, al, ab, c3, c4, c6, c7⟩ := H
  have F0 : Nat → Value := F
  have start : f_M_number m h = f_M_number_45 m FU (nI (40 * num)) 0 1 (hup h m (ocell 8 40 (fset (fset (fset (fset F 7 (.int (-1))) 8 (.int (nI 0))) 12 (.int (nI 0))) 13 (.int (nI 0))))) := by
    unfold f_M_number
    rw [if_pos (oc_o a0), oc_i a0 (by decide) h2, Option.bind_some, if_neg (show ¬ nI num = (8 : Int32) from fun x => by have := (nI_eq (by omega) (by decide)).mp (show nI num = nI 8 from x); omega), Option.bind_some, oc_p a0 (by decide), Option.bind_some, show (0 : Int32) = nI 0 from rfl, oc_p hup_s (by decide), Option.bind_some, oc_p hup_s (by decide), Option.bind_some, oc_p hup_s (by decide), Option.bind_some, hup_u, hup_u, hup_u, show (40 : Int32) * nI num = nI (40 * num) from pk_mul 40 num]
  have H1 : MP (hup h m (ocell 8 40 (fset (fset (fset (fset F 7 (.int (-1))) 8 (.int (nI 0))) 12 (.int (nI 0))) 13 (.int (nI 0))))) m (fset (fset (fset (fset F 7 (.int (-1))) 8 (.int (nI 0))) 12 (.int (nI 0))) 13 (.int (nI 0))) tx len 0 0 0 t := by
    refine ⟨⟨hup_s, ?_, ?_, ?_, aI.up (by omega), al, by omega, ab⟩, ⟨?_, ?_, ?_, ?_, ?_, ?_⟩, ?_, ?_, ?_, ?_⟩
    · simp [fset]; exact b5
    · simp [fset]; exact b6
    · simp [fset]
    · simp [fset]; exact b3
    · simp [fset]; exact b4
    · simp [fset]; exact b10
    · simp [fset]; exact b11
    · simp [fset]
    · simp [fset]
    · rw [hup_n (by omega)]; exact c3
    · rw [hup_n (by omega)]; exact c4
    · rw [hup_n (by omega)]; exact c6
    · rw [hup_n (by omega)]; exact c7
  have q1 : ∀ k, k ≠ 7 → k ≠ 8 → k ≠ 12 → k ≠ 13 → (fset (fset (fset (fset F 7 (.int (-1))) 8 (.int (nI 0))) 12 (.int (nI 0))) 13 (.int (nI 0))) k = F k := fun k a b c d => by rw [fset_n d, fset_n c, fset_n b, fset_n a]
  have x7 : (fset (fset (fset (fset F 7 (.int (-1))) 8 (.int (nI 0))) 12 (.int (nI 0))) 13 (.int (nI 0))) 7 = .int (-1) := by simp [fset]
  have PC1 : PC h (hup h m (ocell 8 40 (fset (fset (fset (fset F 7 (.int (-1))) 8 (.int (nI 0))) 12 (.int (nI 0))) 13 (.int (nI 0))))) m := PC.obj
  generalize fset (fset (fset (fset F 7 (.int (-1))) 8 (.int (nI 0))) 12 (.int (nI 0))) 13 (.int (nI 0)) = F1 at *
  generalize hup h m (ocell 8 40 F1) = h1 at *
  have T := M_term (base := 40 * num) (by omega) 8 0 0 0 (fun _ => 0) (fun _ => 0) h1 F1 t rfl H1 (by omega)
  -- the end, from a state with a code
  have fin : ∀ {e : Nat} {h2' : Hp} {F2 : Nat → Value} {pl o n : Nat} {t2 : Pt}, (e = 0 ∨ e = 1 ∨ e = 2) → MP h2' m F2 tx len pl o n t2 → PEq F1 F2 → PC h1 h2' m → ∃ h' F', f_M_number_143 m (nI e) h2' = some ((if e = 0 then nI num else (-10 : Int32) - nI e), h') ∧ MR h' m F' tx 0 t2 ∧ QEq F F' ∧ PC h h' m ∧ F' 7 = F2 7 ∧ F' 2 = .int (nI (if e = 0 then num + 1 else num)) ∧ ∀ c, c ≠ m → h' c = h2' c := by
    intro e h2' F2 pl o n t2 he H2 p2 q2
    have y2 : F2 2 = .int (nI num) := by rw [p2 2 (by decide) (by decide) (by decide) (by decide) (by decide), q1 2 (by decide) (by decide) (by decide) (by decide)]; exact h2
    obtain ⟨F3, E3, k3, z6, z2⟩ := M_143 H2 y2 he
    refine ⟨_, F3, E3, ⟨hup_s, ⟨?_, ?_, ?_, ?_, ?_, z6⟩, H2.1.2.2.2.2.1.up (by omega), by omega, fun j hj => by omega, ?_, ?_, ?_, ?_⟩, ?_, (PC1.trans q2).trans PC.obj, k3 7 (by decide) (by decide), z2, fun c a => hup_n a⟩
    · rw [k3 3 (by decide) (by decide)]; exact H2.2.1.1
    · rw [k3 4 (by decide) (by decide)]; exact H2.2.1.2.1
    · rw [k3 5 (by decide) (by decide)]; exact H2.1.2.1
    · rw [k3 10 (by decide) (by decide)]; exact H2.2.1.2.2.1
    · rw [k3 11 (by decide) (by decide)]; exact H2.2.1.2.2.2.1
    · rw [hup_n (by omega)]; exact H2.2.2.1
    · rw [hup_n (by omega)]; exact H2.2.2.2.1
    · rw [hup_n (by omega)]; exact H2.2.2.2.2.1
    · rw [hup_n (by omega)]; exact H2.2.2.2.2.2
    · intro k a b c d e f g
      rw [k3 k a b, p2 k c d e f g, q1 k c d f g]
  unfold pt
  cases hp : pz tx len 8 0 0 (fun _ => 0) (fun _ => 0) with
  | error e =>
    obtain ⟨a, h2', F2, o2, n2, t2, d1, d2, d3, d4, d5, d6, dk, d7⟩ := T.2 e hp
    obtain ⟨h', F', G1, G2, G3, G4, G5, G6, -⟩ := fin (e := e.1) (by omega) d3 d4 d5
    have ne : ¬ e.1 = 0 := by omega
    rw [if_neg ne] at G1 G6
    refine ⟨h', F', t2, G2, G3, G4, fun j hj => dk j hj, fun r hr => (by cases hr), fun x hx => ?_⟩
    cases hx
    refine ⟨?_, G6, G5.trans d6⟩
    rw [start, show FU = (FU - a - 2) + 1 + a + 1 by unfold FU; omega, d7]
    show t_M_number_45 _ _ _ _ _ _ = _
    unfold t_M_number_45
    rw [if_pos rfl, if_neg (nI_12 d2)]
    unfold f_M_number_142
    exact G1
  | ok r =>
    obtain ⟨h2', F2, t2, c, H2, p2, q2, r2, V2, K2, O2, hc, st⟩ := T.1 r hp
    have po := pz_ok _ _ _ _ _ _ hp
    obtain ⟨c, rfl⟩ : ∃ c', c = c' + 1 := ⟨c - 1, by unfold FU at hc; omega⟩
    obtain ⟨E3, -⟩ := M_here H2.1
    have H3 := H2.at8 (sk_60 H2.1)
    have s60 := sk_60 H2.1
    have l := lt_le (tx := tx) (len := len) 0 0
    have run : f_M_number m h = (if bt' tx len (sk tx len r.1) < 0 then f_M_number_142 m (nI 0) (hup h2' m (ocell 8 40 (fset F2 8 (.int (nI (sk tx len r.1)))))) else (gI (hup h2' m (ocell 8 40 (fset F2 8 (.int (nI (sk tx len r.1)))))) m 8 8).bind fun i21 => zb2 (f_M_fails m (1 : Int32) i21 (hup h2' m (ocell 8 40 (fset F2 8 (.int (nI (sk tx len r.1))))))) fun i24 h25 => f_M_number_143 m i24 h25) := by
      rw [start, show FU = (FU - (r.2.1 - 0) - 1) + 1 + (r.2.1 - 0) by unfold FU; omega, st]
      unfold CLS
      rw [show f_M_close_13 m (c + 1) (nI (40 * num)) (bI (decide (0 < 0))) h2' = some (0, h2') from rfl, zb2_s]
      unfold f_M_number_98
      rw [if_pos rfl, H2.g12, Option.bind_some, if_pos (by decide)]
      unfold f_M_number_114 f_M_number_115
      show t_M_number_45 _ _ _ _ _ _ = _
      unfold t_M_number_45
      rw [if_pos rfl, if_pos rfl, E3, zb2_s]
      rfl
    have x71 : F2 7 = .int (-1) := r2.trans x7
    dsimp only
    by_cases g : sk tx len r.1 < len
    · obtain ⟨E4, H4⟩ := M_fails H3 (x := nI 1) (y := nI (sk tx len r.1))
      obtain ⟨h', F', G1, G2, G3, G4, G5, G6, -⟩ := fin (e := 1) (by omega) H4 ((p2.trans (peq_set (Or.inr (Or.inl rfl)))).trans (peq_set (Or.inl rfl))) ((q2.trans PC.obj).trans PC.obj)
      rw [if_neg (by decide)] at G1 G6
      rw [if_pos g]
      refine ⟨h', F', t2, G2, G3, G4, fun j hj => K2 j (by omega), fun r hr => (by cases hr), fun x hx => ?_⟩
      cases hx
      refine ⟨?_, G6, G5.trans fset_s⟩
      have nb : ¬ bt' tx len (sk tx len r.1) < 0 := by
        unfold bt'
        rw [if_pos g]
        exact nI_pos (by have := H2.1.2.2.2.2.2.2.2 _ g; omega)
      rw [run, if_neg nb, H3.1.g8, Option.bind_some, show f_M_fails m (1 : Int32) _ _ = _ from E4, zb2_s]
      exact G1
    · obtain ⟨h', F', G1, G2, G3, G4, G5, G6, G7⟩ := fin (e := 0) (by omega) H3 (p2.trans (peq_set (Or.inr (Or.inl rfl)))) (q2.trans PC.obj)
      rw [if_pos rfl] at G1 G6
      rw [if_neg g]
      refine ⟨h', F', t2, G2, G3, G4, fun j hj => K2 j (by omega), fun x hx => ?_, fun x hx => (by cases hx)⟩
      cases hx
      refine ⟨?_, G6, ?_, by omega, t2.1, t2.2.1, G2.2.2.2.2.2.1, G2.2.2.2.2.2.2.1, fun k hk => V2 k (Nat.zero_le _) hk⟩
      · have nb : bt' tx len (sk tx len r.1) < 0 := by
          unfold bt'
          rw [if_neg g]
          decide
        rw [run, if_pos nb]
        unfold f_M_number_142
        exact G1
      · rw [G5, fset_n (by decide)]
        exact x71
end
