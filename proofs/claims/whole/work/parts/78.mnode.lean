/-! ===== the reference: reading a word ===== -/
/-- rows: kinds, marks, open, isSecond -/
abbrev Pt : Type := (Nat → Int32) × (Nat → Int32) × (Nat → Int32) × (Nat → Int32)
def MP (h : Hp) (m : Nat) (F : Nat → Value) (tx : Nat → Nat) (len pl o n : Nat) (t : Pt) : Prop := MTx h m F tx len pl ∧ (F 3 = .ref (m + 3) ∧ F 4 = .ref (m + 4) ∧ F 10 = .ref (m + 6) ∧ F 11 = .ref (m + 7) ∧ F 12 = .int (nI o) ∧ F 13 = .int (nI n)) ∧ h (m + 3) = some (.inl (0, 320, .inl t.1)) ∧ h (m + 4) = some (.inl (0, 320, .inl t.2.1)) ∧ h (m + 6) = some (.inl (0, 8, .inl t.2.2.1)) ∧ h (m + 7) = some (.inl (2, 8, .inl t.2.2.2))
/-- what reading leaves as it was -/
def PEq (F F' : Nat → Value) : Prop := ∀ k, k ≠ 7 → k ≠ 8 → k ≠ 9 → k ≠ 12 → k ≠ 13 → F' k = F k
def PC (h h' : Hp) (m : Nat) : Prop := ∀ c, c ≠ m → c ≠ m + 3 → c ≠ m + 4 → c ≠ m + 6 → c ≠ m + 7 → h' c = h c
theorem PEq.trans {F F1 F2 : Nat → Value} (a : PEq F F1) (b : PEq F1 F2) : PEq F F2 := fun k x y z w v => by rw [b k x y z w v, a k x y z w v]
theorem PC.trans {h h1 h2 : Hp} {m : Nat} (a : PC h h1 m) (b : PC h1 h2 m) : PC h h2 m := fun k x y z w v => by rw [b k x y z w v, a k x y z w v]
theorem PEq.refl {F : Nat → Value} : PEq F F := fun _ _ _ _ _ _ => rfl
section
variable {h : Hp} {m len pl o n : Nat} {F : Nat → Value} {tx : Nat → Nat} {t : Pt}
/-- another object cell -/
theorem MP.obj {pl' o' n' : Nat} {F' : Nat → Value} (H : MP h m F tx len pl o n t) (e : PEq F F') (e8 : F' 8 = .int (nI pl')) (hp : pl' ≤ 60) (e12 : F' 12 = .int (nI o')) (e13 : F' 13 = .int (nI n')) : MP (hup h m (ocell 8 40 F')) m F' tx len pl' o' n' t := by
  obtain ⟨⟨a0, a5, a6, a8, aI, al, ap, ab⟩, ⟨b3, b4, b10, b11, b12, b13⟩, c3, c4, c6, c7⟩ := H
  refine ⟨⟨hup_s, ?_, ?_, e8, aI.up (by omega), al, hp, ab⟩, ⟨?_, ?_, ?_, ?_, e12, e13⟩, ?_, ?_, ?_, ?_⟩
  · rw [e 5 (by decide) (by decide) (by decide) (by decide) (by decide)]; exact a5
  · rw [e 6 (by decide) (by decide) (by decide) (by decide) (by decide)]; exact a6
  · rw [e 3 (by decide) (by decide) (by decide) (by decide) (by decide)]; exact b3
  · rw [e 4 (by decide) (by decide) (by decide) (by decide) (by decide)]; exact b4
  · rw [e 10 (by decide) (by decide) (by decide) (by decide) (by decide)]; exact b10
  · rw [e 11 (by decide) (by decide) (by decide) (by decide) (by decide)]; exact b11
  · rw [hup_n (by omega)]; exact c3
  · rw [hup_n (by omega)]; exact c4
  · rw [hup_n (by omega)]; exact c6
  · rw [hup_n (by omega)]; exact c7
theorem PC.obj {F' : Nat → Value} : PC h (hup h m (ocell 8 40 F')) m := fun _ a _ _ _ _ => hup_n a
theorem peq_set {k : Nat} {v : Value} (hk : k = 7 ∨ k = 8 ∨ k = 9 ∨ k = 12 ∨ k = 13) : PEq F (fset F k v) := fun j a b c d e => fset_n (by omega)
theorem MP.ob (H : MP h m F tx len pl o n t) : isO h m 8 = true := H.1.o
theorem MP.g12 (H : MP h m F tx len pl o n t) : gI h m 8 12 = some (nI o) := oc_i H.1.1 (by decide) H.2.1.2.2.2.2.1
theorem MP.g13 (H : MP h m F tx len pl o n t) : gI h m 8 13 = some (nI n) := oc_i H.1.1 (by decide) H.2.1.2.2.2.2.2
theorem MP.g3 (H : MP h m F tx len pl o n t) : gA h m 8 3 = some (some (m + 3)) := oc_a H.1.1 (by decide) H.2.1.1
theorem MP.g4 (H : MP h m F tx len pl o n t) : gA h m 8 4 = some (some (m + 4)) := oc_a H.1.1 (by decide) H.2.1.2.1
theorem MP.g10 (H : MP h m F tx len pl o n t) : gA h m 8 10 = some (some (m + 6)) := oc_a H.1.1 (by decide) H.2.1.2.2.1
theorem MP.g11 (H : MP h m F tx len pl o n t) : gA h m 8 11 = some (some (m + 7)) := oc_a H.1.1 (by decide) H.2.1.2.2.2.1
theorem MP.s3 (H : MP h m F tx len pl o n t) {i : Nat} (hi : i < 320) (x : Int32) : ∃ h', sI h (m + 3) (nI i) x = some h' ∧ MP h' m F tx len pl o n (upd t.1 i x, t.2) ∧ PC h h' m := by
  obtain ⟨⟨a0, a5, a6, a8, aI, al, ap, ab⟩, b, c3, c4, c6, c7⟩ := H
  exact ⟨_, ai_set c3 hi (by decide), ⟨⟨by rw [hup_n (by omega)]; exact a0, a5, a6, a8, aI.up (by omega), al, ap, ab⟩, b, hup_s, by rw [hup_n (by omega)]; exact c4, by rw [hup_n (by omega)]; exact c6, by rw [hup_n (by omega)]; exact c7⟩, fun _ _ a _ _ _ => hup_n a⟩
theorem MP.s4 (H : MP h m F tx len pl o n t) {i : Nat} (hi : i < 320) (x : Int32) : ∃ h', sI h (m + 4) (nI i) x = some h' ∧ MP h' m F tx len pl o n (t.1, upd t.2.1 i x, t.2.2) ∧ PC h h' m := by
  obtain ⟨⟨a0, a5, a6, a8, aI, al, ap, ab⟩, b, c3, c4, c6, c7⟩ := H
  exact ⟨_, ai_set c4 hi (by decide), ⟨⟨by rw [hup_n (by omega)]; exact a0, a5, a6, a8, aI.up (by omega), al, ap, ab⟩, b, by rw [hup_n (by omega)]; exact c3, hup_s, by rw [hup_n (by omega)]; exact c6, by rw [hup_n (by omega)]; exact c7⟩, fun _ _ _ a _ _ => hup_n a⟩
theorem MP.s6 (H : MP h m F tx len pl o n t) {i : Nat} (hi : i < 8) (x : Int32) : ∃ h', sI h (m + 6) (nI i) x = some h' ∧ MP h' m F tx len pl o n (t.1, t.2.1, upd t.2.2.1 i x, t.2.2.2) ∧ PC h h' m := by
  obtain ⟨⟨a0, a5, a6, a8, aI, al, ap, ab⟩, b, c3, c4, c6, c7⟩ := H
  exact ⟨_, ai_set c6 hi (by decide), ⟨⟨by rw [hup_n (by omega)]; exact a0, a5, a6, a8, aI.up (by omega), al, ap, ab⟩, b, by rw [hup_n (by omega)]; exact c3, by rw [hup_n (by omega)]; exact c4, hup_s, by rw [hup_n (by omega)]; exact c7⟩, fun _ _ _ _ a _ => hup_n a⟩
theorem MP.s7 (H : MP h m F tx len pl o n t) {i : Nat} (hi : i < 8) (x : Bool) : ∃ h', sZ h (m + 7) (nI i) (bI x) = some h' ∧ MP h' m F tx len pl o n (t.1, t.2.1, t.2.2.1, upd t.2.2.2 i (bI x)) ∧ PC h h' m := by
  obtain ⟨⟨a0, a5, a6, a8, aI, al, ap, ab⟩, b, c3, c4, c6, c7⟩ := H
  refine ⟨hup h (m + 7) (.inl (2, 8, .inl (upd t.2.2.2 i (bI x)))), ?_, ⟨⟨by rw [hup_n (by omega)]; exact a0, a5, a6, a8, aI.up (by omega), al, ap, ab⟩, b, by rw [hup_n (by omega)]; exact c3, by rw [hup_n (by omega)]; exact c4, by rw [hup_n (by omega)]; exact c6, hup_s⟩, fun _ _ _ _ _ a => hup_n a⟩
  unfold sZ
  rw [c7]
  simp only []
  rw [if_pos ⟨trivial, nI_in hi (by decide)⟩, nI_clamp (by omega), show vp_nar .boolean (bI x) = bI x by cases x <;> decide +kernel]
theorem M_fails (H : MP h m F tx len pl o n t) {x y : Int32} : f_M_fails m x y h = some (x, hup h m (ocell 8 40 (fset F 7 (.int y)))) ∧ MP (hup h m (ocell 8 40 (fset F 7 (.int y)))) m (fset F 7 (.int y)) tx len pl o n t := by
  refine ⟨?_, H.obj (peq_set (Or.inl rfl)) (by rw [fset_n (by decide)]; exact H.1.2.2.2.1) H.1.2.2.2.2.2.2.1 (by rw [fset_n (by decide)]; exact H.2.1.2.2.2.2.1) (by rw [fset_n (by decide)]; exact H.2.1.2.2.2.2.2)⟩
  unfold f_M_fails
  rw [if_pos H.ob, oc_p H.1.1 (by decide)]
  rfl
theorem MP.at8 (H : MP h m F tx len pl o n t) {x : Nat} (hx : x ≤ 60) : MP (hup h m (ocell 8 40 (fset F 8 (.int (nI x))))) m (fset F 8 (.int (nI x))) tx len x o n t :=
  H.obj (peq_set (Or.inr (Or.inl rfl))) fset_s hx (by rw [fset_n (by decide)]; exact H.2.1.2.2.2.2.1) (by rw [fset_n (by decide)]; exact H.2.1.2.2.2.2.2)
/-- a sign -/
theorem M_sign (H : MP h m F tx len pl o n t) {c : Nat} (hc : c < 128) : (∀ j, sgn tx len c pl = .ok j → ∃ h' F', f_M_sign m (nI c) h = some (0, h') ∧ MP h' m F' tx len j o n t ∧ PEq F F' ∧ PC h h' m ∧ F' 7 = F 7) ∧ ∀ e, sgn tx len c pl = .error e → e.1 = 1 ∧ ∃ h' F', f_M_sign m (nI c) h = some (1, h') ∧ MP h' m F' tx len e.2 o n t ∧ PEq F F' ∧ PC h h' m ∧ F' 7 = .int (nI e.2) := by
  obtain ⟨E1, -⟩ := M_here H.1
  have H1 := H.at8 (sk_60 H.1)
  have hb := H.1.2.2.2.2.2.2.2
  have l60 := H.1.2.2.2.2.2.1
  have st : f_M_sign m (nI c) h = if bt' tx len (sk tx len pl) = nI c then (gI (hup h m (ocell 8 40 (fset F 8 (.int (nI (sk tx len pl)))))) m 8 8).bind (fun i4 => (pV (hup h m (ocell 8 40 (fset F 8 (.int (nI (sk tx len pl)))))) m 8 8 (.int (i4 + (1 : Int32)))).bind fun h6 => some ((0 : Int32), h6)) else (gI (hup h m (ocell 8 40 (fset F 8 (.int (nI (sk tx len pl)))))) m 8 8).bind fun i8 => zb2 (f_M_fails m (1 : Int32) i8 (hup h m (ocell 8 40 (fset F 8 (.int (nI (sk tx len pl))))))) fun i11 h12 => some (i11, h12) := by
    unfold f_M_sign
    rw [if_pos H.ob, E1, zb2_s]
  unfold sgn
  by_cases g : sk tx len pl < len ∧ tx (sk tx len pl) = c
  · refine ⟨fun j hj => ?_, fun e he => ?_⟩
    · rw [if_pos g] at hj
      cases hj
      rw [st, if_pos ((bt_eq hc hb).mpr g), H1.1.g8, Option.bind_some, nI_1, (H1.1.p8 (x := sk tx len pl + 1) (by omega)).1, Option.bind_some]
      exact ⟨_, _, rfl, H1.at8 (by omega), (peq_set (Or.inr (Or.inl rfl))).trans (peq_set (Or.inr (Or.inl rfl))), PC.obj.trans PC.obj, by rw [fset_n (by decide), fset_n (by decide)]⟩
    · rw [if_pos g] at he; cases he
  · refine ⟨fun j hj => ?_, fun e he => ?_⟩
    · rw [if_neg g] at hj; cases hj
    · rw [if_neg g] at he
      cases he
      obtain ⟨E2, H2⟩ := M_fails H1 (x := 1) (y := nI (sk tx len pl))
      rw [st, if_neg (fun x => g ((bt_eq hc hb).mp x)), H1.1.g8, Option.bind_some, E2, zb2_s]
      exact ⟨rfl, _, _, rfl, H2, (peq_set (Or.inr (Or.inl rfl))).trans (peq_set (Or.inl rfl)), PC.obj.trans PC.obj, fset_s⟩
end
