/-! ===== the text: blanks, letters, words; the class's reader ===== -/
def isL (c : Nat) : Bool := decide (97 ≤ c ∧ c ≤ 122)
/-- the byte at i, none behind the text -/
def bt' (tx : Nat → Nat) (len i : Nat) : Int32 := if i < len then nI (tx i) else -1
def skn (tx : Nat → Nat) (len : Nat) : Nat → Nat → Nat
  | 0, i => i
  | k + 1, i => if i < len ∧ tx i = 32 then skn tx len k (i + 1) else i
def sk (tx : Nat → Nat) (len i : Nat) : Nat := skn tx len (len - i) i
theorem skn_fix {tx : Nat → Nat} {len : Nat} : ∀ (k i : Nat), len - i ≤ k → skn tx len k i = sk tx len i := by
  intro k
  induction k with
  | zero => intro i h; unfold sk; rw [show len - i = 0 by omega]
  | succ k ih =>
    intro i h
    unfold sk
    by_cases c : i < len ∧ tx i = 32
    · obtain ⟨d, hd⟩ : ∃ d, len - i = d + 1 := ⟨len - i - 1, by omega⟩
      rw [hd, skn, skn, if_pos c, if_pos c, ih (i + 1) (by omega)]
      unfold sk
      rw [show len - (i + 1) = d by omega]
    · rw [skn, if_neg c]
      cases hd : len - i with
      | zero => rfl
      | succ d => rw [skn, if_neg c]
theorem sk_step {tx : Nat → Nat} {len i : Nat} (h : i < len ∧ tx i = 32) : sk tx len i = sk tx len (i + 1) := by
  rw [← skn_fix (len - i) i (Nat.le_refl _)]
  obtain ⟨d, hd⟩ : ∃ d, len - i = d + 1 := ⟨len - i - 1, by omega⟩
  rw [hd, skn, if_pos h, skn_fix d (i + 1) (by omega)]
theorem sk_stop {tx : Nat → Nat} {len i : Nat} (h : ¬ (i < len ∧ tx i = 32)) : sk tx len i = i := by
  unfold sk
  cases hd : len - i with
  | zero => rfl
  | succ d => rw [skn, if_neg h]
theorem sk_ge {tx : Nat → Nat} {len : Nat} : ∀ (k i : Nat), len - i ≤ k → i ≤ sk tx len i ∧ (i ≤ len → sk tx len i ≤ len) ∧ ¬ (sk tx len i < len ∧ tx (sk tx len i) = 32) := by
  intro k
  induction k with
  | zero => intro i h; rw [sk_stop (by omega)]; omega
  | succ k ih =>
    intro i h
    by_cases c : i < len ∧ tx i = 32
    · rw [sk_step c]
      have := ih (i + 1) (by omega)
      exact ⟨by omega, fun _ => this.2.1 (by omega), this.2.2⟩
    · rw [sk_stop c]
      exact ⟨Nat.le_refl _, fun h => h, c⟩
/-- how many letters come -/
def lts (tx : Nat → Nat) (len : Nat) : Nat → Nat → Nat
  | 0, _ => 0
  | k + 1, i => if i < len ∧ isL (tx i) = true then 1 + lts tx len k (i + 1) else 0
def lt (tx : Nat → Nat) (len i : Nat) : Nat := lts tx len (len - i) i
theorem lt_step {tx : Nat → Nat} {len i : Nat} (h : i < len ∧ isL (tx i) = true) : lt tx len i = 1 + lt tx len (i + 1) := by
  unfold lt
  obtain ⟨d, hd⟩ : ∃ d, len - i = d + 1 := ⟨len - i - 1, by omega⟩
  rw [hd, lts, if_pos h, show len - (i + 1) = d by omega]
theorem lt_stop {tx : Nat → Nat} {len i : Nat} (h : ¬ (i < len ∧ isL (tx i) = true)) : lt tx len i = 0 := by
  unfold lt
  cases hd : len - i with
  | zero => rfl
  | succ d => rw [lts, if_neg h]
theorem lt_le {tx : Nat → Nat} {len : Nat} : ∀ (k i : Nat), len - i ≤ k → lt tx len i ≤ len - i ∧ ∀ j, j < lt tx len i → i + j < len ∧ isL (tx (i + j)) = true := by
  intro k
  induction k with
  | zero => intro i h; rw [lt_stop (by omega)]; exact ⟨by omega, fun j hj => by omega⟩
  | succ k ih =>
    intro i h
    by_cases c : i < len ∧ isL (tx i) = true
    · rw [lt_step c]
      have := ih (i + 1) (by omega)
      refine ⟨by omega, fun j hj => ?_⟩
      cases j with
      | zero => exact c
      | succ j =>
        have := this.2 j (by omega)
        rw [show i + (j + 1) = i + 1 + j by omega]
        exact this
    · rw [lt_stop c]; exact ⟨by omega, fun j hj => by omega⟩
/-- the words -/
def nm (k : Nat) : List Nat := [[111, 108, 100], [110, 101, 119], [109, 105, 100], [97, 116], [112, 108, 97, 105, 110], [115, 117, 109, 115], [114, 111, 111, 116], [109, 101, 97, 110], [108, 101, 97, 115, 116], [109, 111, 115, 116], [98, 97, 99, 107], [108, 105, 110, 107], [98, 111, 116, 104]].getD k []
theorem nm_len : ∀ t, t < 13 → f_JS_length t = some (nI (nm t).length) := by decide +kernel
theorem nm_at : ∀ t, t < 13 → ∀ j, j < 5 → j < (nm t).length → f_JS_charAt t (nI j) = some (nI ((nm t).getD j 0)) := by decide +kernel
theorem nm_5 : ∀ t, t < 13 → 2 ≤ (nm t).length ∧ (nm t).length ≤ 5 := by decide +kernel
theorem nm_3 : ∀ t, t < 13 → t ≠ 3 → 3 ≤ (nm t).length := by decide +kernel
theorem nm_lt : ∀ t, t < 13 → ∀ j, j < 5 → (nm t).getD j 0 < 128 := by decide +kernel
theorem nm_of : ∀ t, t < 13 → f_R_nameOf (nI t) = some t := by decide +kernel
/-- the word k stands at i, n letters long -/
def hit (tx : Nat → Nat) (i n k : Nat) : Bool := decide ((nm k).length = n ∧ ∀ j, j < n → tx (i + j) = (nm k).getD j 0)
def wfd (tx : Nat → Nat) (i n : Nat) : Nat → Nat → Option Nat
  | 0, _ => none
  | f + 1, k => if hit tx i n k then some k else wfd tx i n f (k + 1)
def wd (tx : Nat → Nat) (i n : Nat) : Option Nat := wfd tx i n 13 0
def wI (r : Option Nat) : Int32 := match r with
  | some k => nI k
  | none => -1
/-- the reader at R: place pl, fault fk fp -/
def RO (h : Hp) (R : Nat) (tx : Nat → Nat) (len pl : Nat) (fk fp : Int32) (P : Value) : Prop := h R = some (.inr (5, [.ref (R + 1), .int (nI len), .int (nI pl), .int fk, .int fp, P])) ∧ IA h (R + 1) 60 tx ∧ len ≤ 60 ∧ pl ≤ 60 ∧ ∀ j, j < len → tx j < 256
section
variable {h : Hp} {R len pl : Nat} {tx : Nat → Nat} {fk fp : Int32} {P : Value}
theorem RO.o (H : RO h R tx len pl fk fp P) : isO h R 5 = true := by simp [isO, H.1]
theorem RO.g0 (H : RO h R tx len pl fk fp P) : gA h R 5 0 = some (some (R + 1)) := by simp [gA, gV, H.1]
theorem RO.g1 (H : RO h R tx len pl fk fp P) : gI h R 5 1 = some (nI len) := by simp [gI, gV, H.1]
theorem RO.g2 (H : RO h R tx len pl fk fp P) : gI h R 5 2 = some (nI pl) := by simp [gI, gV, H.1]
theorem RO.g3 (H : RO h R tx len pl fk fp P) : gI h R 5 3 = some fk := by simp [gI, gV, H.1]
theorem RO.p2 (H : RO h R tx len pl fk fp P) {x : Nat} (hx : x ≤ 60) : ∃ e, pV h R 5 2 (.int (nI x)) = some (hup h R e) ∧ RO (hup h R e) R tx len x fk fp P :=
  ⟨_, by simp [pV, H.1], hup_s, H.2.1.up (by omega), H.2.2.1, hx, H.2.2.2.2⟩
theorem R_byteAt (H : RO h R tx len pl fk fp P) {i : Nat} (hi : i < 1000) : f_R_byteAt R h (nI i) = some (bt' tx len i) := by
  unfold f_R_byteAt bt'
  rw [if_pos H.o, if_neg (nI_pos (by omega)), H.g1, Option.bind_some]
  have := H.2.2.1
  by_cases c : i < len
  · rw [if_neg (nI_ge c (by omega)), if_pos (show nI i < (60 : Int32) from nI_lt (b := 60) (by omega) (by decide)), H.g0, Option.bind_some, Option.bind_some, H.2.1.get (by omega) (by decide), Option.bind_some, if_pos c]
  · rw [if_pos (nI_le (by omega) (by omega)), if_neg c]
theorem bt_eq {i c : Nat} (hc : c < 128) (htx : ∀ j, j < len → tx j < 256) : bt' tx len i = nI c ↔ i < len ∧ tx i = c := by
  unfold bt'
  by_cases h : i < len
  · rw [if_pos h, nI_eq (by have := htx i h; omega) (by omega)]
    exact ⟨fun e => ⟨h, e⟩, fun e => e.2⟩
  · rw [if_neg h]
    exact ⟨fun e => absurd e.symm (nI_m1 (by omega)), fun e => absurd e.1 h⟩
theorem R_skip_loop : ∀ (k f j pl : Nat) (h : Hp), RO h R tx len pl fk fp P → len - pl ≤ k → j + k = 60 → ∃ h', f_R_skipBlanks_2 R (f + k + 1) (nI j) h = some h' ∧ RO h' R tx len (sk tx len pl) fk fp P ∧ ∀ c, c ≠ R → h' c = h c := by
  intro k
  induction k with
  | zero =>
    intro f j pl h H hk hj
    refine ⟨h, ?_, ?_, fun _ _ => rfl⟩
    · show t_R_skipBlanks_2 _ _ _ _ = _
      unfold t_R_skipBlanks_2
      rw [if_pos (show (60 : Int32) ≤ nI j from nI_le (a := 60) (by omega) (by omega))]
    · rw [sk_stop (by omega)]; exact H
  | succ k ih =>
    intro f j pl h H hk hj
    have hl := H.2.2.2.1
    have hb := R_byteAt H (i := pl) (by omega)
    have st : f_R_skipBlanks_2 R (f + (k + 1) + 1) (nI j) h = if bt' tx len pl = (32 : Int32) then (gI h R 5 2).bind fun i5 => (pV h R 5 2 (.int (i5 + (1 : Int32)))).bind fun h7 => f_R_skipBlanks_2 R (f + k + 1) (nI j + 1) h7 else some h := by
      show t_R_skipBlanks_2 _ (f_R_skipBlanks_2 R (f + k + 1)) _ _ = _
      unfold t_R_skipBlanks_2
      rw [if_neg (show ¬ (60 : Int32) ≤ nI j from nI_ge (b := 60) (by omega) (by decide)), H.g2, Option.bind_some, hb, Option.bind_some]
    rw [st]
    by_cases c : pl < len ∧ tx pl = 32
    · obtain ⟨e, E, H1⟩ := H.p2 (x := pl + 1) (by have := H.2.2.1; omega)
      rw [if_pos (show bt' tx len pl = (32 : Int32) from (bt_eq (c := 32) (by decide) H.2.2.2.2).mpr c), H.g2, Option.bind_some, nI_1, E, Option.bind_some, nI_1]
      obtain ⟨h', A, B, C⟩ := ih f (j + 1) (pl + 1) _ H1 (by omega) (by omega)
      rw [sk_step c]
      exact ⟨h', A, B, fun c hc => by rw [C c hc, hup_n hc]⟩
    · rw [if_neg (show ¬ bt' tx len pl = (32 : Int32) from fun e => c ((bt_eq (c := 32) (by decide) H.2.2.2.2).mp e)), sk_stop c]
      exact ⟨h, rfl, H, fun _ _ => rfl⟩
theorem R_skip (H : RO h R tx len pl fk fp P) : ∃ h', f_R_skipBlanks R h = some h' ∧ RO h' R tx len (sk tx len pl) fk fp P ∧ ∀ c, c ≠ R → h' c = h c := by
  unfold f_R_skipBlanks
  rw [if_pos H.o]
  exact R_skip_loop 60 (FU - 61) 0 pl h H (by have := H.2.2.1; omega) rfl
theorem isL_i {c : Nat} (h : c < 256) : isL c = true ↔ ¬ nI c < (97 : Int32) ∧ ¬ (122 : Int32) < nI c := by
  unfold isL
  rw [decide_eq_true_iff, show (97 : Int32) = nI 97 from rfl, show (122 : Int32) = nI 122 from rfl, nI_ltI (by omega) (by decide), nI_ltI (by decide) (by omega)]
  omega
theorem R_let_loop (H : RO h R tx len pl fk fp P) : ∀ (k f j : Nat), j + k = 60 → f_R_lettersHere_4 R h (f + k + 1) (nI j) (nI j) = some (nI (j + lts tx len k (pl + j))) := by
  intro k
  induction k with
  | zero =>
    intro f j hj
    show t_R_lettersHere_4 _ _ _ _ _ = _
    unfold t_R_lettersHere_4
    rw [if_pos (show (60 : Int32) ≤ nI j from nI_le (a := 60) (by omega) (by omega))]
    rfl
  | succ k ih =>
    intro f j hj
    have hp := H.2.2.2.1
    have hb := R_byteAt H (i := pl + j) (by omega)
    show t_R_lettersHere_4 _ _ (f_R_lettersHere_4 R h (f + k + 1)) _ _ = _
    unfold t_R_lettersHere_4
    rw [if_neg (show ¬ (60 : Int32) ≤ nI j from nI_ge (b := 60) (by omega) (by decide)), H.g2]
    simp only [Option.bind_some]
    rw [nI_add, hb]
    simp only [Option.bind_some]
    unfold lts bt'
    by_cases c : pl + j < len
    · have ht := H.2.2.2.2 _ c
      rw [if_pos c]
      by_cases g : isL (tx (pl + j)) = true
      · have gg := (isL_i ht).mp g
        rw [if_neg gg.1, if_neg gg.2, if_pos ⟨c, g⟩, nI_1, ih f (j + 1) (by omega), show pl + (j + 1) = pl + j + 1 by omega]
        congr 2
        omega
      · rw [if_neg (show ¬ (pl + j < len ∧ isL (tx (pl + j)) = true) from fun x => g x.2)]
        by_cases g1 : nI (tx (pl + j)) < (97 : Int32)
        · rw [if_pos g1]; rfl
        · rw [if_neg g1, if_pos (by
            by_cases g2 : (122 : Int32) < nI (tx (pl + j))
            · exact g2
            · exact absurd ((isL_i ht).mpr ⟨g1, g2⟩) g)]
          rfl
    · rw [if_neg c, if_pos (by decide), if_neg (show ¬ (pl + j < len ∧ isL (tx (pl + j)) = true) from fun x => c x.1)]
      rfl
theorem lts_fix {k i : Nat} (hk : len - i ≤ k) : lts tx len k i = lt tx len i := by
  induction k generalizing i with
  | zero => rw [lt_stop (by omega)]; rfl
  | succ k ih =>
    unfold lts
    by_cases c : i < len ∧ isL (tx i) = true
    · rw [if_pos c, lt_step c, ih (by omega)]
    · rw [if_neg c, lt_stop c]
theorem R_letters (H : RO h R tx len pl fk fp P) : f_R_lettersHere R h = some (nI (lt tx len pl)) := by
  unfold f_R_lettersHere
  rw [if_pos H.o]
  have := R_let_loop H 60 (FU - 61) 0 rfl
  rw [Nat.zero_add, Nat.add_zero, lts_fix (by have := H.2.2.1; omega)] at this
  exact this
end
