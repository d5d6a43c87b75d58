/-! ===== the reference: blanks, words ===== -/
theorem fset_fset {F : Nat → Value} {k : Nat} {v w : Value} : fset (fset F k v) k w = fset F k w := by
  funext j
  unfold fset
  split <;> rfl
theorem fset_id {F : Nat → Value} {k : Nat} {v : Value} (h : F k = v) : fset F k v = F := by
  funext j
  unfold fset
  split
  · rename_i e; rw [e, h]
  · rfl
theorem fset_comm {F : Nat → Value} {k j : Nat} {v w : Value} (h : k ≠ j) : fset (fset F k v) j w = fset (fset F j w) k v := by
  funext i
  unfold fset
  by_cases a : i = j
  · rw [if_pos a, if_neg (by omega), if_pos a]
  · rw [if_neg a]
    by_cases b : i = k
    · rw [if_pos b, if_pos b]
    · rw [if_neg b, if_neg b, if_neg a]
/-- the reference with a text, its place at pl -/
def MTx (h : Hp) (m : Nat) (F : Nat → Value) (tx : Nat → Nat) (len pl : Nat) : Prop := h m = some (ocell 8 40 F) ∧ F 5 = .ref (m + 5) ∧ F 6 = .int (nI len) ∧ F 8 = .int (nI pl) ∧ IA h (m + 5) 80 tx ∧ len ≤ 60 ∧ pl ≤ 60 ∧ ∀ j, j < len → tx j < 256
section
variable {h : Hp} {m len pl : Nat} {F : Nat → Value} {tx : Nat → Nat}
theorem MTx.o (H : MTx h m F tx len pl) : isO h m 8 = true := oc_o H.1
theorem MTx.g5 (H : MTx h m F tx len pl) : gA h m 8 5 = some (some (m + 5)) := oc_a H.1 (by decide) H.2.1
theorem MTx.g6 (H : MTx h m F tx len pl) : gI h m 8 6 = some (nI len) := oc_i H.1 (by decide) H.2.2.1
theorem MTx.g8 (H : MTx h m F tx len pl) : gI h m 8 8 = some (nI pl) := oc_i H.1 (by decide) H.2.2.2.1
theorem MTx.at (H : MTx h m F tx len pl) {i : Nat} (hi : i < len) : aI h 0 (m + 5) (nI i) = some (nI (tx i)) := H.2.2.2.2.1.get (by have := H.2.2.2.2.2.1; omega) (by decide)
theorem MTx.p8 (H : MTx h m F tx len pl) {x : Nat} (hx : x ≤ 60) : pV h m 8 8 (.int (nI x)) = some (hup h m (ocell 8 40 (fset F 8 (.int (nI x))))) ∧ MTx (hup h m (ocell 8 40 (fset F 8 (.int (nI x))))) m (fset F 8 (.int (nI x))) tx len x :=
  ⟨oc_p H.1 (by decide), hup_s, by rw [fset_n (by decide)]; exact H.2.1, by rw [fset_n (by decide)]; exact H.2.2.1, fset_s, H.2.2.2.2.1.up (by omega), H.2.2.2.2.2.1, hx, H.2.2.2.2.2.2.2⟩
theorem M_here38 (H : MTx h m F tx len pl) : f_M_here_38 m h = some (bt' tx len pl, h) := by
  have hl := H.2.2.2.2.2.1
  have hp := H.2.2.2.2.2.2.1
  unfold f_M_here_38 bt'
  rw [H.g8, Option.bind_some, H.g6, Option.bind_some]
  by_cases c : pl < len
  · rw [if_neg (nI_ge c (by omega)), H.g5, if_pos c]
    simp only [Option.bind_some]
    rw [H.at c]
    rfl
  · rw [if_pos (nI_le (by omega) (by omega)), if_neg c]
theorem M_here_loop : ∀ (k f pl : Nat) (h : Hp) (F : Nat → Value), MTx h m F tx len pl → len - pl ≤ k → f_M_here_0 m (f + k + 1) h = some (bt' tx len (sk tx len pl), hup h m (ocell 8 40 (fset F 8 (.int (nI (sk tx len pl)))))) := by
  intro k
  induction k with
  | zero =>
    intro f pl h F H hk
    have hl := H.2.2.2.2.2.1
    have hp := H.2.2.2.2.2.2.1
    show t_M_here_0 _ _ _ = _
    unfold t_M_here_0
    rw [H.g8, Option.bind_some, H.g6, Option.bind_some, if_pos (nI_le (by omega) (by omega)), M_here38 H, sk_stop (by omega), fset_id H.2.2.2.1, hup_id H.1]
  | succ k ih =>
    intro f pl h F H hk
    have hl := H.2.2.2.2.2.1
    have hp := H.2.2.2.2.2.2.1
    show t_M_here_0 _ (f_M_here_0 m (f + k + 1)) _ = _
    unfold t_M_here_0
    rw [H.g8, Option.bind_some, H.g6, Option.bind_some]
    by_cases c : pl < len
    · have ht := H.2.2.2.2.2.2.2 _ c
      rw [if_neg (nI_ge c (by omega)), H.g5]
      simp only [Option.bind_some]
      rw [H.at c]
      simp only [Option.bind_some]
      by_cases g : tx pl = 32
      · obtain ⟨E, H1⟩ := H.p8 (x := pl + 1) (by omega)
        rw [if_pos (show nI (tx pl) = (32 : Int32) by rw [g]; rfl), nI_1, E, Option.bind_some, ih f (pl + 1) _ _ H1 (by omega), sk_step ⟨c, g⟩, hup_u, fset_fset]
      · rw [if_neg (show ¬ nI (tx pl) = (32 : Int32) from fun e => g ((nI_eq (by omega) (by decide)).mp (show nI (tx pl) = nI 32 from e))), M_here38 H, sk_stop (fun e => g e.2), fset_id H.2.2.2.1, hup_id H.1]
    · rw [if_pos (nI_le (by omega) (by omega)), M_here38 H, sk_stop (fun e => c e.1), fset_id H.2.2.2.1, hup_id H.1]
theorem sk_60 (H : MTx h m F tx len pl) : sk tx len pl ≤ 60 := by
  have hl := H.2.2.2.2.2.1
  have hp := H.2.2.2.2.2.2.1
  by_cases c : pl ≤ len
  · have := (sk_ge (tx := tx) (len - pl) pl (Nat.le_refl _)).2.1 c
    omega
  · rw [sk_stop (by omega)]
    exact hp
theorem M_here (H : MTx h m F tx len pl) : f_M_here m h = some (bt' tx len (sk tx len pl), hup h m (ocell 8 40 (fset F 8 (.int (nI (sk tx len pl)))))) ∧ MTx (hup h m (ocell 8 40 (fset F 8 (.int (nI (sk tx len pl)))))) m (fset F 8 (.int (nI (sk tx len pl)))) tx len (sk tx len pl) := by
  refine ⟨?_, (H.p8 (sk_60 H)).2⟩
  unfold f_M_here
  rw [if_pos H.o]
  exact M_here_loop 60 (FU - 61) pl h F H (by have := H.2.2.2.2.2.1; omega)
end
/-- the first word of a number -/
def wsl (w : Nat) : Nat → Nat → Option Nat
  | 0, _ => none
  | f + 1, k => if w = wc k then some k else wsl w f (k + 1)
theorem wsl_wfd {tx : Nat → Nat} {i n : Nat} (h : ∀ j, j < n → 97 ≤ tx (i + j) ∧ tx (i + j) ≤ 122) : ∀ f k, k + f = 13 → wsl (cw tx i n) f k = wfd tx i n f k := by
  intro f
  induction f with
  | zero => intro k _; rfl
  | succ f ih =>
    intro k hk
    unfold wsl wfd
    by_cases c : cw tx i n = wc k
    · rw [if_pos c, if_pos ((cw_hit (by omega) h).mp c)]
    · rw [if_neg c, if_neg (fun e => c ((cw_hit (by omega) h).mpr e)), ih (k + 1) (by omega)]
theorem code_0 : f_M_code 111 108 100 0 0 = some (lN (wc 0)) := by decide +kernel
theorem code_1 : f_M_code 110 101 119 0 0 = some (lN (wc 1)) := by decide +kernel
theorem code_2 : f_M_code 109 105 100 0 0 = some (lN (wc 2)) := by decide +kernel
theorem code_3 : f_M_code 97 116 0 0 0 = some (lN (wc 3)) := by decide +kernel
theorem code_4 : f_M_code 112 108 97 105 110 = some (lN (wc 4)) := by decide +kernel
theorem code_5 : f_M_code 115 117 109 115 0 = some (lN (wc 5)) := by decide +kernel
theorem code_6 : f_M_code 114 111 111 116 0 = some (lN (wc 6)) := by decide +kernel
theorem code_7 : f_M_code 109 101 97 110 0 = some (lN (wc 7)) := by decide +kernel
theorem code_8 : f_M_code 108 101 97 115 116 = some (lN (wc 8)) := by decide +kernel
theorem code_9 : f_M_code 109 111 115 116 0 = some (lN (wc 9)) := by decide +kernel
theorem code_10 : f_M_code 98 97 99 107 0 = some (lN (wc 10)) := by decide +kernel
theorem code_11 : f_M_code 108 105 110 107 0 = some (lN (wc 11)) := by decide +kernel
theorem code_12 : f_M_code 98 111 116 104 0 = some (lN (wc 12)) := by decide +kernel
