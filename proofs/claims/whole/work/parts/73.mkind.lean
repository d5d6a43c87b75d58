/-! ===== the reference: the kind of a word ===== -/
section
variable {h : Hp} {m len pl : Nat} {F : Nat → Value} {tx : Nat → Nat}
theorem M_380 {x4 x5 s0 : Int32} : f_M_readKind_380 m s0 x4 x5 h = some ((if x4 < 0 then (if x5 < 0 then s0 else x5) else x4), h) := by
  unfold f_M_readKind_380
  split
  · split <;> rfl
  · rfl
theorem M_311 {w : Nat} {s0 x4 : Int32} (hw : w < 2 ^ 63) : f_M_readKind_311 m s0 (lN w) x4 h = some ((if x4 < 0 then (if s0 < 0 then wI (wsl w 3 10) else s0) else x4), h) := by
  have e : ∀ k, k < 13 → ((lN w = lN (wc k)) ↔ w = wc k) := fun k hk => pk_lEQ hw (by have := wc_lt k hk; omega)
  unfold f_M_readKind_311
  rw [code_10, Option.bind_some, code_11, Option.bind_some, code_12, Option.bind_some]
  unfold wsl
  by_cases c0 : w = wc 10
  · rw [if_pos ((e 10 (by decide)).mpr c0), if_pos c0, M_380]; rfl
  · rw [if_neg (fun x => c0 ((e 10 (by decide)).mp x)), if_neg c0]
    unfold wsl
    by_cases c1 : w = wc 11
    · rw [if_pos ((e 11 (by decide)).mpr c1), if_pos c1, M_380]; rfl
    · rw [if_neg (fun x => c1 ((e 11 (by decide)).mp x)), if_neg c1]
      unfold wsl
      by_cases c2 : w = wc 12
      · rw [if_pos ((e 12 (by decide)).mpr c2), if_pos c2, M_380]; rfl
      · rw [if_neg (fun x => c2 ((e 12 (by decide)).mp x)), if_neg c2, M_380]; rfl
theorem wcne : ∀ a, a < 13 → ∀ b, b < 13 → wc a = wc b → a = b := by decide +kernel
theorem wsl_no {w a : Nat} (ha : a < 13) (c : w = wc a) : ∀ f k, a < k → k + f ≤ 13 → wsl w f k = none := by
  intro f
  induction f with
  | zero => intro k _ _; rfl
  | succ f ih =>
    intro k hk hf
    unfold wsl
    rw [if_neg (fun e => by have := wcne a ha k (by omega) (c.symm.trans e); omega)]
    exact ih (k + 1) (by omega) (by omega)
theorem M_219 {w : Nat} {s0 : Int32} (hw : w < 2 ^ 63) : f_M_readKind_219 m s0 (lN w) h = some ((if s0 < 0 then wI (wsl w 7 6) else s0), h) := by
  have e : ∀ k, k < 13 → ((lN w = lN (wc k)) ↔ w = wc k) := fun k hk => pk_lEQ hw (by have := wc_lt k hk; omega)
  unfold f_M_readKind_219
  rw [code_6, Option.bind_some, code_7, Option.bind_some, code_8, Option.bind_some, code_9, Option.bind_some]
  unfold wsl
  by_cases c0 : w = wc 6
  · rw [if_pos ((e 6 (by decide)).mpr c0), if_pos c0, M_311 hw]; rfl
  · rw [if_neg (fun x => c0 ((e 6 (by decide)).mp x)), if_neg c0]
    unfold wsl
    by_cases c1 : w = wc 7
    · rw [if_pos ((e 7 (by decide)).mpr c1), if_pos c1, M_311 hw]; rfl
    · rw [if_neg (fun x => c1 ((e 7 (by decide)).mp x)), if_neg c1]
      unfold wsl
      by_cases c2 : w = wc 8
      · rw [if_pos ((e 8 (by decide)).mpr c2), if_pos c2, M_311 hw]; rfl
      · rw [if_neg (fun x => c2 ((e 8 (by decide)).mp x)), if_neg c2]
        unfold wsl
        by_cases c3 : w = wc 9
        · rw [if_pos ((e 9 (by decide)).mpr c3), if_pos c3, M_311 hw]; rfl
        · rw [if_neg (fun x => c3 ((e 9 (by decide)).mp x)), if_neg c3, M_311 hw]; rfl
theorem M_96 {w : Nat} (hw : w < 2 ^ 63) : f_M_readKind_96 m (lN w) h = some (wI (wsl w 13 0), h) := by
  have e : ∀ k, k < 13 → ((lN w = lN (wc k)) ↔ w = wc k) := fun k hk => pk_lEQ hw (by have := wc_lt k hk; omega)
  unfold f_M_readKind_96
  rw [code_0, Option.bind_some, code_1, Option.bind_some, code_2, Option.bind_some, code_3, Option.bind_some, code_4, Option.bind_some, code_5, Option.bind_some]
  unfold wsl
  by_cases c0 : w = wc 0
  · rw [if_pos ((e 0 (by decide)).mpr c0), if_pos c0, M_219 hw]; rfl
  · rw [if_neg (fun x => c0 ((e 0 (by decide)).mp x)), if_neg c0]
    unfold wsl
    by_cases c1 : w = wc 1
    · rw [if_pos ((e 1 (by decide)).mpr c1), if_pos c1, M_219 hw]; rfl
    · rw [if_neg (fun x => c1 ((e 1 (by decide)).mp x)), if_neg c1]
      unfold wsl
      by_cases c2 : w = wc 2
      · rw [if_pos ((e 2 (by decide)).mpr c2), if_pos c2, M_219 hw]; rfl
      · rw [if_neg (fun x => c2 ((e 2 (by decide)).mp x)), if_neg c2]
        unfold wsl
        by_cases c3 : w = wc 3
        · rw [if_pos ((e 3 (by decide)).mpr c3), if_pos c3, M_219 hw]; rfl
        · rw [if_neg (fun x => c3 ((e 3 (by decide)).mp x)), if_neg c3]
          unfold wsl
          by_cases c4 : w = wc 4
          · rw [if_pos ((e 4 (by decide)).mpr c4), if_pos c4, M_219 hw]; rfl
          · rw [if_neg (fun x => c4 ((e 4 (by decide)).mp x)), if_neg c4]
            unfold wsl
            by_cases c5 : w = wc 5
            · rw [if_pos ((e 5 (by decide)).mpr c5), if_pos c5, M_219 hw]; rfl
            · rw [if_neg (fun x => c5 ((e 5 (by decide)).mp x)), if_neg c5, M_219 hw]; rfl
theorem isL_in {c : Nat} (hc : c < 256) : f_M_in (nI c).toInt64 97 122 = some (if isL c then 1 else 0) := by
  unfold f_M_in isL
  rw [nI_l (by omega), show (97 : Int64) = lN 97 from rfl, show (122 : Int64) = lN 122 from rfl]
  by_cases a : c < 97
  · rw [if_pos ((pk_lLT (by omega) (by decide)).mpr a), if_neg (by rw [decide_eq_true_iff]; omega)]
  · rw [if_neg (fun x => a ((pk_lLT (by omega) (by decide)).mp x))]
    by_cases b : 122 < c
    · rw [if_pos ((pk_lLT (by decide) (by omega)).mpr b), if_neg (by rw [decide_eq_true_iff]; omega)]
    · rw [if_neg (fun x => b ((pk_lLT (by decide) (by omega)).mp x)), if_pos (by rw [decide_eq_true_iff]; omega)]
theorem cw_le {i n : Nat} (htx : ∀ j, j < n → tx (i + j) < 256) : cw tx i n < 2 ^ 40 := by
  induction n with
  | zero => show 0 < 2 ^ 40; decide
  | succ n ih =>
    have := ih fun j hj => htx j (by omega)
    have := htx n (by omega)
    unfold cw
    split
    · rename_i c
      have : 27 * cw tx i n + (tx (i + n) - 96) ≤ 27 * 1000000000 + 256 := by omega
      exact Nat.lt_of_le_of_lt this (by decide)
    · decide
/-- letters from j on: n were read -/
theorem M_kind_loop {j : Nat} : ∀ (k f n : Nat) (h : Hp) (F : Nat → Value), MTx h m F tx len j → F 9 = .int (nI (j + n)) → n ≤ lt tx len j → lt tx len j = n + k → f_M_readKind_15 m (f + k + 1) (lN (cw tx j n)) h = some (wI (wsl (cw tx j (lt tx len j)) 13 0), hup h m (ocell 8 40 (fset F 9 (.int (nI (j + lt tx len j)))))) := by
  intro k
  induction k with
  | zero =>
    intro f n h F H h9 hn hk
    have hl := H.2.2.2.2.2.1
    have hp := H.2.2.2.2.2.2.1
    have l := lt_le (tx := tx) (len := len) (len - j) j (Nat.le_refl _)
    have g9 : gI h m 8 9 = some (nI (j + n)) := oc_i H.1 (by decide) h9
    have hc : cw tx j n < 2 ^ 40 := cw_le fun i hi => H.2.2.2.2.2.2.2 _ (l.2 i (by omega)).1
    have hc63 : cw tx j n < 2 ^ 63 := Nat.lt_trans hc (by decide)
    have e : lt tx len j = n := hk
    show t_M_readKind_15 _ _ _ _ = _
    unfold t_M_readKind_15
    rw [g9, Option.bind_some, H.g6, Option.bind_some, e]
    by_cases c : j + n < len
    · rw [if_neg (nI_ge c (by omega)), H.g5]
      simp only [Option.bind_some]
      rw [H.at c]
      simp only [Option.bind_some]
      have nl : isL (tx (j + n)) = false := by
        cases hh : isL (tx (j + n)) with
        | false => rfl
        | true =>
          exfalso
          have : ∀ (n i : Nat), lt tx len i = n → i + n < len → isL (tx (i + n)) = true → False := by
            intro n
            induction n with
            | zero => intro i h1 h2 h3; rw [Nat.add_zero] at h2 h3; rw [lt_step ⟨h2, h3⟩] at h1; omega
            | succ n ih =>
              intro i h1 h2 h3
              by_cases q : i < len ∧ isL (tx i) = true
              · rw [lt_step q] at h1
                exact ih (i + 1) (by omega) (by omega) (by rw [show i + 1 + n = i + (n + 1) by omega]; exact h3)
              · rw [lt_stop q] at h1; omega
          exact this n j e c hh
      rw [isL_in (H.2.2.2.2.2.2.2 _ c), nl]
      simp only [Option.bind_some]
      rw [if_pos (by decide), M_96 hc63, fset_id h9, hup_id H.1]
    · rw [if_pos (nI_le (by omega) (by omega)), M_96 hc63, fset_id h9, hup_id H.1]
  | succ k ih =>
    intro f n h F H h9 hn hk
    have hl := H.2.2.2.2.2.1
    have hp := H.2.2.2.2.2.2.1
    have l := lt_le (tx := tx) (len := len) (len - j) j (Nat.le_refl _)
    have g9 : gI h m 8 9 = some (nI (j + n)) := oc_i H.1 (by decide) h9
    have hc : cw tx j n < 2 ^ 40 := cw_le fun i hi => H.2.2.2.2.2.2.2 _ (l.2 i (by omega)).1
    have hc63 : cw tx j n < 2 ^ 63 := Nat.lt_trans hc (by decide)
    have c := l.2 n (by omega)
    have tb := H.2.2.2.2.2.2.2 _ c.1
    have ln : 97 ≤ tx (j + n) ∧ tx (j + n) ≤ 122 := by
      have := c.2
      unfold isL at this
      exact decide_eq_true_iff.mp this
    have st : f_M_readKind_15 m (f + (k + 1) + 1) (lN (cw tx j n)) h = f_M_readKind_82 m (f_M_readKind_15 m (f + k + 1)) (lN (cw tx j (n + 1))) h := by
      show t_M_readKind_15 _ (f_M_readKind_15 m (f + k + 1)) _ _ = _
      unfold t_M_readKind_15
      rw [g9, Option.bind_some, H.g6, Option.bind_some, if_neg (nI_ge c.1 (by omega)), H.g5]
      simp only [Option.bind_some]
      rw [H.at c.1]
      simp only [Option.bind_some]
      rw [isL_in tb, c.2]
      simp only [Option.bind_some]
      rw [if_neg (by decide)]
      by_cases g : cw tx j n ≤ 1000000000
      · rw [if_pos (show lN (cw tx j n) ≤ (1000000000 : Int64) from (pk_lLE hc63 (by decide)).mpr g), nI_l (by omega), show (27 : Int64) = lN 27 from rfl, show (96 : Int64) = lN 96 from rfl, lN_mul, lN_add, lN_sub (by omega)]
        rw [show 27 * cw tx j n + tx (j + n) - 96 = cw tx j (n + 1) by rw [cw, if_pos g]; omega]
      · rw [if_neg (show ¬ lN (cw tx j n) ≤ (1000000000 : Int64) from fun x => g ((pk_lLE hc63 (by decide)).mp x))]
        rw [show (2000000000 : Int64) = lN (cw tx j (n + 1)) by rw [cw, if_neg g]; rfl]
    rw [st]
    unfold f_M_readKind_82
    rw [g9, Option.bind_some, nI_1, oc_p H.1 (by decide), Option.bind_some]
    have H1 : MTx (hup h m (ocell 8 40 (fset F 9 (.int (nI (j + n + 1)))))) m (fset F 9 (.int (nI (j + n + 1)))) tx len j := ⟨hup_s, by rw [fset_n (by decide)]; exact H.2.1, by rw [fset_n (by decide)]; exact H.2.2.1, by rw [fset_n (by decide)]; exact H.2.2.2.1, H.2.2.2.2.1.up (by omega), H.2.2.2.2.2⟩
    rw [ih f (n + 1) _ _ H1 (by rw [fset_s, Nat.add_assoc]) (by omega) (by omega), hup_u, fset_fset]
/-- readKind -/
theorem M_readKind (H : MTx h m F tx len pl) : f_M_readKind m h = some (wI (wd tx (sk tx len pl) (lt tx len (sk tx len pl))), hup h m (ocell 8 40 (fset (fset F 8 (.int (nI (sk tx len pl)))) 9 (.int (nI (sk tx len pl + lt tx len (sk tx len pl))))))) := by
  obtain ⟨E, H1⟩ := M_here H
  have hl := H.2.2.2.2.2.1
  have l := lt_le (tx := tx) (len := len) (len - sk tx len pl) (sk tx len pl) (Nat.le_refl _)
  unfold f_M_readKind
  rw [if_pos H.o, E, zb2_s, H1.g8, Option.bind_some, oc_p H1.1 (by decide), Option.bind_some]
  have H2 : MTx (hup (hup h m (ocell 8 40 (fset F 8 (.int (nI (sk tx len pl)))))) m (ocell 8 40 (fset (fset F 8 (.int (nI (sk tx len pl)))) 9 (.int (nI (sk tx len pl)))))) m (fset (fset F 8 (.int (nI (sk tx len pl)))) 9 (.int (nI (sk tx len pl)))) tx len (sk tx len pl) := ⟨hup_s, by rw [fset_n (by decide)]; exact H1.2.1, by rw [fset_n (by decide)]; exact H1.2.2.1, by rw [fset_n (by decide)]; exact H1.2.2.2.1, H1.2.2.2.2.1.up (by omega), H1.2.2.2.2.2⟩
  have := M_kind_loop (j := sk tx len pl) (lt tx len (sk tx len pl)) (FU - lt tx len (sk tx len pl) - 1) 0 _ _ H2 (by rw [fset_s]; rfl) (Nat.zero_le _) (by omega)
  rw [show FU - lt tx len (sk tx len pl) - 1 + lt tx len (sk tx len pl) + 1 = FU by unfold FU; omega] at this
  rw [show (0 : Int64) = lN (cw tx (sk tx len pl) 0) from rfl, this, hup_u, hup_u, fset_fset]
  unfold wd
  rw [wsl_wfd (fun i hi => by
    have := (l.2 i hi).2
    unfold isL at this
    exact decide_eq_true_iff.mp this) 13 0 rfl]
end
