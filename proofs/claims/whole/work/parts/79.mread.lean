/-! ===== the reference: readNode ===== -/
theorem two_is : ∀ k, k < 13 → f_M_isTwo (nI k) = some (if 6 ≤ k ∧ k < 10 then 1 else 0) := by decide +kernel
theorem one_is : ∀ k, k < 13 → f_M_isOne (nI k) = some (if 10 ≤ k then 1 else 0) := by decide +kernel
theorem two_0 {k : Nat} (h : k < 13) (g : ¬ (6 ≤ k ∧ k < 10)) : f_M_isTwo (nI k) = some 0 := by rw [two_is k h, if_neg g]
theorem two_1 {k : Nat} (h : k < 13) (g : 6 ≤ k ∧ k < 10) : f_M_isTwo (nI k) = some 1 := by rw [two_is k h, if_pos g]
theorem one_0 {k : Nat} (h : k < 13) (g : ¬ 10 ≤ k) : f_M_isOne (nI k) = some 0 := by rw [one_is k h, if_neg g]
theorem one_1 {k : Nat} (h : k < 13) (g : 10 ≤ k) : f_M_isOne (nI k) = some 1 := by rw [one_is k h, if_pos g]
theorem dig_in : ∀ c, c < 256 → f_M_in (nI c).toInt64 48 55 = some (if 48 ≤ c ∧ c ≤ 55 then 1 else 0) := by decide +kernel
section
variable {h : Hp} {m len pl o n base : Nat} {F : Nat → Value} {tx : Nat → Nat} {t : Pt}
/-- a result with a fault -/
def Flt (x : Option (Int32 × Hp)) (h : Hp) (m : Nat) (F : Nat → Value) (tx : Nat → Nat) (len base : Nat) (t : Pt) (e : Nat × Nat) : Prop := (e.1 = 1 ∨ e.1 = 2) ∧ ∃ h' F' o' n' t', x = some (nI e.1, h') ∧ MP h' m F' tx len e.2 o' n' t' ∧ PEq F F' ∧ PC h h' m ∧ F' 7 = .int (nI e.2) ∧ ∀ j, j < base → t'.1 j = t.1 j ∧ t'.2.1 j = t.2.1 j
/-- a word without fault: behind it -/
theorem M_word0 (H : MP h m F tx len pl o n t) (ho : o < 8) (hbn : base + n < 320) {k : Nat} (hw : wd tx (sk tx len pl) (lt tx len (sk tx len pl)) = some k) : ∃ h' F', f_M_readNode m (nI base) h = (if nI k = (3 : Int32) then zb2 (f_M_here m h') fun i61 h62 => (f_M_in (i61).toInt64 (48 : Int64) (55 : Int64)).bind fun i64 => if i64 = 0 then (gI h62 m 8 8).bind (fun i75 => zb2 (f_M_fails m (1 : Int32) i75 h62) fun i78 h79 => some (i78, h79)) else (gA h62 m 8 4).bind fun r65 => (r65).bind fun a67 => (sI h62 a67 (nI (base + n)) (i61 - (48 : Int32))).bind fun h70 => (gI h70 m 8 8).bind fun i71 => (pV h70 m 8 8 (.int (i71 + (1 : Int32)))).bind fun h73 => f_M_readNode_125 m (nI k) (nI (base + n)) h73 else f_M_readNode_125 m (nI k) (nI (base + n)) h') ∧ MP h' m F' tx len (sk tx len pl + lt tx len (sk tx len pl)) o (n + 1) (upd t.1 (base + n) (nI k), t.2) ∧ PEq F F' ∧ PC h h' m ∧ F' 7 = F 7 := by
  have E1 := M_readKind H.1
  rw [hw] at E1
  have hb := H.1.2.2.2.2.2.2.2
  have l60 := H.1.2.2.2.2.2.1
  have s60 := sk_60 H.1
  have l := lt_le (tx := tx) (len := len) (len - sk tx len pl) (sk tx len pl) (Nat.le_refl _)
  obtain ⟨k13, -, t2, -, -⟩ := wd_some hw
  generalize sk tx len pl = j at *
  generalize lt tx len j = q at *
  have e0 : PEq F (fset (fset F 8 (.int (nI j))) 9 (.int (nI (j + q)))) := (peq_set (Or.inr (Or.inl rfl))).trans (peq_set (Or.inr (Or.inr (Or.inl rfl))))
  have H1 : MP (hup h m (ocell 8 40 (fset (fset F 8 (.int (nI j))) 9 (.int (nI (j + q)))))) m (fset (fset F 8 (.int (nI j))) 9 (.int (nI (j + q)))) tx len j o n t := H.obj e0 (by rw [fset_n (by decide), fset_s]) s60 (by rw [fset_n (by decide), fset_n (by decide)]; exact H.2.1.2.2.2.2.1) (by rw [fset_n (by decide), fset_n (by decide)]; exact H.2.1.2.2.2.2.2)
  have x7 : (fset (fset F 8 (.int (nI j))) 9 (.int (nI (j + q)))) 7 = F 7 := by rw [fset_n (by decide), fset_n (by decide)]
  have x9 : (fset (fset F 8 (.int (nI j))) 9 (.int (nI (j + q)))) 9 = .int (nI (j + q)) := fset_s
  have c0 : PC h (hup h m (ocell 8 40 (fset (fset F 8 (.int (nI j))) 9 (.int (nI (j + q)))))) m := PC.obj
  generalize fset (fset F 8 (.int (nI j))) 9 (.int (nI (j + q))) = F1 at *
  generalize hup h m (ocell 8 40 F1) = h1 at *
  have e1 : PEq F1 (fset F1 13 (.int (nI (n + 1)))) := peq_set (Or.inr (Or.inr (Or.inr (Or.inr rfl))))
  have H2 : MP (hup h1 m (ocell 8 40 (fset F1 13 (.int (nI (n + 1)))))) m (fset F1 13 (.int (nI (n + 1)))) tx len j o (n + 1) t := H1.obj e1 (by rw [fset_n (by decide)]; exact H1.1.2.2.2.1) s60 (by rw [fset_n (by decide)]; exact H1.2.1.2.2.2.2.1) fset_s
  obtain ⟨h3, E3, H3, C3⟩ := H2.s3 hbn (nI k)
  have e4 : PEq (fset F1 13 (.int (nI (n + 1)))) (fset (fset F1 13 (.int (nI (n + 1)))) 8 (.int (nI (j + q)))) := peq_set (Or.inr (Or.inl rfl))
  have H4 : MP (hup h3 m (ocell 8 40 (fset (fset F1 13 (.int (nI (n + 1)))) 8 (.int (nI (j + q)))))) m (fset (fset F1 13 (.int (nI (n + 1)))) 8 (.int (nI (j + q)))) tx len (j + q) o (n + 1) (upd t.1 (base + n) (nI k), t.2) := H3.obj e4 fset_s (by omega) (by rw [fset_n (by decide)]; exact H3.2.1.2.2.2.2.1) (by rw [fset_n (by decide)]; exact H3.2.1.2.2.2.2.2)
  refine ⟨_, _, ?_, H4, (e0.trans e1).trans e4, ((c0.trans PC.obj).trans C3).trans PC.obj, by rw [fset_n (by decide), fset_n (by decide)]; exact x7⟩
  unfold f_M_readNode
  rw [if_pos H.ob, E1, zb2_s, show wI (some k) = nI k from rfl, if_neg (nI_pos (by omega)), H1.g12, Option.bind_some, if_neg (show ¬ nI o = (8 : Int32) from fun x => by have := (nI_eq (by omega) (by decide)).mp (show nI o = nI 8 from x); omega), H1.g13, Option.bind_some, Option.bind_some, nI_1, oc_p H1.1.1 (by decide), Option.bind_some, H2.g3, Option.bind_some, Option.bind_some, nI_add, E3, Option.bind_some, oc_i H3.1.1 (by decide) (show (fset F1 13 (.int (nI (n + 1)))) 9 = .int (nI (j + q)) by rw [fset_n (by decide)]; exact x9), Option.bind_some, oc_p H3.1.1 (by decide), Option.bind_some]
theorem M_wordF (H : MP h m F tx len pl o n t) (e : Nat) (he : (wd tx (sk tx len pl) (lt tx len (sk tx len pl)) = none ∧ e = 1) ∨ ((∃ k, wd tx (sk tx len pl) (lt tx len (sk tx len pl)) = some k) ∧ o = 8 ∧ e = 2)) : Flt (f_M_readNode m (nI base) h) h m F tx len base t (e, sk tx len pl) := by
  have E1 := M_readKind H.1
  have s60 := sk_60 H.1
  generalize sk tx len pl = j at *
  generalize lt tx len j = q at *
  have e0 : PEq F (fset (fset F 8 (.int (nI j))) 9 (.int (nI (j + q)))) := (peq_set (Or.inr (Or.inl rfl))).trans (peq_set (Or.inr (Or.inr (Or.inl rfl))))
  have H1 : MP (hup h m (ocell 8 40 (fset (fset F 8 (.int (nI j))) 9 (.int (nI (j + q)))))) m (fset (fset F 8 (.int (nI j))) 9 (.int (nI (j + q)))) tx len j o n t := H.obj e0 (by rw [fset_n (by decide), fset_s]) s60 (by rw [fset_n (by decide), fset_n (by decide)]; exact H.2.1.2.2.2.2.1) (by rw [fset_n (by decide), fset_n (by decide)]; exact H.2.1.2.2.2.2.2)
  obtain ⟨E2, H2⟩ := M_fails H1 (x := nI e) (y := nI j)
  have key : f_M_readNode m (nI base) h = some (nI e, hup (hup h m (ocell 8 40 (fset (fset F 8 (.int (nI j))) 9 (.int (nI (j + q)))))) m (ocell 8 40 (fset (fset (fset F 8 (.int (nI j))) 9 (.int (nI (j + q)))) 7 (.int (nI j))))) := by
    unfold f_M_readNode
    rw [if_pos H.ob, E1, zb2_s]
    rcases he with ⟨hw, rfl⟩ | ⟨⟨k, hw⟩, ho, rfl⟩
    · rw [hw, show wI none = -1 from rfl, if_pos (by decide)]
      unfold f_M_readNode_18 f_M_readNode_28
      rw [if_neg (by decide), H1.1.g8, Option.bind_some, show (1 : Int32) = nI 1 from rfl, E2, zb2_s]
    · have k13 := (wd_some hw).1
      rw [hw, show wI (some k) = nI k from rfl, if_neg (nI_pos (by omega)), H1.g12, Option.bind_some, if_pos (by rw [ho]; rfl)]
      unfold f_M_readNode_18 f_M_readNode_28
      rw [if_pos (nI_pos' (by omega)), H1.1.g8, Option.bind_some, show (2 : Int32) = nI 2 from rfl, E2, zb2_s]
  exact ⟨by rcases he with ⟨-, rfl⟩ | ⟨-, -, rfl⟩ <;> simp, _, _, _, _, _, key, H2, e0.trans (peq_set (Or.inl rfl)), PC.obj.trans PC.obj, fset_s, fun _ _ => ⟨rfl, rfl⟩⟩
/-- a word without E -/
theorem M_nodeL (H : MP h m F tx len pl o n t) (ho : o < 8) (hbn : base + n < 320) {k : Nat} (hw : wd tx (sk tx len pl) (lt tx len (sk tx len pl)) = some k) (k6 : k < 6) (k3 : k ≠ 3) : ∃ h' F', f_M_readNode m (nI base) h = some (0, h') ∧ MP h' m F' tx len (sk tx len pl + lt tx len (sk tx len pl)) o (n + 1) (upd t.1 (base + n) (nI k), t.2) ∧ PEq F F' ∧ PC h h' m ∧ F' 7 = F 7 := by
  obtain ⟨h', F', E, H', A, B, C⟩ := M_word0 (base := base) H ho hbn hw
  refine ⟨h', F', ?_, H', A, B, C⟩
  rw [E, if_neg (show ¬ nI k = (3 : Int32) from fun x => k3 ((nI_eq (by omega) (by decide)).mp (show nI k = nI 3 from x)))]
  unfold f_M_readNode_125
  rw [two_0 (k := k) (by omega) (by omega), Option.bind_some, if_pos rfl, one_0 (k := k) (by omega) (by omega), Option.bind_some, if_pos rfl]
/-- at -/
theorem M_nodeA (H : MP h m F tx len pl o n t) (ho : o < 8) (hbn : base + n < 320) {k j : Nat} (hw : wd tx (sk tx len pl) (lt tx len (sk tx len pl)) = some k) (k3 : k = 3) (hj : j = sk tx len (sk tx len pl + lt tx len (sk tx len pl))) : (j < len ∧ 48 ≤ tx j ∧ tx j ≤ 55 → ∃ h' F', f_M_readNode m (nI base) h = some (0, h') ∧ MP h' m F' tx len (j + 1) o (n + 1) (upd t.1 (base + n) (nI k), upd t.2.1 (base + n) (nI (tx j - 48)), t.2.2) ∧ PEq F F' ∧ PC h h' m ∧ F' 7 = F 7) ∧ (¬ (j < len ∧ 48 ≤ tx j ∧ tx j ≤ 55) → Flt (f_M_readNode m (nI base) h) h m F tx len base t (1, j)) := by
  obtain ⟨h', F', E, H', A, B, C⟩ := M_word0 (base := base) H ho hbn hw
  have hb := H.1.2.2.2.2.2.2.2
  have l60 := H.1.2.2.2.2.2.1
  obtain ⟨E1, -⟩ := M_here H'.1
  have H1 := H'.at8 (sk_60 H'.1)
  rw [← hj] at E1 H1
  rw [E, if_pos (by rw [k3]; rfl), E1, zb2_s]
  constructor
  · intro g
    have tb := hb j g.1
    obtain ⟨h2, E2, H2, C2⟩ := H1.s4 hbn (nI (tx j - 48))
    obtain ⟨E3, -⟩ := H2.1.p8 (x := j + 1) (by omega)
    have H3 := H2.at8 (x := j + 1) (by omega)
    refine ⟨_, _, ?_, H3, (A.trans (peq_set (Or.inr (Or.inl rfl)))).trans (peq_set (Or.inr (Or.inl rfl))), ((B.trans PC.obj).trans C2).trans PC.obj, by rw [fset_n (by decide), fset_n (by decide)]; exact C⟩
    unfold bt'
    rw [if_pos g.1, dig_in _ tb, if_pos g.2, Option.bind_some, if_neg (by decide), H1.g4]
    simp only [Option.bind_some]
    rw [yr48 _ tb g.2.1, E2, Option.bind_some, H2.1.g8, Option.bind_some, nI_1, E3, Option.bind_some]
    unfold f_M_readNode_125
    rw [two_0 (k := k) (by omega) (by omega), Option.bind_some, if_pos rfl, one_0 (k := k) (by omega) (by omega), Option.bind_some, if_pos rfl]
  · intro g
    have z : f_M_in (bt' tx len j).toInt64 48 55 = some 0 := by
      unfold bt'
      by_cases c : j < len
      · rw [if_pos c, dig_in _ (hb j c), if_neg (fun x => g ⟨c, x⟩)]
      · rw [if_neg c]; decide
    obtain ⟨E2, H2⟩ := M_fails H1 (x := 1) (y := nI j)
    rw [z, Option.bind_some, if_pos rfl, H1.1.g8, Option.bind_some, E2, zb2_s]
    exact ⟨Or.inl rfl, _, _, _, _, _, rfl, H2, (A.trans (peq_set (Or.inr (Or.inl rfl)))).trans (peq_set (Or.inl rfl)), (B.trans PC.obj).trans PC.obj, fset_s, fun i hi => ⟨pk_un (by omega), rfl⟩⟩
end
