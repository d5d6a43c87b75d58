/-! ===== the reference: words with E, close ===== -/
section
variable {h : Hp} {m len pl o n base : Nat} {F : Nat → Value} {tx : Nat → Nat} {t : Pt}
theorem MP.at12 (H : MP h m F tx len pl o n t) {x : Nat} : MP (hup h m (ocell 8 40 (fset F 12 (.int (nI x))))) m (fset F 12 (.int (nI x))) tx len pl x n t :=
  H.obj (peq_set (Or.inr (Or.inr (Or.inr (Or.inl rfl))))) (by rw [fset_n (by decide)]; exact H.1.2.2.2.1) H.1.2.2.2.2.2.2.1 fset_s (by rw [fset_n (by decide)]; exact H.2.1.2.2.2.2.2)
theorem M_nodeP (H : MP h m F tx len pl o n t) (ho : o < 8) (hbn : base + n < 320) {k i1 : Nat} (hw : wd tx (sk tx len pl) (lt tx len (sk tx len pl)) = some k) (k6 : 6 ≤ k) (hi : i1 = sk tx len pl + lt tx len (sk tx len pl)) : (10 ≤ k → ∃ h' F', f_M_readNode m (nI base) h = some (0, h') ∧ MP h' m F' tx len i1 (o + 1) (n + 1) (upd t.1 (base + n) (nI k), t.2.1, upd t.2.2.1 o (nI (base + n)), upd t.2.2.2 o (bI false)) ∧ PEq F F' ∧ PC h h' m ∧ F' 7 = F 7) ∧ (k < 10 → (∀ j, sgn tx len 40 i1 = .ok j → ∃ h' F', f_M_readNode m (nI base) h = some (0, h') ∧ MP h' m F' tx len j (o + 1) (n + 1) (upd t.1 (base + n) (nI k), t.2.1, upd t.2.2.1 o (nI (base + n)), upd t.2.2.2 o (bI false)) ∧ PEq F F' ∧ PC h h' m ∧ F' 7 = F 7) ∧ ∀ e, sgn tx len 40 i1 = .error e → Flt (f_M_readNode m (nI base) h) h m F tx len base t e) := by
  obtain ⟨h1, F1, E, H1, A, B, C⟩ := M_word0 (base := base) H ho hbn hw
  have k13 := (wd_some hw).1
  rw [← hi] at H1
  obtain ⟨h2, E2, H2, C2⟩ := H1.s6 ho (nI (base + n))
  obtain ⟨h3, E3, H3, C3⟩ := H2.s7 ho false
  have H4 := H3.at12 (x := o + 1)
  have st : f_M_readNode m (nI base) h = (f_M_isTwo (nI k)).bind fun i22 => if i22 = 0 then some ((0 : Int32), hup h3 m (ocell 8 40 (fset F1 12 (.int (nI (o + 1)))))) else zb2 (f_M_sign m (40 : Int32) (hup h3 m (ocell 8 40 (fset F1 12 (.int (nI (o + 1))))))) fun i24 h25 => some (i24, h25) := by
    have e139 : f_M_readNode_139 m (nI k) (nI (base + n)) h1 = (f_M_isTwo (nI k)).bind fun i22 => if i22 = 0 then some ((0 : Int32), hup h3 m (ocell 8 40 (fset F1 12 (.int (nI (o + 1)))))) else zb2 (f_M_sign m (40 : Int32) (hup h3 m (ocell 8 40 (fset F1 12 (.int (nI (o + 1))))))) fun i24 h25 => some (i24, h25) := by
      unfold f_M_readNode_139
      rw [H1.g10, Option.bind_some, H1.g12, Option.bind_some, Option.bind_some, E2, Option.bind_some, H2.g11, Option.bind_some, H2.g12, Option.bind_some, Option.bind_some, show (0 : Int32) = bI false from rfl, E3, Option.bind_some, H3.g12, Option.bind_some, nI_1, oc_p H3.1.1 (by decide), Option.bind_some]
    rw [E, if_neg (show ¬ nI k = (3 : Int32) from fun x => by have := (nI_eq (by omega) (by decide)).mp (show nI k = nI 3 from x); omega)]
    unfold f_M_readNode_125
    by_cases c : k < 10
    · rw [two_1 k13 ⟨k6, c⟩, Option.bind_some, if_neg (by decide), e139, two_1 k13 ⟨k6, c⟩]
    · rw [two_0 k13 (fun x => c x.2), Option.bind_some, if_pos rfl, one_1 k13 (by omega), Option.bind_some, if_neg (by decide), e139, two_0 k13 (fun x => c x.2)]
  have PE : PEq F (fset F1 12 (.int (nI (o + 1)))) := A.trans (peq_set (Or.inr (Or.inr (Or.inr (Or.inl rfl)))))
  have PP : PC h (hup h3 m (ocell 8 40 (fset F1 12 (.int (nI (o + 1)))))) m := ((B.trans C2).trans C3).trans PC.obj
  have x7 : (fset F1 12 (.int (nI (o + 1)))) 7 = F 7 := by rw [fset_n (by decide)]; exact C
  refine ⟨fun c => ?_, fun c => ?_⟩
  · rw [st, two_0 k13 (by omega), Option.bind_some, if_pos rfl]
    exact ⟨_, _, rfl, H4, PE, PP, x7⟩
  · rw [st, two_1 k13 ⟨k6, c⟩, Option.bind_some, if_neg (by decide)]
    obtain ⟨G1, G2⟩ := M_sign H4 (c := 40) (by decide)
    refine ⟨fun j hj => ?_, fun e he => ?_⟩
    · obtain ⟨h5, F5, E5, H5, a, b, d⟩ := G1 j hj
      rw [show f_M_sign m (40 : Int32) _ = some (0, h5) from E5, zb2_s]
      exact ⟨h5, F5, rfl, H5, PE.trans a, PP.trans b, d.trans x7⟩
    · obtain ⟨e1, h5, F5, E5, H5, a, b, d⟩ := G2 e he
      rw [show f_M_sign m (40 : Int32) _ = some (1, h5) from E5, zb2_s]
      exact ⟨Or.inl e1, h5, F5, _, _, _, by rw [e1]; rfl, H5, PE.trans a, PP.trans b, d, fun i hi => ⟨pk_un (by omega), rfl⟩⟩
/-- one more E is whole: its word, o deep -/
theorem M_closeS (H : MP h m F tx len pl (o + 1) n t) (ho : o < 8) {a k c : Nat} (hba : base + a < 320) (ha : t.2.2.1 o = nI (base + a)) (hk : t.1 (base + a) = nI k) (k6 : 6 ≤ k) (k13 : k < 13) :
    (10 ≤ k → ∃ h' F', f_M_close_13 m (c + 1) (nI base) 1 h = f_M_close_13 m c (nI base) (bI (decide (0 < o))) h' ∧ MP h' m F' tx len pl o n t ∧ PEq F F' ∧ PC h h' m ∧ F' 7 = F 7) ∧
    (k < 10 → t.2.2.2 o = bI false → (∀ j, sgn tx len 44 pl = .ok j → ∃ h' F', f_M_close_13 m (c + 1) (nI base) 1 h = some (0, h') ∧ MP h' m F' tx len j (o + 1) n (t.1, upd t.2.1 (base + a) (nI (base + n)), t.2.2.1, upd t.2.2.2 o (bI true)) ∧ PEq F F' ∧ PC h h' m ∧ F' 7 = F 7) ∧ ∀ e, sgn tx len 44 pl = .error e → Flt (f_M_close_13 m (c + 1) (nI base) 1 h) h m F tx len base t e) ∧
    (k < 10 → t.2.2.2 o = bI true → (∀ j, sgn tx len 41 pl = .ok j → ∃ h' F', f_M_close_13 m (c + 1) (nI base) 1 h = f_M_close_13 m c (nI base) (bI (decide (0 < o))) h' ∧ MP h' m F' tx len j o n t ∧ PEq F F' ∧ PC h h' m ∧ F' 7 = F 7) ∧ ∀ e, sgn tx len 41 pl = .error e → Flt (f_M_close_13 m (c + 1) (nI base) 1 h) h m F tx len base t e) := by
  have r6 : ∀ {h : Hp} {F : Nat → Value} {pl n : Nat} {t : Pt}, MP h m F tx len pl (o + 1) n t → aI h 0 (m + 6) (nI o) = some (t.2.2.1 o) := fun H => ai_get H.2.2.2.2.1 ho (by decide)
  have r7 : ∀ {h : Hp} {F : Nat → Value} {pl n : Nat} {t : Pt}, MP h m F tx len pl (o + 1) n t → aI h 2 (m + 7) (nI o) = some (t.2.2.2 o) := fun H => ai_get H.2.2.2.2.2 ho (by decide)
  have r3 : aI h 0 (m + 3) (nI (base + a)) = some (nI k) := by rw [ai_get H.2.2.1 hba (by decide), hk]
  have st : f_M_close_13 m (c + 1) (nI base) 1 h = (f_M_isTwo (nI k)).bind fun i30 => if i30 = 0 then f_M_close_100 m (f_M_close_13 m c) (nI base) (nI k) h else if t.2.2.2 o = 0 then zb2 (f_M_sign m (44 : Int32) h) (fun i40 h41 => (gA h41 m 8 11).bind fun r42 => (gI h41 m 8 12).bind fun i44 => (r42).bind fun a46 => (sZ h41 a46 (i44 - (1 : Int32)) (1 : Int32)).bind fun h49 => (gA h49 m 8 4).bind fun r50 => (gA h49 m 8 10).bind fun r52 => (gI h49 m 8 12).bind fun i54 => (r52).bind fun a56 => (aI h49 0 a56 (i54 - (1 : Int32))).bind fun i59 => (gI h49 m 8 13).bind fun i60 => (r50).bind fun a62 => (sI h49 a62 i59 (nI base + i60)).bind fun h65 => some (i40, h65)) else f_M_close_100 m (f_M_close_13 m c) (nI base) (nI k) h := by
    show t_M_close_13 _ (f_M_close_13 m c) _ _ _ = _
    unfold t_M_close_13
    rw [if_neg (by decide), H.g3, Option.bind_some, H.g10, Option.bind_some, H.g12, Option.bind_some, Option.bind_some, nI_pred, r6 H, ha, Option.bind_some, Option.bind_some, r3, Option.bind_some, H.g11]
    simp only [Option.bind_some]
    rw [nI_pred, r7 H]
    rfl
  have e117 : ∀ {h : Hp} {F : Nat → Value} {pl : Nat}, MP h m F tx len pl (o + 1) n t → ∃ h' F', f_M_close_117 m (f_M_close_13 m c) 0 (nI base) h = f_M_close_13 m c (nI base) (bI (decide (0 < o))) h' ∧ MP h' m F' tx len pl o n t ∧ PEq F F' ∧ PC h h' m ∧ F' 7 = F 7 := by
    intro h F pl H
    have H1 := H.at12 (x := o)
    refine ⟨_, _, ?_, H1, peq_set (Or.inr (Or.inr (Or.inr (Or.inl rfl)))), PC.obj, by rw [fset_n (by decide)]⟩
    unfold f_M_close_117
    rw [if_pos (by decide), H.g12, Option.bind_some, nI_pred, oc_p H.1.1 (by decide), Option.bind_some, H1.g12, Option.bind_some]
    unfold f_M_close_149
    by_cases z : 0 < o
    · rw [if_neg (nI_nle z (by omega)), decide_eq_true z]; rfl
    · rw [if_pos (by rw [show o = 0 by omega]; decide), decide_eq_false z]; rfl
  refine ⟨fun k10 => ?_, fun k10 hs => ⟨fun j hj => ?_, fun e he => ?_⟩, fun k10 hs => ⟨fun j hj => ?_, fun e he => ?_⟩⟩
  · rw [st, two_0 k13 (by omega), Option.bind_some, if_pos rfl]
    unfold f_M_close_100
    rw [two_0 k13 (by omega), Option.bind_some, if_pos rfl]
    exact e117 H
  · obtain ⟨h1, F1, E1, H1, a1, b1, d1⟩ := (M_sign H (c := 44) (by decide)).1 j hj
    obtain ⟨h2, E2, H2, C2⟩ := H1.s7 ho true
    obtain ⟨h3, E3, H3, C3⟩ := H2.s4 hba (nI (base + n))
    rw [st, two_1 k13 ⟨k6, k10⟩, Option.bind_some, if_neg (by decide), if_pos (by rw [hs]; rfl), show f_M_sign m (44 : Int32) h = some (0, h1) from E1, zb2_s, H1.g11, Option.bind_some, H1.g12, Option.bind_some, Option.bind_some, nI_pred, show (1 : Int32) = bI true from rfl, E2, Option.bind_some, H2.g4, Option.bind_some, H2.g10, Option.bind_some, H2.g12, Option.bind_some, Option.bind_some, show nI (o + 1) - bI true = nI o from nI_pred o, r6 H2]
    dsimp only
    rw [ha, Option.bind_some, H2.g13, Option.bind_some, Option.bind_some, nI_add, E3]
    exact ⟨h3, F1, rfl, H3, a1, (b1.trans C2).trans C3, d1⟩
  · obtain ⟨e1, h1, F1, E1, H1, a1, b1, d1⟩ := (M_sign H (c := 44) (by decide)).2 e he
    obtain ⟨h2, E2, H2, C2⟩ := H1.s7 ho true
    obtain ⟨h3, E3, H3, C3⟩ := H2.s4 hba (nI (base + n))
    have key : f_M_close_13 m (c + 1) (nI base) 1 h = some (1, h3) := by
      rw [st, two_1 k13 ⟨k6, k10⟩, Option.bind_some, if_neg (by decide), if_pos (by rw [hs]; rfl), show f_M_sign m (44 : Int32) h = some (1, h1) from E1, zb2_s, H1.g11, Option.bind_some, H1.g12, Option.bind_some, Option.bind_some, nI_pred, show sZ h1 (m + 7) (nI o) 1 = some h2 from E2, Option.bind_some, H2.g4, Option.bind_some, H2.g10, Option.bind_some, H2.g12, Option.bind_some, Option.bind_some, nI_pred, r6 H2]
      dsimp only
      rw [ha, Option.bind_some, H2.g13, Option.bind_some, Option.bind_some, nI_add, E3]
      rfl
    exact ⟨Or.inl e1, h3, F1, _, _, _, by rw [key, e1]; rfl, H3, a1, (b1.trans C2).trans C3, d1, fun i hi => ⟨rfl, pk_un (by omega)⟩⟩
  · obtain ⟨h1, F1, E1, H1, a1, b1, d1⟩ := (M_sign H (c := 41) (by decide)).1 j hj
    rw [st, two_1 k13 ⟨k6, k10⟩, Option.bind_some, if_neg (by decide), if_neg (by rw [hs]; decide)]
    unfold f_M_close_100
    rw [two_1 k13 ⟨k6, k10⟩, Option.bind_some, if_neg (by decide), show f_M_sign m (41 : Int32) h = some (0, h1) from E1, zb2_s]
    obtain ⟨h2, F2, E2, H2, a2, b2, d2⟩ := e117 H1
    exact ⟨h2, F2, E2, H2, a1.trans a2, b1.trans b2, d2.trans d1⟩
  · obtain ⟨e1, h1, F1, E1, H1, a1, b1, d1⟩ := (M_sign H (c := 41) (by decide)).2 e he
    have key : f_M_close_13 m (c + 1) (nI base) 1 h = some (1, h1) := by
      rw [st, two_1 k13 ⟨k6, k10⟩, Option.bind_some, if_neg (by decide), if_neg (by rw [hs]; decide)]
      unfold f_M_close_100
      rw [two_1 k13 ⟨k6, k10⟩, Option.bind_some, if_neg (by decide), show f_M_sign m (41 : Int32) h = some (1, h1) from E1, zb2_s]
      unfold f_M_close_117
      rw [if_neg (by decide)]
    exact ⟨Or.inl e1, h1, F1, _, _, _, by rw [key, e1]; rfl, H1, a1, b1, d1, fun _ _ => ⟨rfl, rfl⟩⟩
end
