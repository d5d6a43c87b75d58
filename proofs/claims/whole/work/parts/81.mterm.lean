/-! ===== the reference: reading an E ===== -/
def CLS (m base c fuel o : Nat) (h : Hp) : Option (Int32 × Hp) := zb2 (f_M_close_13 m c (nI base) (bI (decide (0 < o))) h) fun i16 h16 => f_M_number_98 m (f_M_number_45 m fuel) i16 (nI base) h16
section
variable {h : Hp} {m len pl o n base : Nat} {F : Nat → Value} {tx : Nat → Nat} {t : Pt}
theorem M_98ok (H : MP h m F tx len pl (o + 1) n t) (ho : o < 8) {k45 : Int32 → Int32 → Int32 → Hp → Option (Int32 × Hp)} {x1 : Int32} : f_M_number_98 m k45 0 x1 h = k45 x1 0 1 h := by
  unfold f_M_number_98
  rw [if_pos rfl, H.g12, Option.bind_some, if_neg (nI_nle (by omega) (by omega))]
  rfl
theorem M_98e {k45 : Int32 → Int32 → Int32 → Hp → Option (Int32 × Hp)} {x1 : Int32} {e : Nat} (he : e = 1 ∨ e = 2) : f_M_number_98 m k45 (nI e) x1 h = k45 x1 (nI e) 0 h := by
  unfold f_M_number_98
  rw [if_neg (nI_12 he)]
  rfl
theorem it_err {e fuel : Nat} {h' : Hp} (he : e = 1 ∨ e = 2) (E : f_M_readNode m (nI base) h = some (nI e, h')) : f_M_number_45 m (fuel + 1) (nI base) 0 1 h = f_M_number_45 m fuel (nI base) (nI e) 0 h' := by
  show t_M_number_45 _ _ _ _ _ _ = _
  unfold t_M_number_45
  rw [if_neg (by decide), E, zb2_s, if_neg (nI_12 he)]
  unfold f_M_number_81 f_M_number_82
  rw [if_pos rfl]
  exact M_98e he
theorem it_open {k fuel : Nat} {h' : Hp} (H : MP h' m F tx len pl (o + 1) (n + 1) t) (ho : o < 8) (hbn : base + n < 320) (hk : t.1 (base + n) = nI k) (k6 : 6 ≤ k) (k13 : k < 13) (E : f_M_readNode m (nI base) h = some (0, h')) : f_M_number_45 m (fuel + 1) (nI base) 0 1 h = f_M_number_45 m fuel (nI base) 0 1 h' := by
  show t_M_number_45 _ _ _ _ _ _ = _
  unfold t_M_number_45
  rw [if_neg (by decide), E, zb2_s, if_pos rfl, H.g3, Option.bind_some, H.g13, Option.bind_some, Option.bind_some, nI_add, show base + (n + 1) = base + n + 1 from rfl, nI_pred, ai_get H.2.2.1 hbn (by decide), hk, Option.bind_some, if_pos (show (6 : Int32) ≤ nI k from nI_le (a := 6) k6 (by omega))]
  unfold f_M_number_81 f_M_number_82
  rw [if_pos rfl]
  exact M_98ok H ho
theorem it_leaf {k fuel : Nat} {h' : Hp} (H : MP h' m F tx len pl o (n + 1) t) (ho : o < 9) (hbn : base + n < 320) (hk : t.1 (base + n) = nI k) (k6 : k < 6) (E : f_M_readNode m (nI base) h = some (0, h')) : f_M_number_45 m (fuel + 1) (nI base) 0 1 h = CLS m base FU fuel o h' := by
  show t_M_number_45 _ _ _ _ _ _ = _
  unfold t_M_number_45
  rw [if_neg (by decide), E, zb2_s, if_pos rfl, H.g3, Option.bind_some, H.g13, Option.bind_some, Option.bind_some, nI_add, show base + (n + 1) = base + n + 1 from rfl, nI_pred, ai_get H.2.2.1 hbn (by decide), hk, Option.bind_some, if_neg (show ¬ (6 : Int32) ≤ nI k from nI_ge (b := 6) k6 (by decide))]
  unfold f_M_number_82
  rw [if_neg (by decide)]
  unfold CLS
  congr 1
  unfold f_M_close f_M_close_12
  rw [if_pos H.ob, H.g12, Option.bind_some]
  by_cases z : 0 < o
  · rw [if_neg (nI_nle z (by omega)), decide_eq_true z]; rfl
  · rw [if_pos (by rw [show o = 0 by omega]; decide), decide_eq_false z]; rfl
/-- what a good reading leaves -/
def NOk (h' : Hp) (m base d o n : Nat) (F : Nat → Value) (h : Hp) (tx : Nat → Nat) (len : Nat) (t : Pt) (r : Nat × Nat × (Nat → Nat) × (Nat → Nat)) : Prop :=
  ∃ F' t' c, MP h' m F' tx len r.1 o r.2.1 t' ∧ PEq F F' ∧ PC h h' m ∧ F' 7 = F 7 ∧
    (∀ k, n ≤ k → k < r.2.1 → t'.1 (base + k) = nI (r.2.2.1 k) ∧ (r.2.2.1 k = 3 → t'.2.1 (base + k) = nI (r.2.2.2 k)) ∧ (6 ≤ r.2.2.1 k ∧ r.2.2.1 k < 10 → t'.2.1 (base + k) = nI (base + r.2.2.2 k))) ∧
    (∀ j, j < base + n → t'.1 j = t.1 j ∧ t'.2.1 j = t.2.1 j) ∧ (∀ j, j < o → t'.2.2.1 j = t.2.2.1 j ∧ t'.2.2.2 j = t.2.2.2 j) ∧
    FU < c + d ∧ ∀ fuel, f_M_number_45 m (fuel + (r.2.1 - n)) (nI base) 0 1 h = CLS m base c fuel o h'
def NErr (m base d : Nat) (F : Nat → Value) (h : Hp) (tx : Nat → Nat) (len : Nat) (t : Pt) (e : Nat × Nat) : Prop :=
  ∃ a h' F' o' n' t', a ≤ 22 * (d + 1) ∧ (e.1 = 1 ∨ e.1 = 2) ∧ MP h' m F' tx len e.2 o' n' t' ∧ PEq F F' ∧ PC h h' m ∧ F' 7 = .int (nI e.2) ∧ (∀ j, j < base → t'.1 j = t.1 j ∧ t'.2.1 j = t.2.1 j) ∧ ∀ fuel, f_M_number_45 m (fuel + a + 1) (nI base) 0 1 h = f_M_number_45 m fuel (nI base) (nI e.1) 0 h'
theorem NErr.flt {d : Nat} {e : Nat × Nat} (H : Flt (f_M_readNode m (nI base) h) h m F tx len base t e) : NErr m base d F h tx len t e := by
  obtain ⟨e1, h', F', o', n', t', E, A, B, C, D, K⟩ := H
  exact ⟨0, h', F', o', n', t', by omega, e1, A, B, C, D, K, fun fuel => it_err e1 E⟩
/-- a fault when closing -/
theorem NErr.cls {d a c : Nat} {e : Nat × Nat} {h1 : Hp} {F1 : Nat → Value} (st : ∀ fuel, f_M_number_45 m (fuel + (a + 1)) (nI base) 0 1 h = CLS m base c fuel (o + 1) h1) (ha : a ≤ 22 * (d + 1)) (p : PEq F F1) (q : PC h h1 m) {t1 : Pt} (kk : ∀ j, j < base → t1.1 j = t.1 j ∧ t1.2.1 j = t.2.1 j) (H : Flt (f_M_close_13 m c (nI base) 1 h1) h1 m F1 tx len base t1 e) : NErr m base d F h tx len t e := by
  obtain ⟨e1, h', F', o', n', t', E, A, B, C, D, K⟩ := H
  refine ⟨a, h', F', o', n', t', ha, e1, A, p.trans B, q.trans C, D, fun j hj => ⟨(K j hj).1.trans (kk j hj).1, (K j hj).2.trans (kk j hj).2⟩, fun fuel => ?_⟩
  rw [Nat.add_assoc, st]
  unfold CLS
  rw [decide_eq_true (Nat.succ_pos o), show bI true = 1 from rfl, E, zb2_s]
  exact M_98e e1
end
