/-! ===== the start: teller, laws, likes ===== -/
section
variable {h : Hp} {a : Nat}
theorem pv_g {ci k : Nat} {fs : List Value} {v : Value} (H : h a = some (.inr (ci, fs))) (hk : k < fs.length) : ∃ g, pV h a ci k v = some g ∧ g a = some (.inr (ci, fs.set k v)) ∧ ∀ c, c ≠ a → g c = h c := ⟨_, pv_s H hk, hup_s, fun c x => hup_n x⟩
theorem al_g {ci k n : Nat} {e : zE} {fs : List Value} {v : Value} (H : h a = some (.inr (ci, fs))) (hn : n ≠ a) (hk : k < fs.length) : ∃ g, pV (hup h n e) a ci k v = some g ∧ g a = some (.inr (ci, fs.set k v)) ∧ g n = some e ∧ ∀ c, c ≠ a → c ≠ n → g c = h c := by
  have e1 : (hup h n e) a = some (.inr (ci, fs)) := by rw [hup_n hn.symm]; exact H
  exact ⟨_, pv_s e1 hk, hup_s, by rw [hup_n hn, hup_s], fun c x y => by rw [hup_n x, hup_n y]⟩
theorem T_oneK {k : Nat} (hk : k < 9) (H : TI h a k) : ∃ h', (∀ K : Hp → Option Hp, ((gA h a 6 0).bind fun r11 => (r11).bind fun a15 => (aN h a15).bind fun i17 => if i17 ≤ nI k then none else (gA h a 6 0).bind fun r19 => (some (hup h (a + 2 + k) (.inr (1, [.long 0, .long 0, .int 0, .int 0])))).bind fun h21 => (r19).bind fun a22 => (f_F_init (a + 2 + k) h21 (a + 2 + k + 1)).bind fun h23 => (sA h23 3 a22 1 (nI k) (a + 2 + k)).bind fun h25 => K h25) = K h') ∧ TI h' a (k + 1) ∧ ∀ c, c < a ∨ a + 2 + k < c → h' c = h c := by
  obtain ⟨h', E, R, f⟩ := T_one hk H
  refine ⟨h', fun K => ?_, R, f⟩
  obtain ⟨t0, ⟨F, t1, t2⟩, t3⟩ := H
  have g0 : gA h a 6 0 = some (some (a + 1)) := by simp [gA, gV, t0]
  rw [g0, Option.bind_some, Option.bind_some, an_any t1 (by decide), Option.bind_some, if_neg (nI_ge hk (by decide)), Option.bind_some, Option.bind_some, Option.bind_some, F_init hup_s, Option.bind_some] at E ⊢
  rw [E, Option.bind_some]
theorem T_init (H : h a = some (.inr (6, [.null, .null, .null, .int 0]))) : ∃ h', f_T_init a h (a + 1) = some h' ∧ TZ h' a ∧ ∀ c, c < a ∨ a + 11 ≤ c → h' c = h c := by
  obtain ⟨g1, E1, p1, q1, o1⟩ := al_g (k := 0) (n := a + 1) (e := .inl (3, 9, .inr (.inr (.inr (.inr (fun _ => none)))))) (v := .ref (a + 1)) H (by omega) (by simp)
  obtain ⟨g2, E2, p2, o2⟩ := pv_g (k := 1) (v := .null) p1 (by simp)
  obtain ⟨g3, E3, p3, o3⟩ := pv_g (k := 2) (v := .null) p2 (by simp)
  obtain ⟨g4, E4, p4, o4⟩ := pv_g (k := 3) (v := .int 0) p3 (by simp)
  have t0 : TI g4 a 0 := ⟨p4, ⟨fun _ => none, by rw [o4 _ (by omega), o3 _ (by omega), o2 _ (by omega)]; exact q1, fun j hj => absurd hj (by omega)⟩, fun j hj => absurd hj (by omega)⟩
  obtain ⟨t1, K1, r1, f1⟩ := T_oneK (k := 0) (by decide) t0
  obtain ⟨t2, K2, r2, f2⟩ := T_oneK (k := 1) (by decide) r1
  obtain ⟨t3, K3, r3, f3⟩ := T_oneK (k := 2) (by decide) r2
  obtain ⟨t4, K4, r4, f4⟩ := T_oneK (k := 3) (by decide) r3
  obtain ⟨t5, K5, r5, f5⟩ := T_oneK (k := 4) (by decide) r4
  obtain ⟨t6, K6, r6, f6⟩ := T_oneK (k := 5) (by decide) r5
  obtain ⟨t7, K7, r7, f7⟩ := T_oneK (k := 6) (by decide) r6
  obtain ⟨t8, K8, r8, f8⟩ := T_oneK (k := 7) (by decide) r7
  obtain ⟨t9, K9, r9, f9⟩ := T_oneK (k := 8) (by decide) r8
  refine ⟨t9, ?_, ?_, fun c hc => ?_⟩
  · unfold f_T_init
    rw [Option.bind_some, E1, Option.bind_some, E2, Option.bind_some, E3, Option.bind_some, E4, Option.bind_some]
    refine (K1 _).trans ((K2 _).trans ((K3 _).trans ((K4 _).trans ((K5 _).trans ((K6 _).trans ((K7 _).trans ((K8 _).trans ((K9 _).trans ?_))))))))
    obtain ⟨z0, ⟨F, z1, z2⟩, z3⟩ := r9
    rw [show gA t9 a 6 0 = some (some (a + 1)) by simp [gA, gV, z0], Option.bind_some, Option.bind_some, an_any z1 (by decide), Option.bind_some, if_pos (by decide)]
  · obtain ⟨z0, ⟨F, z1, z2⟩, z3⟩ := r9
    refine ⟨⟨_, _, _, z0⟩, ⟨F, z1, z2⟩, fun c h1 h2 => ?_⟩
    obtain ⟨j, rfl⟩ : ∃ j, c = a + 2 + j := ⟨c - (a + 2), by omega⟩
    exact z3 j (by omega)
  · rw [f9 c (by omega), f8 c (by omega), f7 c (by omega), f6 c (by omega), f5 c (by omega), f4 c (by omega), f3 c (by omega), f2 c (by omega), f1 c (by omega), o4 c (by omega), o3 c (by omega), o2 c (by omega), o1 c (by omega) (by omega)]
theorem L_init {x1 x2 x3 : Nat} (H : h a = some (.inr (2, [.null, .null, .null, .null, .null, .null, .null, .null, .null, .null, .null, .int 0, .int 0]))) : ∃ h', f_L_init a x1 x2 x3 h (a + 1) = some h' ∧ h' a = some (.inr (2, [.ref x1, .ref x2, .ref x3, .ref (a + 1), .ref (a + 2), .ref (a + 3), .ref (a + 4), .ref (a + 5), .ref (a + 6), .ref (a + 7), .null, .int 0, .int (-1)])) ∧ h' (a + 1) = some (.inl (1, 64, .inr (.inl fun _ => 0))) ∧ h' (a + 2) = some (.inl (1, 64, .inr (.inl fun _ => 0))) ∧ h' (a + 3) = some (.inl (0, 64, .inl fun _ => 0)) ∧ h' (a + 4) = some (.inl (0, 224, .inl fun _ => 0)) ∧ h' (a + 5) = some (.inl (0, 8, .inl fun _ => 0)) ∧ FX h' (a + 6) ∧ FX h' (a + 7) ∧ ∀ c, c < a ∨ a + 8 ≤ c → h' c = h c := by
  obtain ⟨g1, E1, p1, q1, o1⟩ := al_g (k := 3) (n := a + 1) (e := .inl (1, 64, .inr (.inl (fun _ => 0)))) (v := .ref (a + 1)) H (by omega) (by simp)
  obtain ⟨g2, E2, p2, q2, o2⟩ := al_g (k := 4) (n := a + 2) (e := .inl (1, 64, .inr (.inl (fun _ => 0)))) (v := .ref (a + 2)) p1 (by omega) (by simp)
  obtain ⟨g3, E3, p3, q3, o3⟩ := al_g (k := 5) (n := a + 3) (e := .inl (0, 64, .inl (fun _ => 0))) (v := .ref (a + 3)) p2 (by omega) (by simp)
  obtain ⟨g4, E4, p4, q4, o4⟩ := al_g (k := 6) (n := a + 4) (e := .inl (0, 224, .inl (fun _ => 0))) (v := .ref (a + 4)) p3 (by omega) (by simp)
  obtain ⟨g5, E5, p5, q5, o5⟩ := al_g (k := 7) (n := a + 5) (e := .inl (0, 8, .inl (fun _ => 0))) (v := .ref (a + 5)) p4 (by omega) (by simp)
  obtain ⟨g6, E6, p6, q6, o6⟩ := al_g (k := 8) (n := a + 6) (e := .inr (1, [.long 0, .long 1, .int 0, .int 0])) (v := .ref (a + 6)) p5 (by omega) (by simp)
  obtain ⟨g7, E7, p7, q7, o7⟩ := al_g (k := 9) (n := a + 7) (e := .inr (1, [.long 0, .long 1, .int 0, .int 0])) (v := .ref (a + 7)) p6 (by omega) (by simp)
  obtain ⟨g8, E8, p8, o8⟩ := pv_g (k := 10) (v := .null) p7 (by simp)
  obtain ⟨g9, E9, p9, o9⟩ := pv_g (k := 11) (v := .int 0) p8 (by simp)
  obtain ⟨g10, E10, p10, o10⟩ := pv_g (k := 12) (v := .int (-1)) p9 (by simp)
  obtain ⟨g11, E11, p11, o11⟩ := pv_g (k := 0) (v := .ref x1) p10 (by simp)
  obtain ⟨g12, E12, p12, o12⟩ := pv_g (k := 1) (v := .ref x2) p11 (by simp)
  obtain ⟨g13, E13, p13, o13⟩ := pv_g (k := 2) (v := .ref x3) p12 (by simp)
  refine ⟨g13, ?_, p13, by rw [o13 _ (by omega), o12 _ (by omega), o11 _ (by omega), o10 _ (by omega), o9 _ (by omega), o8 _ (by omega), o7 _ (by omega) (by omega), o6 _ (by omega) (by omega), o5 _ (by omega) (by omega), o4 _ (by omega) (by omega), o3 _ (by omega) (by omega), o2 _ (by omega) (by omega)]; exact q1, by rw [o13 _ (by omega), o12 _ (by omega), o11 _ (by omega), o10 _ (by omega), o9 _ (by omega), o8 _ (by omega), o7 _ (by omega) (by omega), o6 _ (by omega) (by omega), o5 _ (by omega) (by omega), o4 _ (by omega) (by omega), o3 _ (by omega) (by omega)]; exact q2, by rw [o13 _ (by omega), o12 _ (by omega), o11 _ (by omega), o10 _ (by omega), o9 _ (by omega), o8 _ (by omega), o7 _ (by omega) (by omega), o6 _ (by omega) (by omega), o5 _ (by omega) (by omega), o4 _ (by omega) (by omega)]; exact q3, by rw [o13 _ (by omega), o12 _ (by omega), o11 _ (by omega), o10 _ (by omega), o9 _ (by omega), o8 _ (by omega), o7 _ (by omega) (by omega), o6 _ (by omega) (by omega), o5 _ (by omega) (by omega)]; exact q4, by rw [o13 _ (by omega), o12 _ (by omega), o11 _ (by omega), o10 _ (by omega), o9 _ (by omega), o8 _ (by omega), o7 _ (by omega) (by omega), o6 _ (by omega) (by omega)]; exact q5, ?_, ?_, fun c hc => ?_⟩
  · unfold f_L_init
    rw [Option.bind_some, E1, Option.bind_some, Option.bind_some, show a + 1 + 1 = a + 2 from rfl, E2, Option.bind_some, Option.bind_some, show a + 1 + 2 = a + 3 from rfl, E3, Option.bind_some, Option.bind_some, show a + 1 + 3 = a + 4 from rfl, E4, Option.bind_some, Option.bind_some, show a + 1 + 4 = a + 5 from rfl, E5, Option.bind_some, Option.bind_some, show a + 1 + 5 = a + 6 from rfl, F_init hup_s, Option.bind_some, hup_u, E6, Option.bind_some, Option.bind_some, show a + 1 + 6 = a + 7 from rfl, F_init hup_s, Option.bind_some, hup_u, E7, Option.bind_some, E8, Option.bind_some, E9, Option.bind_some, E10, Option.bind_some, E11, Option.bind_some, E12, Option.bind_some, E13, Option.bind_some]
  · exact ⟨0, 1, 0, 0, by rw [o13 _ (by omega), o12 _ (by omega), o11 _ (by omega), o10 _ (by omega), o9 _ (by omega), o8 _ (by omega), o7 _ (by omega) (by omega)]; exact q6⟩
  · exact ⟨0, 1, 0, 0, by rw [o13 _ (by omega), o12 _ (by omega), o11 _ (by omega), o10 _ (by omega), o9 _ (by omega), o8 _ (by omega)]; exact q7⟩
  · rw [o13 c (by omega), o12 c (by omega), o11 c (by omega), o10 c (by omega), o9 c (by omega), o8 c (by omega), o7 c (by omega) (by omega), o6 c (by omega) (by omega), o5 c (by omega) (by omega), o4 c (by omega) (by omega), o3 c (by omega) (by omega), o2 c (by omega) (by omega), o1 c (by omega) (by omega)]
theorem K_init {x1 : Nat} (H : h a = some (.inr (3, [.null, .null, .null, .null]))) : ∃ h', f_K_init a x1 h (a + 1) = some h' ∧ h' a = some (.inr (3, [.ref x1, .ref (a + 1), .ref (a + 2), .ref (a + 3)])) ∧ h' (a + 1) = some (.inl (0, 64, .inl fun _ => 0)) ∧ h' (a + 2) = some (.inl (0, 8, .inl fun _ => 0)) ∧ h' (a + 3) = some (.inl (2, 8, .inl fun _ => 0)) ∧ ∀ c, c < a ∨ a + 4 ≤ c → h' c = h c := by
  obtain ⟨g1, E1, p1, q1, o1⟩ := al_g (k := 1) (n := a + 1) (e := .inl (0, 64, .inl (fun _ => 0))) (v := .ref (a + 1)) H (by omega) (by simp)
  obtain ⟨g2, E2, p2, q2, o2⟩ := al_g (k := 2) (n := a + 2) (e := .inl (0, 8, .inl (fun _ => 0))) (v := .ref (a + 2)) p1 (by omega) (by simp)
  obtain ⟨g3, E3, p3, q3, o3⟩ := al_g (k := 3) (n := a + 3) (e := .inl (2, 8, .inl (fun _ => 0))) (v := .ref (a + 3)) p2 (by omega) (by simp)
  obtain ⟨g4, E4, p4, o4⟩ := pv_g (k := 0) (v := .ref x1) p3 (by simp)
  refine ⟨g4, ?_, p4, by rw [o4 _ (by omega), o3 _ (by omega) (by omega), o2 _ (by omega) (by omega)]; exact q1, by rw [o4 _ (by omega), o3 _ (by omega) (by omega)]; exact q2, by rw [o4 _ (by omega)]; exact q3, fun c hc => by rw [o4 c (by omega), o3 c (by omega) (by omega), o2 c (by omega) (by omega), o1 c (by omega) (by omega)]⟩
  unfold f_K_init
  rw [Option.bind_some, E1, Option.bind_some, Option.bind_some, show a + 1 + 1 = a + 2 from rfl, E2, Option.bind_some, Option.bind_some, show a + 1 + 2 = a + 3 from rfl, E3, Option.bind_some, E4, Option.bind_some]
end
