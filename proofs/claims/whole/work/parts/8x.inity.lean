/-! ===== the start: the class ===== -/
section
variable {h : Hp} {S : Nat}
/-- the plans, so many of them -/
def PI (h : Hp) (S k : Nat) : Prop := h S = some (.inr (7, [.ref (S + 1), .ref (S + 4), .ref (S + 7), .null, .null, .null, .null, .null, .null, .int 0, .int 0])) ∧ (∃ F : Nat → Option Nat, h (S + 7) = some (.inl (4, 8, .inr (.inr (.inr (.inr F))))) ∧ ∀ j, j < k → F j = some (S + 8 + 3 * j)) ∧ ∀ j, j < k → ∃ s WF MF, PX h (S + 8 + 3 * j) s WF MF
theorem P_oneK {k v : Nat} (hk : k < 8) (hv : v = S + 8 + 3 * k) (H : PI h S k) : ∃ h', (∀ K : Hp → Option Hp, ((gA h S 7 2).bind fun r15 => (some (hup h v (.inr (4, [.null, .null, .int 0])))).bind fun h17 => (r15).bind fun a18 => (f_P_init v h17 (v + 1)).bind fun h19 => (sA h19 4 a18 4 (nI k) v).bind fun h21 => K h21) = K h') ∧ PI h' S (k + 1) ∧ ∀ c, c ≠ S + 7 → c < S + 8 + 3 * k → h' c = h c := by
  obtain ⟨t0, ⟨F, t1, t2⟩, t3⟩ := H
  have g0 : gA h S 7 2 = some (some (S + 7)) := by simp [gA, gV, t0]
  obtain ⟨h2, E, X, f⟩ := P_init (h := hup h v (.inr (4, [.null, .null, .int 0]))) (a := v) hup_s
  have fr : ∀ c, c < v → h2 c = h c := fun c hc => by rw [f c (by omega) (by omega) (by omega), hup_n (by omega)]
  have e1 : h2 (S + 7) = some (.inl (4, 8, .inr (.inr (.inr (.inr F))))) := by rw [fr _ (by omega)]; exact t1
  obtain ⟨h3, q3⟩ : ∃ h3, h3 = hup h2 (S + 7) (.inl (4, 8, .inr (.inr (.inr (.inr (va_up F k (some v))))))) := ⟨_, rfl⟩
  have s3 : sA h2 4 (S + 7) 4 (nI k) v = some h3 := by rw [q3]; exact sA_set e1 X.1 hk (by decide)
  have fr3 : ∀ c, c ≠ S + 7 → h3 c = h2 c := fun c hc => by rw [q3, hup_n hc]
  refine ⟨h3, fun K => ?_, ⟨by rw [fr3 _ (by omega), fr _ (by omega)]; exact t0, ⟨_, by rw [q3, hup_s], fun j hj => ?_⟩, fun j hj => ?_⟩, fun c x y => by rw [fr3 _ x, fr _ (by omega)]⟩
  · rw [g0]
    refine bnd rfl (bnd rfl (bnd rfl (bnd E (bnd s3 rfl))))
  · by_cases d : j = k
    · subst d; simp [va_up, hv]
    · have := t2 j (by omega)
      simp [va_up, d, this]
  · by_cases d : j = k
    · subst d
      refine ⟨0, fun _ => 0, fun _ => 0, ?_⟩
      rw [← hv]
      exact X.cong fun c _ _ => fr3 c (by omega)
    · obtain ⟨s, WF, MF, x⟩ := t3 j (by omega)
      exact ⟨s, WF, MF, x.cong fun c _ _ => by rw [fr3 c (by omega), fr c (by omega)]⟩
set_option maxRecDepth 100000 in
set_option maxHeartbeats 8000000 in
theorem Y_init (H : h S = some zY0) : ∃ h', f_Y_init S h (S + 1) = some h' ∧ CI h' S 0 (fun _ => (0, fun _ => 0, fun _ => 0)) (fun _ => 0) (fun _ => 0) (fun _ => 0) (fun _ => 0) (fun _ => 0) 0 (-1) := by
  have s0 : h S = some (.inr (7, [.null, .null, .null, .null, .null, .null, .null, .null, .null, .int 0, .int 0])) := H
  have a1 : (hup h (S + 1) (.inr (0, [.null, .null]))) S = some (.inr (7, [.null, .null, .null, .null, .null, .null, .null, .null, .null, .int 0, .int 0])) := by rw [hup_n (by omega)]; exact s0
  obtain ⟨b1, B1, K1, f1⟩ := B_init (h := hup h (S + 1) (.inr (0, [.null, .null]))) (a := S + 1) hup_s
  have s1 : b1 S = some (.inr (7, [.null, .null, .null, .null, .null, .null, .null, .null, .null, .int 0, .int 0])) := by rw [f1 S (by omega) (by omega) (by omega)]; exact a1
  obtain ⟨g1, E1, p1, o1⟩ := pv_g (k := 0) (v := .ref (S + 1)) s1 (by simp)
  have p1 : g1 S = some (.inr (7, [.ref (S + 1), .null, .null, .null, .null, .null, .null, .null, .null, .int 0, .int 0])) := p1
  have F1 : ∀ c, c ≠ S → c < S + 1 → g1 c = h c := fun c x y => by rw [o1 c x, f1 c (by omega) (by omega) (by omega), hup_n (by omega)]
  have a2 : (hup g1 (S + 4) (.inr (0, [.null, .null]))) S = some (.inr (7, [.ref (S + 1), .null, .null, .null, .null, .null, .null, .null, .null, .int 0, .int 0])) := by rw [hup_n (by omega)]; exact p1
  obtain ⟨b2, B2, K2, f2⟩ := B_init (h := hup g1 (S + 4) (.inr (0, [.null, .null]))) (a := S + 4) hup_s
  have s2 : b2 S = some (.inr (7, [.ref (S + 1), .null, .null, .null, .null, .null, .null, .null, .null, .int 0, .int 0])) := by rw [f2 S (by omega) (by omega) (by omega)]; exact a2
  obtain ⟨g2, E2, p2, o2⟩ := pv_g (k := 1) (v := .ref (S + 4)) s2 (by simp)
  have p2 : g2 S = some (.inr (7, [.ref (S + 1), .ref (S + 4), .null, .null, .null, .null, .null, .null, .null, .int 0, .int 0])) := p2
  have F2 : ∀ c, c ≠ S → c < S + 4 → g2 c = g1 c := fun c x y => by rw [o2 c x, f2 c (by omega) (by omega) (by omega), hup_n (by omega)]
  obtain ⟨g3, E3, p3, q3, o3⟩ := al_g (k := 2) (n := S + 7) (e := .inl (4, 8, .inr (.inr (.inr (.inr (fun _ => none)))))) (v := .ref (S + 7)) p2 (by omega) (by simp)
  have p3 : g3 S = some (.inr (7, [.ref (S + 1), .ref (S + 4), .ref (S + 7), .null, .null, .null, .null, .null, .null, .int 0, .int 0])) := p3
  have F3 : ∀ c, c ≠ S → c < S + 7 → g3 c = g2 c := fun c x y => o3 c x (by omega)
  have t0 : PI g3 S 0 := ⟨p3, ⟨_, q3, fun j hj => absurd hj (by omega)⟩, fun j hj => absurd hj (by omega)⟩
  obtain ⟨t1, T1, r1, u1⟩ := P_oneK (k := 0) (v := S + 8) (by decide) (by omega) t0
  obtain ⟨t2, T2, r2, u2⟩ := P_oneK (k := 1) (v := S + 11) (by decide) (by omega) r1
  obtain ⟨t3, T3, r3, u3⟩ := P_oneK (k := 2) (v := S + 14) (by decide) (by omega) r2
  obtain ⟨t4, T4, r4, u4⟩ := P_oneK (k := 3) (v := S + 17) (by decide) (by omega) r3
  obtain ⟨t5, T5, r5, u5⟩ := P_oneK (k := 4) (v := S + 20) (by decide) (by omega) r4
  obtain ⟨t6, T6, r6, u6⟩ := P_oneK (k := 5) (v := S + 23) (by decide) (by omega) r5
  obtain ⟨t7, T7, r7, u7⟩ := P_oneK (k := 6) (v := S + 26) (by decide) (by omega) r6
  obtain ⟨t8, T8, r8, u8⟩ := P_oneK (k := 7) (v := S + 29) (by decide) (by omega) r7
  have F4 : ∀ c, c ≠ S → c < S + 7 → t8 c = g3 c := fun c x y => (u8 c (by omega) (by omega)).trans ((u7 c (by omega) (by omega)).trans ((u6 c (by omega) (by omega)).trans ((u5 c (by omega) (by omega)).trans ((u4 c (by omega) (by omega)).trans ((u3 c (by omega) (by omega)).trans ((u2 c (by omega) (by omega)).trans (u1 c (by omega) (by omega))))))))
  obtain ⟨p8, ⟨PF, q8, z8⟩, x8⟩ := r8
  have a9 : (hup t8 (S + 32) (.inr (5, [.null, .int 0, .int 0, .int 0, .int 0, .null]))) S = some (.inr (7, [.ref (S + 1), .ref (S + 4), .ref (S + 7), .null, .null, .null, .null, .null, .null, .int 0, .int 0])) := by rw [hup_n (by omega)]; exact p8
  obtain ⟨b9, B9, K9, f9⟩ := R_init (h := hup t8 (S + 32) (.inr (5, [.null, .int 0, .int 0, .int 0, .int 0, .null]))) (a := S + 32) hup_s
  have s9 : b9 S = some (.inr (7, [.ref (S + 1), .ref (S + 4), .ref (S + 7), .null, .null, .null, .null, .null, .null, .int 0, .int 0])) := by rw [f9 S (by omega) (by omega)]; exact a9
  obtain ⟨g9, E9, p9, o9⟩ := pv_g (k := 3) (v := .ref (S + 32)) s9 (by simp)
  have p9 : g9 S = some (.inr (7, [.ref (S + 1), .ref (S + 4), .ref (S + 7), .ref (S + 32), .null, .null, .null, .null, .null, .int 0, .int 0])) := p9
  have F9 : ∀ c, c ≠ S → c < S + 32 → g9 c = t8 c := fun c x y => by rw [o9 c x, f9 c (by omega) (by omega), hup_n (by omega)]
  have a10 : (hup g9 (S + 34) (.inr (6, [.null, .null, .null, .int 0]))) S = some (.inr (7, [.ref (S + 1), .ref (S + 4), .ref (S + 7), .ref (S + 32), .null, .null, .null, .null, .null, .int 0, .int 0])) := by rw [hup_n (by omega)]; exact p9
  obtain ⟨b10, B10, K10, f10⟩ := T_init (h := hup g9 (S + 34) (.inr (6, [.null, .null, .null, .int 0]))) (a := S + 34) hup_s
  have s10 : b10 S = some (.inr (7, [.ref (S + 1), .ref (S + 4), .ref (S + 7), .ref (S + 32), .null, .null, .null, .null, .null, .int 0, .int 0])) := by rw [f10 S (by omega)]; exact a10
  obtain ⟨g10, E10, p10, o10⟩ := pv_g (k := 4) (v := .ref (S + 34)) s10 (by simp)
  have p10 : g10 S = some (.inr (7, [.ref (S + 1), .ref (S + 4), .ref (S + 7), .ref (S + 32), .ref (S + 34), .null, .null, .null, .null, .int 0, .int 0])) := p10
  have F10 : ∀ c, c ≠ S → c < S + 34 → g10 c = g9 c := fun c x y => by rw [o10 c x, f10 c (by omega), hup_n (by omega)]
  have a11 : (hup g10 (S + 45) (.inr (2, [.null, .null, .null, .null, .null, .null, .null, .null, .null, .null, .null, .int 0, .int 0]))) S = some (.inr (7, [.ref (S + 1), .ref (S + 4), .ref (S + 7), .ref (S + 32), .ref (S + 34), .null, .null, .null, .null, .int 0, .int 0])) := by rw [hup_n (by omega)]; exact p10
  obtain ⟨b11, B11, k0, k1, k2, k3, k4, k5, k6, k7, f11⟩ := L_init (h := hup g10 (S + 45) (.inr (2, [.null, .null, .null, .null, .null, .null, .null, .null, .null, .null, .null, .int 0, .int 0]))) (a := S + 45) (x1 := S + 1) (x2 := S + 4) (x3 := S + 34) hup_s
  have s11 : b11 S = some (.inr (7, [.ref (S + 1), .ref (S + 4), .ref (S + 7), .ref (S + 32), .ref (S + 34), .null, .null, .null, .null, .int 0, .int 0])) := by rw [f11 S (by omega)]; exact a11
  obtain ⟨g11, E11, p11, o11⟩ := pv_g (k := 5) (v := .ref (S + 45)) s11 (by simp)
  have p11 : g11 S = some (.inr (7, [.ref (S + 1), .ref (S + 4), .ref (S + 7), .ref (S + 32), .ref (S + 34), .ref (S + 45), .null, .null, .null, .int 0, .int 0])) := p11
  have F11 : ∀ c, c ≠ S → c < S + 45 → g11 c = g10 c := fun c x y => by rw [o11 c x, f11 c (by omega), hup_n (by omega)]
  have a12 : (hup g11 (S + 53) (.inr (3, [.null, .null, .null, .null]))) S = some (.inr (7, [.ref (S + 1), .ref (S + 4), .ref (S + 7), .ref (S + 32), .ref (S + 34), .ref (S + 45), .null, .null, .null, .int 0, .int 0])) := by rw [hup_n (by omega)]; exact p11
  obtain ⟨b12, B12, l0, l1, l2, l3, f12⟩ := K_init (h := hup g11 (S + 53) (.inr (3, [.null, .null, .null, .null]))) (a := S + 53) (x1 := S + 1) hup_s
  have s12 : b12 S = some (.inr (7, [.ref (S + 1), .ref (S + 4), .ref (S + 7), .ref (S + 32), .ref (S + 34), .ref (S + 45), .null, .null, .null, .int 0, .int 0])) := by rw [f12 S (by omega)]; exact a12
  obtain ⟨g12, E12, p12, o12⟩ := pv_g (k := 6) (v := .ref (S + 53)) s12 (by simp)
  have p12 : g12 S = some (.inr (7, [.ref (S + 1), .ref (S + 4), .ref (S + 7), .ref (S + 32), .ref (S + 34), .ref (S + 45), .ref (S + 53), .null, .null, .int 0, .int 0])) := p12
  have F12 : ∀ c, c ≠ S → c < S + 53 → g12 c = g11 c := fun c x y => by rw [o12 c x, f12 c (by omega), hup_n (by omega)]
  obtain ⟨g13, E13, p13, q13, o13⟩ := al_g (k := 7) (n := S + 57) (e := .inr (1, [.long 0, .long 1, .int 0, .int 0])) (v := .ref (S + 57)) p12 (by omega) (by simp)
  have p13 : g13 S = some (.inr (7, [.ref (S + 1), .ref (S + 4), .ref (S + 7), .ref (S + 32), .ref (S + 34), .ref (S + 45), .ref (S + 53), .ref (S + 57), .null, .int 0, .int 0])) := p13
  have F13 : ∀ c, c ≠ S → c < S + 57 → g13 c = g12 c := fun c x y => o13 c x (by omega)
  obtain ⟨g14, E14, p14, q14, o14⟩ := al_g (k := 8) (n := S + 58) (e := .inr (1, [.long 0, .long 1, .int 0, .int 0])) (v := .ref (S + 58)) p13 (by omega) (by simp)
  have p14 : g14 S = some (.inr (7, [.ref (S + 1), .ref (S + 4), .ref (S + 7), .ref (S + 32), .ref (S + 34), .ref (S + 45), .ref (S + 53), .ref (S + 57), .ref (S + 58), .int 0, .int 0])) := p14
  have F14 : ∀ c, c ≠ S → c < S + 58 → g14 c = g13 c := fun c x y => o14 c x (by omega)
  obtain ⟨g15, E15, p15, o15⟩ := pv_g (k := 9) (v := .int 0) p14 (by simp)
  have p15 : g15 S = some (.inr (7, [.ref (S + 1), .ref (S + 4), .ref (S + 7), .ref (S + 32), .ref (S + 34), .ref (S + 45), .ref (S + 53), .ref (S + 57), .ref (S + 58), .int 0, .int 0])) := p15
  obtain ⟨g16, E16, p16, o16⟩ := pv_g (k := 10) (v := .int (-1)) p15 (by simp)
  have p16 : g16 S = some (.inr (7, [.ref (S + 1), .ref (S + 4), .ref (S + 7), .ref (S + 32), .ref (S + 34), .ref (S + 45), .ref (S + 53), .ref (S + 57), .ref (S + 58), .int 0, .int (-1)])) := p16
  have G14 : ∀ c, c ≠ S → g16 c = g14 c := fun c x => (o16 c x).trans (o15 c x)
  have G13 : ∀ c, c ≠ S → c < S + 58 → g16 c = g13 c := fun c x y => (G14 c x).trans (F14 c x y)
  have G12 : ∀ c, c ≠ S → c < S + 57 → g16 c = g12 c := fun c x y => (G13 c x (by omega)).trans (F13 c x y)
  have G11 : ∀ c, c ≠ S → c < S + 53 → g16 c = g11 c := fun c x y => (G12 c x (by omega)).trans (F12 c x y)
  have G10 : ∀ c, c ≠ S → c < S + 45 → g16 c = g10 c := fun c x y => (G11 c x (by omega)).trans (F11 c x y)
  have G9 : ∀ c, c ≠ S → c < S + 34 → g16 c = g9 c := fun c x y => (G10 c x (by omega)).trans (F10 c x y)
  have G8 : ∀ c, c ≠ S → c < S + 32 → g16 c = t8 c := fun c x y => (G9 c x (by omega)).trans (F9 c x y)
  have G2 : ∀ c, c ≠ S → c < S + 7 → g16 c = g2 c := fun c x y => (G8 c x (by omega)).trans ((F4 c x y).trans (F3 c x y))
  have G1 : ∀ c, c ≠ S → c < S + 4 → g16 c = g1 c := fun c x y => (G2 c x (by omega)).trans (F2 c x y)
  refine ⟨g16, ?_, p16, ⟨PF, (G8 _ (by omega) (by omega)).trans q8, z8⟩, fun k hk => ?_, ⟨.null, 0, -1, (fun _ => 0, fun _ => 0, fun _ => 0), fun _ => 0, ⟨?_, ⟨fun _ => 0, fun _ => 0, ?_⟩, ?_, ?_, ?_, ?_, ?_, ?_, ?_⟩, ?_, fun _ _ _ _ _ _ => Or.inl rfl, Or.inl rfl, fun n hn => absurd hn (by omega)⟩, ?_, ⟨?_, ?_⟩, ⟨?_, ⟨fun _ => 0, ?_⟩, ⟨fun _ => 0, ?_⟩, ⟨fun _ => 0, ?_⟩⟩, ⟨fun _ => 0, ?_⟩⟩
  · unfold f_Y_init
    refine bnd rfl (bnd B1 (bnd E1 (bnd rfl (bnd B2 (bnd E2 (bnd rfl (bnd E3 ?_)))))))
    refine (T1 _).trans ((T2 _).trans ((T3 _).trans ((T4 _).trans ((T5 _).trans ((T6 _).trans ((T7 _).trans ((T8 _).trans ?_)))))))
    refine bnd rfl (bnd B9 (bnd E9 (bnd rfl (bnd B10 (bnd E10 ?_)))))
    refine bnd rfl (bnd (x := some (S + 1)) (by simp [gA, gV, a11]) (bnd (x := some (S + 4)) (by simp [gA, gV, a11]) (bnd (x := some (S + 34)) (by simp [gA, gV, a11]) (bnd rfl (bnd rfl (bnd rfl (bnd B11 (bnd E11 ?_))))))))
    refine bnd rfl (bnd (x := some (S + 1)) (by simp [gA, gV, a12]) (bnd rfl (bnd B12 (bnd E12 ?_))))
    refine bnd rfl (bnd (F_init hup_s) ?_)
    rw [hup_u]
    refine bnd E13 (bnd rfl (bnd (F_init hup_s) ?_))
    rw [hup_u]
    exact bnd E14 (bnd E15 (bnd E16 rfl))
  · obtain ⟨s, WF, MF, x⟩ := x8 k hk
    exact ⟨s, WF, MF, x.cong fun c _ _ => G8 c (by omega) (by omega)⟩
  · exact K1.cong fun c _ _ => (G1 c (by omega) (by omega)).trans (o1 c (by omega))
  · exact K2.cong fun c _ _ => (G2 c (by omega) (by omega)).trans (o2 c (by omega))
  · exact K10.cong fun c _ _ => (G10 c (by omega) (by omega)).trans (o10 c (by omega))
  · exact ((G11 _ (by omega) (by omega)).trans (o11 _ (by omega))).trans k0
  · exact ((G11 _ (by omega) (by omega)).trans (o11 _ (by omega))).trans k1
  · exact ((G11 _ (by omega) (by omega)).trans (o11 _ (by omega))).trans k2
  · exact ((G11 _ (by omega) (by omega)).trans (o11 _ (by omega))).trans k3
  · exact k6.cong ((G11 _ (by omega) (by omega)).trans (o11 _ (by omega)))
  · exact k7.cong ((G11 _ (by omega) (by omega)).trans (o11 _ (by omega)))
  · exact ((G11 _ (by omega) (by omega)).trans (o11 _ (by omega))).trans k4
  · exact K9.cong fun c _ _ => (G9 c (by omega) (by omega)).trans (o9 c (by omega))
  · exact ⟨0, 1, 0, 0, (G13 _ (by omega) (by omega)).trans q13⟩
  · exact ⟨0, 1, 0, 0, (G14 _ (by omega)).trans q14⟩
  · exact ((G12 _ (by omega) (by omega)).trans (o12 _ (by omega))).trans l0
  · exact ((G12 _ (by omega) (by omega)).trans (o12 _ (by omega))).trans l1
  · exact ((G12 _ (by omega) (by omega)).trans (o12 _ (by omega))).trans l2
  · exact ((G12 _ (by omega) (by omega)).trans (o12 _ (by omega))).trans l3
  · exact ((G11 _ (by omega) (by omega)).trans (o11 _ (by omega))).trans k5
end
theorem zInv_init : ∀ S : Nat, ∃ h1 h2, f_Y_init S (hup (fun _ => none) S zY0) (S + 1) = some h1 ∧ f_M_init (S + 59) (hup h1 (S + 59) zM0) (S + 60) = some h2 ∧ zInv S h2 := by
  intro S
  obtain ⟨h1, E1, C⟩ := Y_init (h := hup (fun _ => none) S zY0) (S := S) hup_s
  obtain ⟨h2, F, E2, M, f⟩ := M_init (h := hup h1 (S + 59) zM0) (m := S + 59) hup_s
  refine ⟨h1, h2, E1, E2, 0, _, _, _, _, _, _, _, _, F, by decide, ⟨fun _ _ => rfl, fun z w g _ _ _ => ?_, fun _ _ => Nat.zero_le _, fun _ _ => Nat.zero_le _⟩, fun _ _ _ => rfl, C.cong (by decide) fun c x y => ?_, M⟩
  · unfold amq bam
    by_cases c : z = 3
    · rw [if_pos c]; rfl
    · rw [if_neg c]
  · rw [f c (by omega), hup_n (by omega)]
theorem zInv_sims : ∀ S, Sims (zInv S) S := fun _ => ⟨sim_price, sim_bought, sim_cost, sim_goods, sim_count, sim_feed, sim_number, sim_fault, sim_worth, sim_order, sim_keeps, sim_breach, sim_clash, sim_drift, sim_chosen, sim_ring, sim_need, sim_part, sim_wage, sim_dearest, sim_turn⟩
