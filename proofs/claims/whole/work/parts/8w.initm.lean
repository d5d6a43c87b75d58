/-! ===== the start: the reference ===== -/
theorem bnd {α β : Type} {o : Option α} {x : α} {f : α → Option β} {r : Option β} (e : o = some x) (k : f x = r) : o.bind f = r := by rw [e, Option.bind_some]; exact k
section
variable {h : Hp} {m : Nat}
set_option maxRecDepth 100000 in
set_option maxHeartbeats 8000000 in
theorem M_init (H : h m = some zM0) : ∃ h' F, f_M_init m h (m + 1) = some h' ∧ MI h' m 0 (fun _ => (0, fun _ => 0, fun _ => 0)) (fun _ => 0) (fun _ => 0) (fun _ => 0) 0 (-1) F ∧ ∀ c, c < m → h' c = h c := by
  obtain ⟨g1, E1, p1, q1, o1⟩ := al_g (k := 0) (n := m + 1) (e := .inl (0, 50, .inl (fun _ => 0))) (v := .ref (m + 1)) H (by omega) (by simp)
  have p1 : g1 m = some (.inr (8, [.ref (m + 1), .null, .int 0, .null, .null, .null, .int 0, .int 0, .int 0, .int 0, .null, .null, .int 0, .int 0, .long 0, .long 0, .int 0, .int 0, .null, .null, .null, .null, .null, .null, .null, .null, .int 0, .int 0, .null, .null, .null, .null, .null, .int 0, .int 0, .int 0, .null, .null, .null, .null])) := p1
  obtain ⟨g2, E2, p2, q2, o2⟩ := al_g (k := 1) (n := m + 2) (e := .inl (0, 150, .inl (fun _ => 0))) (v := .ref (m + 2)) p1 (by omega) (by simp)
  have p2 : g2 m = some (.inr (8, [.ref (m + 1), .ref (m + 2), .int 0, .null, .null, .null, .int 0, .int 0, .int 0, .int 0, .null, .null, .int 0, .int 0, .long 0, .long 0, .int 0, .int 0, .null, .null, .null, .null, .null, .null, .null, .null, .int 0, .int 0, .null, .null, .null, .null, .null, .int 0, .int 0, .int 0, .null, .null, .null, .null])) := p2
  obtain ⟨g3, E3, p3, q3, o3⟩ := al_g (k := 3) (n := m + 3) (e := .inl (0, 320, .inl (fun _ => 0))) (v := .ref (m + 3)) p2 (by omega) (by simp)
  have p3 : g3 m = some (.inr (8, [.ref (m + 1), .ref (m + 2), .int 0, .ref (m + 3), .null, .null, .int 0, .int 0, .int 0, .int 0, .null, .null, .int 0, .int 0, .long 0, .long 0, .int 0, .int 0, .null, .null, .null, .null, .null, .null, .null, .null, .int 0, .int 0, .null, .null, .null, .null, .null, .int 0, .int 0, .int 0, .null, .null, .null, .null])) := p3
  obtain ⟨g4, E4, p4, q4, o4⟩ := al_g (k := 4) (n := m + 4) (e := .inl (0, 320, .inl (fun _ => 0))) (v := .ref (m + 4)) p3 (by omega) (by simp)
  have p4 : g4 m = some (.inr (8, [.ref (m + 1), .ref (m + 2), .int 0, .ref (m + 3), .ref (m + 4), .null, .int 0, .int 0, .int 0, .int 0, .null, .null, .int 0, .int 0, .long 0, .long 0, .int 0, .int 0, .null, .null, .null, .null, .null, .null, .null, .null, .int 0, .int 0, .null, .null, .null, .null, .null, .int 0, .int 0, .int 0, .null, .null, .null, .null])) := p4
  obtain ⟨g5, E5, p5, q5, o5⟩ := al_g (k := 5) (n := m + 5) (e := .inl (0, 80, .inl (fun _ => 0))) (v := .ref (m + 5)) p4 (by omega) (by simp)
  have p5 : g5 m = some (.inr (8, [.ref (m + 1), .ref (m + 2), .int 0, .ref (m + 3), .ref (m + 4), .ref (m + 5), .int 0, .int 0, .int 0, .int 0, .null, .null, .int 0, .int 0, .long 0, .long 0, .int 0, .int 0, .null, .null, .null, .null, .null, .null, .null, .null, .int 0, .int 0, .null, .null, .null, .null, .null, .int 0, .int 0, .int 0, .null, .null, .null, .null])) := p5
  obtain ⟨g6, E6, p6, o6⟩ := pv_g (k := 7) (v := .int (-1)) p5 (by simp)
  have p6 : g6 m = some (.inr (8, [.ref (m + 1), .ref (m + 2), .int 0, .ref (m + 3), .ref (m + 4), .ref (m + 5), .int 0, .int (-1), .int 0, .int 0, .null, .null, .int 0, .int 0, .long 0, .long 0, .int 0, .int 0, .null, .null, .null, .null, .null, .null, .null, .null, .int 0, .int 0, .null, .null, .null, .null, .null, .int 0, .int 0, .int 0, .null, .null, .null, .null])) := p6
  obtain ⟨g7, E7, p7, q7, o7⟩ := al_g (k := 10) (n := m + 6) (e := .inl (0, 8, .inl (fun _ => 0))) (v := .ref (m + 6)) p6 (by omega) (by simp)
  have p7 : g7 m = some (.inr (8, [.ref (m + 1), .ref (m + 2), .int 0, .ref (m + 3), .ref (m + 4), .ref (m + 5), .int 0, .int (-1), .int 0, .int 0, .ref (m + 6), .null, .int 0, .int 0, .long 0, .long 0, .int 0, .int 0, .null, .null, .null, .null, .null, .null, .null, .null, .int 0, .int 0, .null, .null, .null, .null, .null, .int 0, .int 0, .int 0, .null, .null, .null, .null])) := p7
  obtain ⟨g8, E8, p8, q8, o8⟩ := al_g (k := 11) (n := m + 7) (e := .inl (2, 8, .inl (fun _ => 0))) (v := .ref (m + 7)) p7 (by omega) (by simp)
  have p8 : g8 m = some (.inr (8, [.ref (m + 1), .ref (m + 2), .int 0, .ref (m + 3), .ref (m + 4), .ref (m + 5), .int 0, .int (-1), .int 0, .int 0, .ref (m + 6), .ref (m + 7), .int 0, .int 0, .long 0, .long 0, .int 0, .int 0, .null, .null, .null, .null, .null, .null, .null, .null, .int 0, .int 0, .null, .null, .null, .null, .null, .int 0, .int 0, .int 0, .null, .null, .null, .null])) := p8
  obtain ⟨g9, E9, p9, q9, o9⟩ := al_g (k := 18) (n := m + 8) (e := .inl (0, 8, .inl (fun _ => 0))) (v := .ref (m + 8)) p8 (by omega) (by simp)
  have p9 : g9 m = some (.inr (8, [.ref (m + 1), .ref (m + 2), .int 0, .ref (m + 3), .ref (m + 4), .ref (m + 5), .int 0, .int (-1), .int 0, .int 0, .ref (m + 6), .ref (m + 7), .int 0, .int 0, .long 0, .long 0, .int 0, .int 0, .ref (m + 8), .null, .null, .null, .null, .null, .null, .null, .int 0, .int 0, .null, .null, .null, .null, .null, .int 0, .int 0, .int 0, .null, .null, .null, .null])) := p9
  obtain ⟨g10, E10, p10, q10, o10⟩ := al_g (k := 19) (n := m + 9) (e := .inl (0, 8, .inl (fun _ => 0))) (v := .ref (m + 9)) p9 (by omega) (by simp)
  have p10 : g10 m = some (.inr (8, [.ref (m + 1), .ref (m + 2), .int 0, .ref (m + 3), .ref (m + 4), .ref (m + 5), .int 0, .int (-1), .int 0, .int 0, .ref (m + 6), .ref (m + 7), .int 0, .int 0, .long 0, .long 0, .int 0, .int 0, .ref (m + 8), .ref (m + 9), .null, .null, .null, .null, .null, .null, .int 0, .int 0, .null, .null, .null, .null, .null, .int 0, .int 0, .int 0, .null, .null, .null, .null])) := p10
  obtain ⟨g11, E11, p11, q11, o11⟩ := al_g (k := 20) (n := m + 10) (e := .inl (0, 8, .inl (fun _ => 0))) (v := .ref (m + 10)) p10 (by omega) (by simp)
  have p11 : g11 m = some (.inr (8, [.ref (m + 1), .ref (m + 2), .int 0, .ref (m + 3), .ref (m + 4), .ref (m + 5), .int 0, .int (-1), .int 0, .int 0, .ref (m + 6), .ref (m + 7), .int 0, .int 0, .long 0, .long 0, .int 0, .int 0, .ref (m + 8), .ref (m + 9), .ref (m + 10), .null, .null, .null, .null, .null, .int 0, .int 0, .null, .null, .null, .null, .null, .int 0, .int 0, .int 0, .null, .null, .null, .null])) := p11
  obtain ⟨g12, E12, p12, q12, o12⟩ := al_g (k := 21) (n := m + 11) (e := .inl (0, 8, .inl (fun _ => 0))) (v := .ref (m + 11)) p11 (by omega) (by simp)
  have p12 : g12 m = some (.inr (8, [.ref (m + 1), .ref (m + 2), .int 0, .ref (m + 3), .ref (m + 4), .ref (m + 5), .int 0, .int (-1), .int 0, .int 0, .ref (m + 6), .ref (m + 7), .int 0, .int 0, .long 0, .long 0, .int 0, .int 0, .ref (m + 8), .ref (m + 9), .ref (m + 10), .ref (m + 11), .null, .null, .null, .null, .int 0, .int 0, .null, .null, .null, .null, .null, .int 0, .int 0, .int 0, .null, .null, .null, .null])) := p12
  obtain ⟨g13, E13, p13, q13, o13⟩ := al_g (k := 22) (n := m + 12) (e := .inl (0, 8, .inl (fun _ => 0))) (v := .ref (m + 12)) p12 (by omega) (by simp)
  have p13 : g13 m = some (.inr (8, [.ref (m + 1), .ref (m + 2), .int 0, .ref (m + 3), .ref (m + 4), .ref (m + 5), .int 0, .int (-1), .int 0, .int 0, .ref (m + 6), .ref (m + 7), .int 0, .int 0, .long 0, .long 0, .int 0, .int 0, .ref (m + 8), .ref (m + 9), .ref (m + 10), .ref (m + 11), .ref (m + 12), .null, .null, .null, .int 0, .int 0, .null, .null, .null, .null, .null, .int 0, .int 0, .int 0, .null, .null, .null, .null])) := p13
  obtain ⟨g14, E14, p14, q14, o14⟩ := al_g (k := 23) (n := m + 13) (e := .inl (1, 8, .inr (.inl (fun _ => 0)))) (v := .ref (m + 13)) p13 (by omega) (by simp)
  have p14 : g14 m = some (.inr (8, [.ref (m + 1), .ref (m + 2), .int 0, .ref (m + 3), .ref (m + 4), .ref (m + 5), .int 0, .int (-1), .int 0, .int 0, .ref (m + 6), .ref (m + 7), .int 0, .int 0, .long 0, .long 0, .int 0, .int 0, .ref (m + 8), .ref (m + 9), .ref (m + 10), .ref (m + 11), .ref (m + 12), .ref (m + 13), .null, .null, .int 0, .int 0, .null, .null, .null, .null, .null, .int 0, .int 0, .int 0, .null, .null, .null, .null])) := p14
  obtain ⟨g15, E15, p15, q15, o15⟩ := al_g (k := 24) (n := m + 14) (e := .inl (1, 8, .inr (.inl (fun _ => 0)))) (v := .ref (m + 14)) p14 (by omega) (by simp)
  have p15 : g15 m = some (.inr (8, [.ref (m + 1), .ref (m + 2), .int 0, .ref (m + 3), .ref (m + 4), .ref (m + 5), .int 0, .int (-1), .int 0, .int 0, .ref (m + 6), .ref (m + 7), .int 0, .int 0, .long 0, .long 0, .int 0, .int 0, .ref (m + 8), .ref (m + 9), .ref (m + 10), .ref (m + 11), .ref (m + 12), .ref (m + 13), .ref (m + 14), .null, .int 0, .int 0, .null, .null, .null, .null, .null, .int 0, .int 0, .int 0, .null, .null, .null, .null])) := p15
  obtain ⟨g16, E16, p16, q16, o16⟩ := al_g (k := 25) (n := m + 15) (e := .inl (2, 8, .inl (fun _ => 0))) (v := .ref (m + 15)) p15 (by omega) (by simp)
  have p16 : g16 m = some (.inr (8, [.ref (m + 1), .ref (m + 2), .int 0, .ref (m + 3), .ref (m + 4), .ref (m + 5), .int 0, .int (-1), .int 0, .int 0, .ref (m + 6), .ref (m + 7), .int 0, .int 0, .long 0, .long 0, .int 0, .int 0, .ref (m + 8), .ref (m + 9), .ref (m + 10), .ref (m + 11), .ref (m + 12), .ref (m + 13), .ref (m + 14), .ref (m + 15), .int 0, .int 0, .null, .null, .null, .null, .null, .int 0, .int 0, .int 0, .null, .null, .null, .null])) := p16
  obtain ⟨g17, E17, p17, q17, o17⟩ := al_g (k := 28) (n := m + 16) (e := .inl (1, 3, .inr (.inl (fun _ => 0)))) (v := .ref (m + 16)) p16 (by omega) (by simp)
  have p17 : g17 m = some (.inr (8, [.ref (m + 1), .ref (m + 2), .int 0, .ref (m + 3), .ref (m + 4), .ref (m + 5), .int 0, .int (-1), .int 0, .int 0, .ref (m + 6), .ref (m + 7), .int 0, .int 0, .long 0, .long 0, .int 0, .int 0, .ref (m + 8), .ref (m + 9), .ref (m + 10), .ref (m + 11), .ref (m + 12), .ref (m + 13), .ref (m + 14), .ref (m + 15), .int 0, .int 0, .ref (m + 16), .null, .null, .null, .null, .int 0, .int 0, .int 0, .null, .null, .null, .null])) := p17
  obtain ⟨g18, E18, p18, q18, o18⟩ := al_g (k := 29) (n := m + 17) (e := .inl (1, 3, .inr (.inl (fun _ => 0)))) (v := .ref (m + 17)) p17 (by omega) (by simp)
  have p18 : g18 m = some (.inr (8, [.ref (m + 1), .ref (m + 2), .int 0, .ref (m + 3), .ref (m + 4), .ref (m + 5), .int 0, .int (-1), .int 0, .int 0, .ref (m + 6), .ref (m + 7), .int 0, .int 0, .long 0, .long 0, .int 0, .int 0, .ref (m + 8), .ref (m + 9), .ref (m + 10), .ref (m + 11), .ref (m + 12), .ref (m + 13), .ref (m + 14), .ref (m + 15), .int 0, .int 0, .ref (m + 16), .ref (m + 17), .null, .null, .null, .int 0, .int 0, .int 0, .null, .null, .null, .null])) := p18
  obtain ⟨g19, E19, p19, q19, o19⟩ := al_g (k := 30) (n := m + 18) (e := .inl (2, 3, .inl (fun _ => 0))) (v := .ref (m + 18)) p18 (by omega) (by simp)
  have p19 : g19 m = some (.inr (8, [.ref (m + 1), .ref (m + 2), .int 0, .ref (m + 3), .ref (m + 4), .ref (m + 5), .int 0, .int (-1), .int 0, .int 0, .ref (m + 6), .ref (m + 7), .int 0, .int 0, .long 0, .long 0, .int 0, .int 0, .ref (m + 8), .ref (m + 9), .ref (m + 10), .ref (m + 11), .ref (m + 12), .ref (m + 13), .ref (m + 14), .ref (m + 15), .int 0, .int 0, .ref (m + 16), .ref (m + 17), .ref (m + 18), .null, .null, .int 0, .int 0, .int 0, .null, .null, .null, .null])) := p19
  obtain ⟨g20, E20, p20, q20, o20⟩ := al_g (k := 31) (n := m + 19) (e := .inl (0, 50, .inl (fun _ => 0))) (v := .ref (m + 19)) p19 (by omega) (by simp)
  have p20 : g20 m = some (.inr (8, [.ref (m + 1), .ref (m + 2), .int 0, .ref (m + 3), .ref (m + 4), .ref (m + 5), .int 0, .int (-1), .int 0, .int 0, .ref (m + 6), .ref (m + 7), .int 0, .int 0, .long 0, .long 0, .int 0, .int 0, .ref (m + 8), .ref (m + 9), .ref (m + 10), .ref (m + 11), .ref (m + 12), .ref (m + 13), .ref (m + 14), .ref (m + 15), .int 0, .int 0, .ref (m + 16), .ref (m + 17), .ref (m + 18), .ref (m + 19), .null, .int 0, .int 0, .int 0, .null, .null, .null, .null])) := p20
  obtain ⟨g21, E21, p21, q21, o21⟩ := al_g (k := 32) (n := m + 20) (e := .inl (0, 150, .inl (fun _ => 0))) (v := .ref (m + 20)) p20 (by omega) (by simp)
  have p21 : g21 m = some (.inr (8, [.ref (m + 1), .ref (m + 2), .int 0, .ref (m + 3), .ref (m + 4), .ref (m + 5), .int 0, .int (-1), .int 0, .int 0, .ref (m + 6), .ref (m + 7), .int 0, .int 0, .long 0, .long 0, .int 0, .int 0, .ref (m + 8), .ref (m + 9), .ref (m + 10), .ref (m + 11), .ref (m + 12), .ref (m + 13), .ref (m + 14), .ref (m + 15), .int 0, .int 0, .ref (m + 16), .ref (m + 17), .ref (m + 18), .ref (m + 19), .ref (m + 20), .int 0, .int 0, .int 0, .null, .null, .null, .null])) := p21
  obtain ⟨g22, E22, p22, q22, o22⟩ := al_g (k := 36) (n := m + 21) (e := .inl (0, 8, .inl (fun _ => 0))) (v := .ref (m + 21)) p21 (by omega) (by simp)
  have p22 : g22 m = some (.inr (8, [.ref (m + 1), .ref (m + 2), .int 0, .ref (m + 3), .ref (m + 4), .ref (m + 5), .int 0, .int (-1), .int 0, .int 0, .ref (m + 6), .ref (m + 7), .int 0, .int 0, .long 0, .long 0, .int 0, .int 0, .ref (m + 8), .ref (m + 9), .ref (m + 10), .ref (m + 11), .ref (m + 12), .ref (m + 13), .ref (m + 14), .ref (m + 15), .int 0, .int 0, .ref (m + 16), .ref (m + 17), .ref (m + 18), .ref (m + 19), .ref (m + 20), .int 0, .int 0, .int 0, .ref (m + 21), .null, .null, .null])) := p22
  obtain ⟨g23, E23, p23, q23, o23⟩ := al_g (k := 37) (n := m + 22) (e := .inl (2, 1100, .inl (fun _ => 0))) (v := .ref (m + 22)) p22 (by omega) (by simp)
  have p23 : g23 m = some (.inr (8, [.ref (m + 1), .ref (m + 2), .int 0, .ref (m + 3), .ref (m + 4), .ref (m + 5), .int 0, .int (-1), .int 0, .int 0, .ref (m + 6), .ref (m + 7), .int 0, .int 0, .long 0, .long 0, .int 0, .int 0, .ref (m + 8), .ref (m + 9), .ref (m + 10), .ref (m + 11), .ref (m + 12), .ref (m + 13), .ref (m + 14), .ref (m + 15), .int 0, .int 0, .ref (m + 16), .ref (m + 17), .ref (m + 18), .ref (m + 19), .ref (m + 20), .int 0, .int 0, .int 0, .ref (m + 21), .ref (m + 22), .null, .null])) := p23
  obtain ⟨g24, E24, p24, q24, o24⟩ := al_g (k := 38) (n := m + 23) (e := .inl (2, 1100, .inl (fun _ => 0))) (v := .ref (m + 23)) p23 (by omega) (by simp)
  have p24 : g24 m = some (.inr (8, [.ref (m + 1), .ref (m + 2), .int 0, .ref (m + 3), .ref (m + 4), .ref (m + 5), .int 0, .int (-1), .int 0, .int 0, .ref (m + 6), .ref (m + 7), .int 0, .int 0, .long 0, .long 0, .int 0, .int 0, .ref (m + 8), .ref (m + 9), .ref (m + 10), .ref (m + 11), .ref (m + 12), .ref (m + 13), .ref (m + 14), .ref (m + 15), .int 0, .int 0, .ref (m + 16), .ref (m + 17), .ref (m + 18), .ref (m + 19), .ref (m + 20), .int 0, .int 0, .int 0, .ref (m + 21), .ref (m + 22), .ref (m + 23), .null])) := p24
  obtain ⟨g25, E25, p25, q25, o25⟩ := al_g (k := 39) (n := m + 24) (e := .inl (0, 100, .inl (fun _ => 0))) (v := .ref (m + 24)) p24 (by omega) (by simp)
  have p25 : g25 m = some (.inr (8, [.ref (m + 1), .ref (m + 2), .int 0, .ref (m + 3), .ref (m + 4), .ref (m + 5), .int 0, .int (-1), .int 0, .int 0, .ref (m + 6), .ref (m + 7), .int 0, .int 0, .long 0, .long 0, .int 0, .int 0, .ref (m + 8), .ref (m + 9), .ref (m + 10), .ref (m + 11), .ref (m + 12), .ref (m + 13), .ref (m + 14), .ref (m + 15), .int 0, .int 0, .ref (m + 16), .ref (m + 17), .ref (m + 18), .ref (m + 19), .ref (m + 20), .int 0, .int 0, .int 0, .ref (m + 21), .ref (m + 22), .ref (m + 23), .ref (m + 24)])) := p25
  have G25 : ∀ c, m < c → c < m + 26 → g25 c = g25 c := fun _ _ _ => rfl
  have G24 : ∀ c, m < c → c < m + 24 → g25 c = g24 c := fun c x y => (G25 c x (by omega)).trans (o25 c (by omega) (by omega))
  have G23 : ∀ c, m < c → c < m + 23 → g25 c = g23 c := fun c x y => (G24 c x (by omega)).trans (o24 c (by omega) (by omega))
  have G22 : ∀ c, m < c → c < m + 22 → g25 c = g22 c := fun c x y => (G23 c x (by omega)).trans (o23 c (by omega) (by omega))
  have G21 : ∀ c, m < c → c < m + 21 → g25 c = g21 c := fun c x y => (G22 c x (by omega)).trans (o22 c (by omega) (by omega))
  have G20 : ∀ c, m < c → c < m + 20 → g25 c = g20 c := fun c x y => (G21 c x (by omega)).trans (o21 c (by omega) (by omega))
  have G19 : ∀ c, m < c → c < m + 19 → g25 c = g19 c := fun c x y => (G20 c x (by omega)).trans (o20 c (by omega) (by omega))
  have G18 : ∀ c, m < c → c < m + 18 → g25 c = g18 c := fun c x y => (G19 c x (by omega)).trans (o19 c (by omega) (by omega))
  have G17 : ∀ c, m < c → c < m + 17 → g25 c = g17 c := fun c x y => (G18 c x (by omega)).trans (o18 c (by omega) (by omega))
  have G16 : ∀ c, m < c → c < m + 16 → g25 c = g16 c := fun c x y => (G17 c x (by omega)).trans (o17 c (by omega) (by omega))
  have G15 : ∀ c, m < c → c < m + 15 → g25 c = g15 c := fun c x y => (G16 c x (by omega)).trans (o16 c (by omega) (by omega))
  have G14 : ∀ c, m < c → c < m + 14 → g25 c = g14 c := fun c x y => (G15 c x (by omega)).trans (o15 c (by omega) (by omega))
  have G13 : ∀ c, m < c → c < m + 13 → g25 c = g13 c := fun c x y => (G14 c x (by omega)).trans (o14 c (by omega) (by omega))
  have G12 : ∀ c, m < c → c < m + 12 → g25 c = g12 c := fun c x y => (G13 c x (by omega)).trans (o13 c (by omega) (by omega))
  have G11 : ∀ c, m < c → c < m + 11 → g25 c = g11 c := fun c x y => (G12 c x (by omega)).trans (o12 c (by omega) (by omega))
  have G10 : ∀ c, m < c → c < m + 10 → g25 c = g10 c := fun c x y => (G11 c x (by omega)).trans (o11 c (by omega) (by omega))
  have G9 : ∀ c, m < c → c < m + 9 → g25 c = g9 c := fun c x y => (G10 c x (by omega)).trans (o10 c (by omega) (by omega))
  have G8 : ∀ c, m < c → c < m + 8 → g25 c = g8 c := fun c x y => (G9 c x (by omega)).trans (o9 c (by omega) (by omega))
  have G7 : ∀ c, m < c → c < m + 7 → g25 c = g7 c := fun c x y => (G8 c x (by omega)).trans (o8 c (by omega) (by omega))
  have G6 : ∀ c, m < c → c < m + 6 → g25 c = g6 c := fun c x y => (G7 c x (by omega)).trans (o7 c (by omega) (by omega))
  have G5 : ∀ c, m < c → c < m + 6 → g25 c = g5 c := fun c x y => (G6 c x (by omega)).trans (o6 c (by omega))
  have G4 : ∀ c, m < c → c < m + 5 → g25 c = g4 c := fun c x y => (G5 c x (by omega)).trans (o5 c (by omega) (by omega))
  have G3 : ∀ c, m < c → c < m + 4 → g25 c = g3 c := fun c x y => (G4 c x (by omega)).trans (o4 c (by omega) (by omega))
  have G2 : ∀ c, m < c → c < m + 3 → g25 c = g2 c := fun c x y => (G3 c x (by omega)).trans (o3 c (by omega) (by omega))
  have G1 : ∀ c, m < c → c < m + 2 → g25 c = g1 c := fun c x y => (G2 c x (by omega)).trans (o2 c (by omega) (by omega))
  have r1 := (G1 (m + 1) (by omega) (by omega)).trans q1
  have r2 := (G2 (m + 2) (by omega) (by omega)).trans q2
  have r3 := (G3 (m + 3) (by omega) (by omega)).trans q3
  have r4 := (G4 (m + 4) (by omega) (by omega)).trans q4
  have r5 := (G5 (m + 5) (by omega) (by omega)).trans q5
  have r6 := (G7 (m + 6) (by omega) (by omega)).trans q7
  have r7 := (G8 (m + 7) (by omega) (by omega)).trans q8
  have r8 := (G9 (m + 8) (by omega) (by omega)).trans q9
  have r9 := (G10 (m + 9) (by omega) (by omega)).trans q10
  have r10 := (G11 (m + 10) (by omega) (by omega)).trans q11
  have r11 := (G12 (m + 11) (by omega) (by omega)).trans q12
  have r12 := (G13 (m + 12) (by omega) (by omega)).trans q13
  have r13 := (G14 (m + 13) (by omega) (by omega)).trans q14
  have r14 := (G15 (m + 14) (by omega) (by omega)).trans q15
  have r15 := (G16 (m + 15) (by omega) (by omega)).trans q16
  have r16 := (G17 (m + 16) (by omega) (by omega)).trans q17
  have r17 := (G18 (m + 17) (by omega) (by omega)).trans q18
  have r18 := (G19 (m + 18) (by omega) (by omega)).trans q19
  have r19 := (G20 (m + 19) (by omega) (by omega)).trans q20
  have r20 := (G21 (m + 20) (by omega) (by omega)).trans q21
  have r21 := (G22 (m + 21) (by omega) (by omega)).trans q22
  have r22 := (G23 (m + 22) (by omega) (by omega)).trans q23
  have r23 := (G24 (m + 23) (by omega) (by omega)).trans q24
  have r24 := (G25 (m + 24) (by omega) (by omega)).trans q25
  have low : ∀ c, c < m → g25 c = h c := fun c x => (o25 c (by omega) (by omega)).trans ((o24 c (by omega) (by omega)).trans ((o23 c (by omega) (by omega)).trans ((o22 c (by omega) (by omega)).trans ((o21 c (by omega) (by omega)).trans ((o20 c (by omega) (by omega)).trans ((o19 c (by omega) (by omega)).trans ((o18 c (by omega) (by omega)).trans ((o17 c (by omega) (by omega)).trans ((o16 c (by omega) (by omega)).trans ((o15 c (by omega) (by omega)).trans ((o14 c (by omega) (by omega)).trans ((o13 c (by omega) (by omega)).trans ((o12 c (by omega) (by omega)).trans ((o11 c (by omega) (by omega)).trans ((o10 c (by omega) (by omega)).trans ((o9 c (by omega) (by omega)).trans ((o8 c (by omega) (by omega)).trans ((o7 c (by omega) (by omega)).trans ((o6 c (by omega)).trans ((o5 c (by omega) (by omega)).trans ((o4 c (by omega) (by omega)).trans ((o3 c (by omega) (by omega)).trans ((o2 c (by omega) (by omega)).trans (o1 c (by omega) (by omega)))))))))))))))))))))))))
  refine ⟨g25, fun k => [.ref (m + 1), .ref (m + 2), .int 0, .ref (m + 3), .ref (m + 4), .ref (m + 5), .int 0, .int (-1), .int 0, .int 0, .ref (m + 6), .ref (m + 7), .int 0, .int 0, .long 0, .long 0, .int 0, .int 0, .ref (m + 8), .ref (m + 9), .ref (m + 10), .ref (m + 11), .ref (m + 12), .ref (m + 13), .ref (m + 14), .ref (m + 15), .int 0, .int 0, .ref (m + 16), .ref (m + 17), .ref (m + 18), .ref (m + 19), .ref (m + 20), .int 0, .int 0, .int 0, .ref (m + 21), .ref (m + 22), .ref (m + 23), .ref (m + 24)].getD k .null, ?_, ?_, low⟩
  · unfold f_M_init
    refine bnd rfl ?_
    refine bnd E1 ?_
    refine bnd rfl ?_
    refine bnd E2 ?_
    refine bnd rfl ?_
    refine bnd E3 ?_
    refine bnd rfl ?_
    refine bnd E4 ?_
    refine bnd rfl ?_
    refine bnd E5 ?_
    refine bnd E6 ?_
    refine bnd rfl ?_
    refine bnd E7 ?_
    refine bnd rfl ?_
    refine bnd E8 ?_
    refine bnd rfl ?_
    refine bnd E9 ?_
    refine bnd rfl ?_
    refine bnd E10 ?_
    refine bnd rfl ?_
    refine bnd E11 ?_
    refine bnd rfl ?_
    refine bnd E12 ?_
    refine bnd rfl ?_
    refine bnd E13 ?_
    refine bnd rfl ?_
    refine bnd E14 ?_
    refine bnd rfl ?_
    refine bnd E15 ?_
    refine bnd rfl ?_
    refine bnd E16 ?_
    refine bnd rfl ?_
    refine bnd E17 ?_
    refine bnd rfl ?_
    refine bnd E18 ?_
    refine bnd rfl ?_
    refine bnd E19 ?_
    refine bnd rfl ?_
    refine bnd E20 ?_
    refine bnd rfl ?_
    refine bnd E21 ?_
    refine bnd rfl ?_
    refine bnd E22 ?_
    refine bnd rfl ?_
    refine bnd E23 ?_
    refine bnd rfl ?_
    refine bnd E24 ?_
    refine bnd rfl ?_
    refine bnd E25 ?_
    rfl
  · have e0 : g25 m = some (ocell 8 40 (fun k => [.ref (m + 1), .ref (m + 2), .int 0, .ref (m + 3), .ref (m + 4), .ref (m + 5), .int 0, .int (-1), .int 0, .int 0, .ref (m + 6), .ref (m + 7), .int 0, .int 0, .long 0, .long 0, .int 0, .int 0, .ref (m + 8), .ref (m + 9), .ref (m + 10), .ref (m + 11), .ref (m + 12), .ref (m + 13), .ref (m + 14), .ref (m + 15), .int 0, .int 0, .ref (m + 16), .ref (m + 17), .ref (m + 18), .ref (m + 19), .ref (m + 20), .int 0, .int 0, .int 0, .ref (m + 21), .ref (m + 22), .ref (m + 23), .ref (m + 24)].getD k .null)) := p25
    refine ⟨⟨e0, ⟨rfl, rfl, rfl, rfl, fun k hk => ?_⟩, ⟨0, 0, false, rfl, rfl, rfl⟩, 0, rfl⟩, ⟨⟨_, e0, rfl, rfl⟩, ⟨_, r1, fun _ _ => rfl⟩, ⟨_, r2, fun _ _ => rfl⟩, fun _ _ => Nat.zero_le _, fun _ _ => Nat.zero_le _⟩, fun n hn => absurd hn (by omega), ⟨(_, fun _ _ => 0, fun _ _ => 0, fun _ => 0), rfl, fun k hk => ?_, fun k hk => ?_, r15⟩, ⟨_, _, _, ⟨rfl, rfl, rfl⟩, r16, r17, r18⟩, ⟨rfl, rfl, fun _ => 0, fun _ => 0, ⟨_, r19, fun _ _ => rfl⟩, ⟨_, r20, fun _ _ => rfl⟩⟩, ⟨(_, _, _, _), e0, ⟨rfl, rfl, rfl, rfl, rfl, rfl⟩, ⟨_, r5, fun _ _ => rfl⟩, by decide, fun j hj => absurd hj (by omega), r3, r4, r6, r7⟩, rfl, rfl, ⟨rfl, rfl, rfl, rfl⟩, ⟨_, r21⟩, ⟨_, r22⟩, ⟨_, r23⟩, ⟨_, r24⟩⟩
    · rcases (show k = 0 ∨ k = 1 ∨ k = 2 ∨ k = 3 ∨ k = 4 ∨ k = 5 ∨ k = 6 ∨ k = 7 by omega) with rfl | rfl | rfl | rfl | rfl | rfl | rfl | rfl <;> rfl
    · rcases (show k = 0 ∨ k = 1 ∨ k = 2 ∨ k = 3 ∨ k = 4 by omega) with rfl | rfl | rfl | rfl | rfl
      · exact r8
      · exact r9
      · exact r10
      · exact r11
      · exact r12
    · rcases (show k = 0 ∨ k = 1 by omega) with rfl | rfl
      · exact r13
      · exact r14
end
