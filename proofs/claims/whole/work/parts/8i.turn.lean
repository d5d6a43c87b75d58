/-! ===== sims: turn ===== -/
theorem ratL_ok {v n : Nat} (hn : 0 < n) (h1 : v ≤ 9999) (h2 : n ≤ 9999) : qok (.ok (rat v n)) := by
  have := qmk_ok (u := v) hn false
  unfold qmk at this
  have a : v / Nat.gcd v n ≤ qM := Nat.le_trans (Nat.div_le_self _ _) (by rw [qM_eq]; omega)
  have b : n / Nat.gcd v n ≤ qM := Nat.le_trans (Nat.div_le_self _ _) (by rw [qM_eq]; omega)
  rw [if_pos ⟨a, b⟩] at this
  exact this
theorem ratL_mk {v n : Nat} (h1 : v ≤ 9999) (h2 : n ≤ 9999) : qmk v n false = .ok (rat v n) := by
  have a : v / Nat.gcd v n ≤ qM := Nat.le_trans (Nat.div_le_self _ _) (by rw [qM_eq]; omega)
  have b : n / Nat.gcd v n ≤ qM := Nat.le_trans (Nat.div_le_self _ _) (by rw [qM_eq]; omega)
  unfold qmk
  rw [if_pos ⟨a, b⟩]
  rfl
theorem M_mulrawL {h : Hp} {m v n : Nat} (hv : 0 < v) (hn : 0 < n) (h1 : v ≤ 9999) (h2 : n ≤ 9999) : f_M_multiply m (lN v) (lN n) (lN v) (lN n) 0 h = f_M_multiply m (lN (rat v n).1) (lN (rat v n).2.1) (lN (rat v n).1) (lN (rat v n).2.1) 0 h := by
  have gp : 0 < Nat.gcd v n := Nat.gcd_pos_of_pos_left _ hv
  have gl : Nat.gcd v n ≤ v := Nat.gcd_le_left _ hv
  have b1 : v / Nat.gcd v n ≤ v := Nat.div_le_self _ _
  have b2 : n / Nat.gcd v n ≤ n := Nat.div_le_self _ _
  have c1 : Nat.gcd (v / Nat.gcd v n) (n / Nat.gcd v n) = 1 := Nat.gcd_div_gcd_div_gcd_of_pos_right hn
  have z : ¬ lN (Nat.gcd v n) = 0 := fun q => by have := (lN_eq0 (by omega)).mp q; omega
  have z1 : ¬ lN 1 = 0 := by decide
  unfold rat
  dsimp only
  unfold f_M_multiply
  rw [zgcd (by omega) (by omega), zgcd (by omega) (by omega), c1]
  simp only [Option.bind_some]
  rw [if_neg z, if_neg (show ¬ lN 1 = (0 : Int64) by decide)]
  have dv : ∀ x y : Nat, x ≤ 9999 → 0 < y → y ≤ 9999 → lN x / lN y = lN (x / y) := fun x y a b c => pk_lDiv (by omega) b (by omega)
  unfold f_M_multiply_30
  rw [if_neg z, if_neg z, if_neg z1, if_neg (show ¬ lN 1 = (0 : Int64) by decide), dv _ _ h1 gp (by omega), dv _ _ (by omega) (by decide) (by decide), Nat.div_one]
  unfold f_M_multiply_48
  rw [if_neg z, if_neg z, if_neg z1, if_neg (show ¬ lN 1 = (0 : Int64) by decide), dv _ _ h1 gp (by omega), dv _ _ (by omega) (by decide) (by decide), Nat.div_one]
  unfold f_M_multiply_65
  rw [if_neg z, if_neg z, if_neg z1, if_neg (show ¬ lN 1 = (0 : Int64) by decide), dv _ _ h2 gp (by omega), dv _ _ (by omega) (by decide) (by decide), Nat.div_one]
  unfold f_M_multiply_83
  rw [if_neg z, if_neg z1, dv _ _ h2 gp (by omega), dv _ _ (by omega) (by decide) (by decide), Nat.div_one]
theorem M_orderRawL {h : Hp} {m v n : Nat} {p : Nat × Nat × Bool} {F : Nat → Value} (H : h m = some (ocell 8 40 F)) (k1 : qok (.ok p)) (hv : 0 < v) (hn : 0 < n) (h1 : v ≤ 9999) (h2 : n ≤ 9999) : f_M_orderOf m (lN p.1) (lN p.2.1) (bI p.2.2) (lN v) (lN n) 0 h = f_M_orderOf m (lN p.1) (lN p.2.1) (bI p.2.2) (lN (rat v n).1) (lN (rat v n).2.1) (bI (rat v n).2.2) h := by
  obtain ⟨u, l, t⟩ := p
  obtain ⟨bu, bl, lp, mu, ml, hcop⟩ := qok_b k1
  have kr := ratL_ok (v := v) hn h1 h2
  have gp : 0 < Nat.gcd v n := Nat.gcd_pos_of_pos_left _ hv
  have gl : Nat.gcd v n ≤ n := Nat.gcd_le_right _ hn
  have b1 : v / Nat.gcd v n ≤ v := Nat.div_le_self _ _
  have b2 : n / Nat.gcd v n ≤ n := Nat.div_le_self _ _
  have np : 0 < n / Nat.gcd v n := Nat.div_pos gl gp
  unfold f_M_orderOf
  rw [if_pos (oc_o H), if_pos (oc_o H)]
  show (if bI t = 0 then _ else _) = (if bI t = 0 then _ else if bI false = 0 then _ else _)
  by_cases c : bI t = 0
  · rw [if_pos c, if_pos c]
    unfold f_M_orderOf_59
    rw [if_pos rfl, if_pos (show bI (rat v n).2.2 = 0 from rfl)]
    show f_M_orderOf_100 m (lN u) (lN l) (lN v) (lN n) h = f_M_orderOf_100 m (lN u) (lN l) (lN (v / Nat.gcd v n)) (lN (n / Nat.gcd v n)) h
    rw [M_ord100 H lp hn bu bl (by omega) (by omega), M_ord100 H lp np bu bl (by omega) (by omega), rat_cmp hv]
  · rw [if_neg c, if_neg c, if_pos (show bI false = 0 from rfl), M_mulrawL hv hn h1 h2]
    rfl
theorem qord_ratL {x : Nat × Nat × Bool} {v n : Nat} (h1 : v ≤ 9999) (h2 : n ≤ 9999) : ∃ i j, qord x (rat v n) = .ok (cmp3 i j) := by
  have a : v / Nat.gcd v n ≤ 9999 := Nat.le_trans (Nat.div_le_self _ _) h1
  have b : n / Nat.gcd v n ≤ 9999 := Nat.le_trans (Nat.div_le_self _ _) h2
  have sq : ∀ y, y ≤ 9999 → y * y ≤ qM := fun y hy => Nat.le_trans (Nat.mul_le_mul hy hy) (by rw [qM_eq]; decide)
  unfold qord rat
  dsimp only
  rcases btl x with c | c
  · rw [if_pos c]; exact ⟨_, _, rfl⟩
  · rw [if_neg (by rw [c]; decide), if_pos c, if_pos ⟨sq _ a, sq _ b⟩]; exact ⟨_, _, rfl⟩
/-- a price turns the order -/
def tng (r : QR) (y : Nat × Nat × Bool) : Bool := match r with
  | .error _ => false
  | .ok x => match qord x y with
    | .ok o => decide (¬ o < 0)
    | .error _ => false
/-- the first price that turns it -/
def tnF (g : Nat → Bool) : Nat → Nat → Option Nat
  | 0, _ => none
  | k + 1, v => if g v then some v else tnF g k (v + 1)
section
variable {S m mk num n w : Nat} {T : Nt} {p q pr br b tx W M : Nat → Nat} {len : Nat} {lf : Int32}
theorem CI.tr {h h' : Hp} (H : CI h S mk T p q pr br tx len lf) (hm : mk ≤ 8) (e : ∀ a, a ≠ S + 5 → a ≠ S + 6 → h' a = h a) {pt qt : Nat → Nat} (Bt : BK h' (S + 4) pt qt) : CI h' S mk T p q pr br tx len lf := by
  obtain ⟨a, ⟨PF, b1, b2⟩, c, ⟨pl, w, t, rc, FF, V, F49, oF, oT, P⟩, f, ⟨g1, g2⟩, i, A, j⟩ := H
  exact ⟨by rw [e _ (by omega) (by omega)]; exact a, ⟨PF, by rw [e _ (by omega) (by omega)]; exact b1, b2⟩, fun k hk => by
    obtain ⟨s, WF, MF, X⟩ := c k hk
    exact ⟨s, WF, MF, X.cong fun c _ _ => e c (by omega) (by omega)⟩, ⟨pl, w, t, rc, FF, (V.tr e Bt).1, by rw [e _ (by omega) (by omega)]; exact F49, oF, oT, P.cong hm fun c _ _ => e c (by omega) (by omega)⟩, f.cong fun c _ _ => e c (by omega) (by omega), ⟨g1.cong (e _ (by omega) (by omega)), g2.cong (e _ (by omega) (by omega))⟩, i.cong fun c _ _ => e c (by omega) (by omega), A, by rw [e _ (by omega) (by omega)]; exact j⟩
/-- the class tells number n over the books that it tries -/
theorem Y_tellT {h : Hp} {pt : Nat → Nat} (H : CI h S mk T p q pr br tx len lf) (Bt : BK h (S + 4) pt q) (hm : mk ≤ 8) {n w a b : Nat} (hn : n < mk) (hw : w < 4) (ha : a < 8) (hb : b < 8) : ∃ h', f_T_tell (S + 34) (S + 8 + 3 * n) (S + 4) (nI w) (nI a) (nI b) (S + 57) h = some h' ∧ FR h' (S + 57) (evw (nW T n) (nM T n) pt (amq q w) a b) ∧ CI h' S mk T p q pr br tx len lf ∧ BK h' (S + 4) pt q ∧ ∀ c, c ≠ S + 57 → ¬ (S + 34 ≤ c ∧ c < S + 45) → h' c = h c := by
  have fx := H.fx (Or.inl rfl)
  have H0 := H
  obtain ⟨-, -, -, ⟨pl, w0, t, rc, FF, V, F49, oF, oT, P⟩, -⟩ := H
  obtain ⟨h', E, R, G⟩ := T_tell V.2.2.1 Bt (P n hn).1 hw (fun c _ _ => by omega) (fun c _ _ => by omega) (P n hn).2 ha hb fx (by omega)
  exact ⟨h', E, R, H0.tell hm (Or.inl rfl) G, Bt.cong fun c _ _ => G.1 c (by omega) (by omega), fun c x y => G.1 c x (by omega)⟩
theorem Y_turn_loop (B : RB p q pr br) (hm : mk ≤ 8) {n w a z y g u l : Nat} (hn : n < mk) (hw : w < 4) (ha : a < 8) (hz : z < 8) (hy : y < 8) (hg : g < 5) (hu : u ≤ 9999) (hl : l ≤ 9999) (hl0 : 0 < l) : ∀ (k f v : Nat) (h : Hp) (pt : Nat → Nat), v + k = 100 → CI h S mk T p q pr br tx len lf → BK h (S + 4) pt q → (∀ j, j < 40 → j ≠ y * 5 + g → pt j = p j) → FR h (S + 58) (.ok (rat u l)) → ∃ h', f_Y_turn_109 S (f + k + 1) (nI n) (nI w) (nI a) (nI z) (nI y) (nI g) (nI v) h = some (oC (tnF (fun v => tng (evw (nW T n) (nM T n) (nup pr (y * 5 + g) v) (bam br w) a z) (rat u l)) k v), h') ∧ CI h' S mk T p q pr br tx len lf ∧ ∀ c, S + 59 ≤ c → h' c = h c := by
  intro k
  induction k with
  | zero =>
    intro f v h pt hv C Bt hpt R58
    have e : v = 100 := by omega
    subst e
    exact ⟨h, rfl, C, fun _ _ => rfl⟩
  | succ k ih =>
    intro f v h pt hv C Bt hpt R58
    obtain ⟨a0, a1, a2, a3, a4, a5, a6, a7, a8, a9, a10⟩ := C.a
    obtain ⟨e1, E1, Bt1⟩ := B_setPrice (y := y) (g := g) (v := v) Bt hy hg (by omega)
    have C1 := C.tr hm (h' := hup h (S + 4 + 1) e1) (fun a x _ => hup_n (by omega)) Bt1
    have R58' : FR (hup h (S + 4 + 1) e1) (S + 58) (.ok (rat u l)) := (hup_n (by omega)).trans R58
    have o1 : ∀ c, S + 57 ≤ c → (hup h (S + 4 + 1) e1) c = h c := fun c hc => hup_n (by omega)
    generalize hup h (S + 4 + 1) e1 = h1 at *
    obtain ⟨b0, b1, b2, b3, b4, b5, b6, b7, b8, b9, b10⟩ := C1.a
    obtain ⟨h2, E2, R2, C2, Bt2, L2⟩ := Y_tellT C1 Bt1 hm hn hw ha hz
    obtain ⟨c0, c1, c2, c3, c4, c5, c6, c7, c8, c9, c10⟩ := C2.a
    have R58'' : FR h2 (S + 58) (.ok (rat u l)) := (L2 (S + 58) (by omega) (by omega)).trans R58'
    have ev1 : evw (nW T n) (nM T n) (nup pt (y * 5 + g) v) (amq q w) a z = evw (nW T n) (nM T n) (nup pr (y * 5 + g) v) (bam br w) a z := evw_cong (C.good hn).1 (fun j hj => by
      by_cases c : j = y * 5 + g
      · rw [c, nup_s, nup_s]
      · rw [nup_n c, nup_n c, hpt j hj c]; exact B.1 j hj) (fun z g hz hg => B.2.1 w z g hw hz hg) ha hz
    rw [ev1] at R2
    have kv := evw_ok (nW T n) (nM T n) (nup pr (y * 5 + g) v) (bam br w) a z
    have hpt' : ∀ j, j < 40 → j ≠ y * 5 + g → nup pt (y * 5 + g) v j = p j := fun j hj c => by rw [nup_n c]; exact hpt j hj c
    have ed : tnF (fun v => tng (evw (nW T n) (nM T n) (nup pr (y * 5 + g) v) (bam br w) a z) (rat u l)) (k + 1) v = if tng (evw (nW T n) (nM T n) (nup pr (y * 5 + g) v) (bam br w) a z) (rat u l) then some v else tnF (fun v => tng (evw (nW T n) (nM T n) (nup pr (y * 5 + g) v) (bam br w) a z) (rat u l)) k (v + 1) := rfl
    have next : tng (evw (nW T n) (nM T n) (nup pr (y * 5 + g) v) (bam br w) a z) (rat u l) = false → ∃ h', f_Y_turn_193 S (f_Y_turn_109 S (f + k + 1)) (nI n) (nI w) (nI a) (nI z) (nI y) (nI g) (nI v) h2 = some (oC (tnF (fun v => tng (evw (nW T n) (nM T n) (nup pr (y * 5 + g) v) (bam br w) a z) (rat u l)) (k + 1) v), h') ∧ CI h' S mk T p q pr br tx len lf ∧ ∀ c, S + 59 ≤ c → h' c = h c := by
      intro e
      rw [ed, if_neg (by rw [e]; decide)]
      obtain ⟨h', G1, G2, G3⟩ := ih f (v + 1) h2 _ (by omega) C2 Bt2 hpt' R58''
      refine ⟨h', ?_, G2, fun c hc => by rw [G3 c hc, L2 c (by omega) (by omega), o1 c (by omega)]⟩
      rw [← G1]
      unfold f_Y_turn_193
      rw [nI_1]
    have hit : tng (evw (nW T n) (nM T n) (nup pr (y * 5 + g) v) (bam br w) a z) (rat u l) = true → ∃ h', some (nI v, h2) = some (oC (tnF (fun v => tng (evw (nW T n) (nM T n) (nup pr (y * 5 + g) v) (bam br w) a z) (rat u l)) (k + 1) v), h') ∧ CI h' S mk T p q pr br tx len lf ∧ ∀ c, S + 59 ≤ c → h' c = h c := by
      intro e
      rw [ed, if_pos e]
      exact ⟨h2, rfl, C2, fun c hc => by rw [L2 c (by omega) (by omega), o1 c (by omega)]⟩
    have start : f_Y_turn_109 S (f + (k + 1) + 1) (nI n) (nI w) (nI a) (nI z) (nI y) (nI g) (nI v) h = ((gI h2 (S + 57) 1 3).bind fun i29 =>
  if i29 = 0 then
    (f_F_orderOf h2 (S + 57) (S + 58)).bind fun i40 =>
    if i40 = 0 then
      some (nI v, h2)
    else
    if i40 = (1 : Int32) then
      some (nI v, h2)
    else
    f_Y_turn_193 S (f_Y_turn_109 S (f + k + 1)) (nI n) (nI w) (nI a) (nI z) (nI y) (nI g) (nI v) h2
  else
  f_Y_turn_193 S (f_Y_turn_109 S (f + k + 1)) (nI n) (nI w) (nI a) (nI z) (nI y) (nI g) (nI v) h2) := by
      show t_Y_turn_109 _ (f_Y_turn_109 S (f + k + 1)) _ _ _ _ _ _ _ _ = _
      unfold t_Y_turn_109
      rw [if_neg (show ¬ (99 : Int32) < nI v from nI_nlt (a := 99) (by omega) (by decide)), a1]
      simp only [Option.bind_some]
      rw [E1]
      simp only [Option.bind_some]
      rw [b4, (Y_num_in C1 hm hn).2, b1, b7]
      simp only [Option.bind_some]
      rw [E2]
      simp only [Option.bind_some]
      rw [c7, c8]
      simp only [Option.bind_some]
    rw [start]
    cases hv2 : evw (nW T n) (nM T n) (nup pr (y * 5 + g) v) (bam br w) a z with
    | error e =>
      rw [hv2] at R2 kv next
      obtain ⟨-, -, -, z2, -⟩ := fo_g (fr_err R2)
      rw [z2, Option.bind_some, if_neg (err_ne kv)]
      exact next rfl
    | ok x =>
      rw [hv2] at R2 kv next hit
      obtain ⟨-, -, -, z2, -⟩ := fo_g (fr_ok R2)
      obtain ⟨i, j, o⟩ := qord_ratL (x := x) hu hl
      rw [z2, Option.bind_some, if_pos rfl, F_orderOf R2 R58'' kv (ratL_ok hl0 hu hl), Option.bind_some, o, show oI (.ok (cmp3 i j)) = cmp3 i j from rfl]
      have tg : tng (.ok x) (rat u l) = decide (¬ cmp3 i j < 0) := by
        unfold tng
        dsimp only
        rw [o]
      rw [tg] at next hit
      rcases cmp3_cs i j with c | c | c
      · rw [c] at next ⊢
        rw [if_neg (by decide), if_neg (by decide)]
        exact next (by decide)
      · rw [c] at hit ⊢
        rw [if_pos rfl]
        exact hit (by decide)
      · rw [c] at hit ⊢
        rw [if_neg (by decide), if_pos rfl]
        exact hit (by decide)
theorem M_turn_loop (hgd : good W M 8 0 n) (hn20 : n ≤ 20) {a z y g u l : Nat} (hw : w < 4) (ha : a < 8) (hz : z < 8) (hy : y < 8) (hg : g < 5) (hu0 : 0 < u) (hu : u ≤ 9999) (hl : l ≤ 9999) (hl0 : 0 < l) (hp : p (y * 5 + g) ≤ 198) : ∀ (k f v : Nat) (h : Hp) (s : St) (v0 : Nat) (uu ll : Nat → Int64) (rr : Nat → Int32), v + k = 100 → MX h m (40 * num) n (nup p (y * 5 + g) v0) b W M s → MK h m s.1 uu ll rr → MWas h m s.1 → ∃ h' s' u' l' r', f_M_turn_100 m (f + k + 1) (nI num) (nI w) (nI a) (nI z) (nI y) (nI g) (nI u) (nI l) (nI (p (y * 5 + g))) (-1) (nI v) h = some (oC (tnF (fun v => tng (evw W M (nup p (y * 5 + g) v) (bam b w) a z) (rat u l)) k v), h') ∧ MX h' m (40 * num) n p b W M s' ∧ MK h' m s'.1 u' l' r' ∧ MWas h' m s'.1 ∧ MEq s.1 s'.1 ∧ MFs h h' m := by
  -- the price goes back
  have back : ∀ {h : Hp} {s : St} {v0 : Nat} {uu ll : Nat → Int64} {rr : Nat → Int32} (x : Int32), MX h m (40 * num) n (nup p (y * 5 + g) v0) b W M s → MK h m s.1 uu ll rr → MWas h m s.1 → ∃ h', f_M_turn_206 m (nI y) (nI g) (nI (p (y * 5 + g))) x h = some (x, h') ∧ MX h' m (40 * num) n p b W M s ∧ MK h' m s.1 uu ll rr ∧ MWas h' m s.1 ∧ MFs h h' m := by
    intro h s v0 uu ll rr x X K A
    obtain ⟨e, E, X1⟩ := X.setp (k := y * 5 + g) (v := p (y * 5 + g)) (by omega) hp
    rw [nup_back rfl] at X1
    refine ⟨_, ?_, X1, K.cong (fun c _ _ => hup_n (by omega)) (fun _ _ _ _ _ _ _ => rfl), A.cong (fun c _ _ => hup_n (by omega)) (fun _ _ _ _ _ _ _ => rfl), fun c hc => hup_n (by omega)⟩
    unfold f_M_turn_206
    rw [X.2.2.2.2.1.g0]
    simp only [Option.bind_some]
    rw [mx5, E]
    rfl
  intro k
  induction k with
  | zero =>
    intro f v h s v0 uu ll rr hv X K A
    have e : v = 100 := by omega
    subst e
    obtain ⟨h', E, X1, K1, A1, f1⟩ := back (-1) X K A
    refine ⟨h', s, uu, ll, rr, ?_, X1, K1, A1, fun _ _ _ _ _ _ _ => rfl, f1⟩
    show t_M_turn_100 _ _ _ _ _ _ _ _ _ _ _ _ _ _ = _
    unfold t_M_turn_100
    rw [if_pos (by decide), E]
    rfl
  | succ k ih =>
    intro f v h s v0 uu ll rr hv X K A
    obtain ⟨e1, E1, X1⟩ := X.setp (k := y * 5 + g) (v := v) (by omega) (by omega)
    have nn : nup (nup p (y * 5 + g) v0) (y * 5 + g) v = nup p (y * 5 + g) v := by
      funext j
      unfold nup
      split <;> rfl
    rw [nn] at X1
    have K1 : MK (hup h (m + 1) e1) m s.1 uu ll rr := K.cong (fun c _ _ => hup_n (by omega)) (fun _ _ _ _ _ _ _ => rfl)
    have A1 : MWas (hup h (m + 1) e1) m s.1 := A.cong (fun c _ _ => hup_n (by omega)) (fun _ _ _ _ _ _ _ => rfl)
    have f1 : MFs h (hup h (m + 1) e1) m := fun c hc => hup_n (by omega)
    have g0 := X.2.2.2.2.1.g0
    generalize hup h (m + 1) e1 = h1 at *
    obtain ⟨h2, s2, u2, l2, r2, E2, X2, K2, V2, J2, e2, f2⟩ := M_findKept (k := 0) X1 K1 hgd hn20 hw ha hz (by decide)
    have A2 : MWas h2 m s2.1 := A1.cong (fun c x y => f2 c (by omega)) e2
    have f2s : MFs h h2 m := MFs.trans f1 fun c hc => f2 c (by omega)
    have kv := evw_ok W M (nup p (y * 5 + g) v) (bam b w) a z
    have ed : tnF (fun v => tng (evw W M (nup p (y * 5 + g) v) (bam b w) a z) (rat u l)) (k + 1) v = if tng (evw W M (nup p (y * 5 + g) v) (bam b w) a z) (rat u l) then some v else tnF (fun v => tng (evw W M (nup p (y * 5 + g) v) (bam b w) a z) (rat u l)) k (v + 1) := rfl
    have next : ∀ {h3 : Hp} {s3 : St}, MX h3 m (40 * num) n (nup p (y * 5 + g) v) b W M s3 → MK h3 m s3.1 u2 l2 r2 → MWas h3 m s3.1 → MEq s.1 s3.1 → MFs h h3 m → tng (evw W M (nup p (y * 5 + g) v) (bam b w) a z) (rat u l) = false → ∃ h' s' u' l' r', f_M_turn_196 m (f_M_turn_100 m (f + k + 1)) (nI num) (nI w) (nI a) (nI z) (nI y) (nI g) (nI u) (nI l) (nI (p (y * 5 + g))) (-1) (nI v) h3 = some (oC (tnF (fun v => tng (evw W M (nup p (y * 5 + g) v) (bam b w) a z) (rat u l)) (k + 1) v), h') ∧ MX h' m (40 * num) n p b W M s' ∧ MK h' m s'.1 u' l' r' ∧ MWas h' m s'.1 ∧ MEq s.1 s'.1 ∧ MFs h h' m := by
      intro h3 s3 X3 K3 A3 e3 f3 e
      rw [ed, if_neg (by rw [e]; decide)]
      obtain ⟨h', s', u', l', r', G1, G2, G3, G4, G5, G6⟩ := ih f (v + 1) h3 s3 v u2 l2 r2 (by omega) X3 K3 A3
      refine ⟨h', s', u', l', r', ?_, G2, G3, G4, e3.trans G5, MFs.trans f3 G6⟩
      rw [← G1]
      unfold f_M_turn_196 f_M_turn_198
      rw [nI_1]
    have hit : ∀ {h3 : Hp} {s3 : St}, MX h3 m (40 * num) n (nup p (y * 5 + g) v) b W M s3 → MK h3 m s3.1 u2 l2 r2 → MWas h3 m s3.1 → MEq s.1 s3.1 → MFs h h3 m → tng (evw W M (nup p (y * 5 + g) v) (bam b w) a z) (rat u l) = true → ∃ h' s' u' l' r', f_M_turn_198 m (f_M_turn_100 m (f + k + 1)) (nI v) (nI num) (nI w) (nI a) (nI z) (nI y) (nI g) (nI u) (nI l) (nI (p (y * 5 + g))) (nI v) h3 = some (oC (tnF (fun v => tng (evw W M (nup p (y * 5 + g) v) (bam b w) a z) (rat u l)) (k + 1) v), h') ∧ MX h' m (40 * num) n p b W M s' ∧ MK h' m s'.1 u' l' r' ∧ MWas h' m s'.1 ∧ MEq s.1 s'.1 ∧ MFs h h' m := by
      intro h3 s3 X3 K3 A3 e3 f3 e
      rw [ed, if_pos e]
      obtain ⟨h', E, G2, G3, G4, G5⟩ := back (nI v) X3 K3 A3
      refine ⟨h', s3, u2, l2, r2, ?_, G2, G3, G4, e3, MFs.trans f3 G5⟩
      unfold f_M_turn_198
      show t_M_turn_100 _ _ _ _ _ _ _ _ _ _ _ _ _ _ = _
      unfold t_M_turn_100
      rw [nI_1]
      by_cases c : v = 99
      · rw [if_pos (by rw [c]; decide), E]
        rfl
      · rw [if_neg (show ¬ (99 : Int32) < nI (v + 1) from nI_nlt (a := 99) (by omega) (by decide)), if_pos (nI_pos' (by omega)), E]
        rfl
    have start : f_M_turn_100 m (f + (k + 1) + 1) (nI num) (nI w) (nI a) (nI z) (nI y) (nI g) (nI u) (nI l) (nI (p (y * 5 + g))) (-1) (nI v) h = if 0 ≤ mcode (evw W M (nup p (y * 5 + g) v) (bam b w) a z) then
    (gA h2 m 8 28).bind fun r20 =>
    (r20).bind fun a22 =>
    (aL h2 a22 (0 : Int32)).bind fun l25 =>
    (gA h2 m 8 29).bind fun r26 =>
    (r26).bind fun a28 =>
    (aL h2 a28 (0 : Int32)).bind fun l31 =>
    (gA h2 m 8 30).bind fun r32 =>
    (r32).bind fun a34 =>
    (aI h2 2 a34 (0 : Int32)).bind fun i37 =>
    zb2 (f_M_orderOf m l25 l31 i37 (nI u).toInt64 (nI l).toInt64 (0 : Int32) h2) fun i39 h40 =>
    f_M_turn_177 m (f_M_turn_100 m (f + k + 1)) i39 (nI num) (nI w) (nI a) (nI z) (nI y) (nI g) (nI u) (nI l) (nI (p (y * 5 + g))) (-1) (nI v) h40
  else
  f_M_turn_177 m (f_M_turn_100 m (f + k + 1)) (mcode (evw W M (nup p (y * 5 + g) v) (bam b w) a z)) (nI num) (nI w) (nI a) (nI z) (nI y) (nI g) (nI u) (nI l) (nI (p (y * 5 + g))) (-1) (nI v) h2 := by
      show t_M_turn_100 _ (f_M_turn_100 m (f + k + 1)) _ _ _ _ _ _ _ _ _ _ _ _ = _
      unfold t_M_turn_100
      rw [if_neg (show ¬ (99 : Int32) < nI v from nI_nlt (a := 99) (by omega) (by decide)), if_neg (by decide), g0]
      simp only [Option.bind_some]
      rw [mx5, E1]
      simp only [Option.bind_some]
      rw [show f_M_findKept m (nI num) (nI w) (nI a) (nI z) (0 : Int32) h1 = _ from E2, zb2_s]
    rw [start]
    cases hv2 : evw W M (nup p (y * 5 + g) v) (bam b w) a z with
    | error e =>
      rw [hv2] at kv next
      rw [if_neg (show ¬ (0 : Int32) ≤ mcode (.error e) from qneg kv)]
      unfold f_M_turn_177
      rw [if_neg (show ¬ mcode (.error e) = 0 from err_ne kv)]
      exact next X2 K2 A2 e2 f2s rfl
    | ok x =>
      rw [hv2] at kv next hit
      obtain ⟨g28, g29, g30, a0, a1, a2⟩ := K2.gu X2 (k := 0) (by decide)
      obtain ⟨c0, c1, c2⟩ := V2 x hv2
      rw [c0] at a0
      rw [c1] at a1
      rw [c2] at a2
      obtain ⟨F1, E3, O1⟩ := M_orderOf X2.1 X2.2.2.1 X2.2.2.2.1 kv (ratL_ok (v := u) hl0 hu hl)
      have me : MEq s2.1 F1 := fun k a b c d _ _ => O1.1 k a b c d
      have X3 := X2.obj me O1.2.1 O1.2.2.1
      have K3 : MK (hup h2 m (ocell 8 40 F1)) m F1 u2 l2 r2 := K2.cong (fun c _ _ => hup_n (by omega)) me
      have A3 : MWas (hup h2 m (ocell 8 40 F1)) m F1 := A2.cong (fun c _ _ => hup_n (by omega)) me
      have f3 : MFs h (hup h2 m (ocell 8 40 F1)) m := MFs.trans f2s fun c hc => hup_n (by omega)
      obtain ⟨i, j, o⟩ := qord_ratL (x := x) hu hl
      rw [if_pos (show (0 : Int32) ≤ mcode (.ok x) from (by decide : (0 : Int32) ≤ 0)), g28, g29, g30]
      simp only [Option.bind_some]
      rw [show aL h2 (m + 16) 0 = some (lN x.1) from a0, show aL h2 (m + 17) 0 = some (lN x.2.1) from a1, show aI h2 2 (m + 18) 0 = some (bI x.2.2) from a2]
      simp only [Option.bind_some]
      rw [nI_l (by omega), nI_l (by omega), M_orderRawL X2.1 kv hu0 hl0 hu hl, E3, zb2_s, o]
      have tg : tng (.ok x) (rat u l) = decide (¬ cmp3 i j < 0) := by
        unfold tng
        dsimp only
        rw [o]
      rw [tg] at next hit
      unfold f_M_turn_177
      rw [if_pos (show ocode (.ok (cmp3 i j)) = 0 from rfl), oc_i hup_s (by decide) (O1.2.2.2 _ o), Option.bind_some]
      by_cases c : cmp3 i j < 0
      · rw [if_pos c]
        exact next X3 K3 A3 (e2.trans me) f3 (decide_eq_false (fun x => x c))
      · rw [if_neg c]
        exact hit X3 K3 A3 (e2.trans me) f3 (decide_eq_true c)
end
