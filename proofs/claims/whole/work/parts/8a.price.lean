/-! ===== sims: price, bought ===== -/
section
variable {h h' : Hp} {S m mk : Nat} {T : Nt} {p q pr br tx : Nat → Nat} {len : Nat} {lf : Int32} {F F' : Nat → Value}
theorem L_forget_loop : ∀ (k f i : Nat) (h : Hp) (FF : Nat → Int32) (pl : Value) (w t : Int32), i + k = 224 → h (S + 45) = some (LC S pl w t) → h (S + 49) = some (.inl (0, 224, .inl FF)) → (∀ j, j < i → FF j = 0) → ∃ h' FF', f_L_forget_2 (S + 45) (f + k + 1) (nI i) h = some h' ∧ h' (S + 45) = some (LC S pl w (-1)) ∧ h' (S + 49) = some (.inl (0, 224, .inl FF')) ∧ (∀ j, j < 224 → FF' j = 0) ∧ ∀ c, c ≠ S + 45 → c ≠ S + 49 → h' c = h c := by
  intro k
  induction k with
  | zero =>
    intro f i h FF pl w t hi H F49 Z
    have e : i = 224 := by omega
    subst e
    refine ⟨_, FF, ?_, hup_s, by rw [hup_n (by omega)]; exact F49, Z, fun c a b => hup_n a⟩
    show t_L_forget_2 _ _ _ _ = _
    unfold t_L_forget_2
    rw [show gA h (S + 45) 2 6 = some (some (S + 49)) by simp [gA, gV, H, LC], Option.bind_some, Option.bind_some, an_any F49 (by decide), Option.bind_some, if_pos (by decide), lc_p12 H]
    rfl
  | succ k ih =>
    intro f i h FF pl w t hi H F49 Z
    have lt : i < 224 := by omega
    obtain ⟨h', FF', A, B, C, D, E⟩ := ih f (i + 1) (hup h (S + 49) (.inl (0, 224, .inl (upd FF i 0)))) (upd FF i 0) pl w t (by omega) (by rw [hup_n (by omega)]; exact H) hup_s (fun j hj => by
      by_cases c : j = i
      · subst c; rw [pk_us]
      · rw [pk_un c]; exact Z j (by omega))
    refine ⟨h', FF', ?_, B, C, D, fun c x y => by rw [E c x y, hup_n y]⟩
    rw [← A]
    show t_L_forget_2 _ (f_L_forget_2 (S + 45) (f + k + 1)) _ _ = _
    unfold t_L_forget_2
    rw [show gA h (S + 45) 2 6 = some (some (S + 49)) by simp [gA, gV, H, LC], Option.bind_some, Option.bind_some, an_any F49 (by decide), Option.bind_some, if_neg (nI_ge lt (by decide)), Option.bind_some, Option.bind_some, ai_set F49 lt (by decide), Option.bind_some, nI_1]
theorem L_forget {FF : Nat → Int32} {pl : Value} {w t : Int32} (H : h (S + 45) = some (LC S pl w t)) (F49 : h (S + 49) = some (.inl (0, 224, .inl FF))) : ∃ h' FF', f_L_forget (S + 45) h = some h' ∧ h' (S + 45) = some (LC S pl w (-1)) ∧ h' (S + 49) = some (.inl (0, 224, .inl FF')) ∧ (∀ j, j < 224 → FF' j = 0) ∧ ∀ c, c ≠ S + 45 → c ≠ S + 49 → h' c = h c := by
  unfold f_L_forget
  rw [if_pos (by simp [isO, H, LC])]
  exact L_forget_loop 224 (FU - 225) 0 h FF pl w t rfl H F49 (fun j hj => absurd hj (by omega))
/-- other books, and nothing of what was found -/
theorem CI.books {h1 : Hp} {p' q' pr' br' : Nat → Nat} (H : CI h S mk T p q pr br tx len lf) (hm : mk ≤ 8) (Bk : BK h1 (S + 1) p' q') (e1 : ∀ c, c ≠ S + 2 → c ≠ S + 3 → h1 c = h c) : ∃ h', f_L_forget (S + 45) h1 = some h' ∧ CI h' S mk T p' q' pr' br' tx len lf ∧ ∀ c, S + 59 ≤ c → h' c = h c := by
  obtain ⟨a, ⟨PF, b1, b2⟩, c, ⟨pl, w, t, rc, FF, V, F49, oF, oT, P⟩, f, ⟨g1, g2⟩, i, A, j⟩ := H
  obtain ⟨b, ⟨pt, qt, tr⟩, z, l, u, v, k, x, y⟩ := V
  obtain ⟨h', FF', E, L', F', Z', fr⟩ := L_forget (h := h1) (S := S) (FF := FF) (pl := pl) (w := w) (t := t) (by rw [e1 _ (by omega) (by omega)]; exact l) (by rw [e1 _ (by omega) (by omega)]; exact F49)
  have e' : ∀ c, c ≠ S + 2 → c ≠ S + 3 → c ≠ S + 45 → c ≠ S + 49 → h' c = h c := fun c x y z w => by rw [fr c z w, e1 c x y]
  refine ⟨h', E, ⟨by rw [e' _ (by omega) (by omega) (by omega) (by omega)]; exact a, ⟨PF, by rw [e' _ (by omega) (by omega) (by omega) (by omega)]; exact b1, b2⟩, fun k hk => by
    obtain ⟨s, WF, MF, X⟩ := c k hk
    exact ⟨s, WF, MF, X.cong fun c _ _ => e' c (by omega) (by omega) (by omega) (by omega)⟩, ⟨pl, w, -1, rc, FF', ⟨Bk.cong fun c _ _ => fr c (by omega) (by omega), ⟨pt, qt, tr.cong fun c _ _ => e' c (by omega) (by omega) (by omega) (by omega)⟩, z.cong fun c _ _ => e' c (by omega) (by omega) (by omega) (by omega), L', by rw [e' _ (by omega) (by omega) (by omega) (by omega)]; exact u, by rw [e' _ (by omega) (by omega) (by omega) (by omega)]; exact v, by rw [e' _ (by omega) (by omega) (by omega) (by omega)]; exact k, x.cong (e' _ (by omega) (by omega) (by omega) (by omega)), y.cong (e' _ (by omega) (by omega) (by omega) (by omega))⟩, F', fun n w law _ _ _ => Or.inl (Z' _ (by omega)), Or.inl rfl, P.cong hm fun c _ _ => e' c (by omega) (by omega) (by omega) (by omega)⟩, f.cong fun c _ _ => e' c (by omega) (by omega) (by omega) (by omega), ⟨g1.cong (e' _ (by omega) (by omega) (by omega) (by omega)), g2.cong (e' _ (by omega) (by omega) (by omega) (by omega))⟩, i.cong fun c _ _ => e' c (by omega) (by omega) (by omega) (by omega), A, by rw [e' _ (by omega) (by omega) (by omega) (by omega)]; exact j⟩, fun c hc => e' c (by omega) (by omega) (by omega) (by omega)⟩
theorem MI.books {pr' br' : Nat → Nat} (H : MI h m mk T pr br tx len lf F) (Mb : MB h' m pr' br') (e : ∀ c, c ≠ m + 1 → c ≠ m + 2 → h' c = h c) : MI h' m mk T pr' br' tx len lf F := by
  obtain ⟨⟨a0, a1, a2, a3⟩, b, c, ⟨s, d1, d2⟩, ⟨u, l, r, k⟩, w, ⟨t, mr⟩, f2, f7, x⟩ := H
  have e0 : h' m = some (ocell 8 40 F) := by rw [e m (by omega) (by omega)]; exact a0
  exact ⟨⟨e0, a1, a2, a3⟩, Mb, fun n hn => by
    obtain ⟨y0, KF, MF, y1, y2, y3⟩ := c n hn
    exact ⟨y0, KF, MF, by rw [e _ (by omega) (by omega)]; exact y1, by rw [e _ (by omega) (by omega)]; exact y2, y3⟩, ⟨s, d1, d2.cong fun c _ _ => e c (by omega) (by omega)⟩, ⟨u, l, r, k.cong (fun c _ _ => e c (by omega) (by omega)) (fun _ _ _ _ _ _ _ => rfl)⟩, w.cong (fun c _ _ => e c (by omega) (by omega)) (fun _ _ _ _ _ _ _ => rfl), ⟨t, mr.cong e0 (fun c _ _ => e c (by omega) (by omega)) (fun _ _ => rfl)⟩, f2, f7, x.cong (fun c _ _ => e c (by omega) (by omega)) (fun _ _ _ => rfl)⟩
theorem MI.setp (H : MI h m mk T pr br tx len lf F) {k v : Nat} (hk : k < 50) (hv : v ≤ 198) : ∃ e, sI h (m + 1) (nI k) (nI v) = some (hup h (m + 1) e) ∧ MI (hup h (m + 1) e) m mk T (nup pr k v) br tx len lf F := by
  obtain ⟨e, E, I⟩ := H.2.1.2.1.set (v := v) hk (by decide)
  refine ⟨e, E, H.books (MB.of (by rw [hup_n (by omega)]; exact H.1.1) H.1.2.1 I (H.2.1.2.2.1.up (by omega)) (fun j hj => ?_) H.2.1.2.2.2.2) fun c a _ => hup_n a⟩
  unfold nup
  split
  · exact hv
  · exact H.2.1.2.2.2.1 j hj
theorem MI.setb (H : MI h m mk T pr br tx len lf F) {k v : Nat} (hk : k < 150) (hv : v ≤ 18) : ∃ e, sI h (m + 2) (nI k) (nI v) = some (hup h (m + 2) e) ∧ MI (hup h (m + 2) e) m mk T pr (nup br k v) tx len lf F := by
  obtain ⟨e, E, I⟩ := H.2.1.2.2.1.set (v := v) hk (by decide)
  refine ⟨e, E, H.books (MB.of (by rw [hup_n (by omega)]; exact H.1.1) H.1.2.1 (H.2.1.2.1.up (by omega)) I H.2.1.2.2.2.1 (fun j hj => ?_)) fun c _ a => hup_n a⟩
  unfold nup
  split
  · exact hv
  · exact H.2.1.2.2.2.2 j hj
theorem RB.setp (B : RB p q pr br) {k v : Nat} (hv : v ≤ 99) : RB (nup p k v) q (nup pr k v) br := by
  refine ⟨nup_cong B.1 rfl, B.2.1, fun j hj => ?_, B.2.2.2⟩
  unfold nup
  split
  · exact hv
  · exact B.2.2.1 j hj
theorem RB.setb (B : RB p q pr br) {w y g v s : Nat} (hw : w < 3) (hy : y < 8) (hg : g < 5) (hv : v ≤ 9) (hs : s + br (50 * w + (y * 5 + g)) = bam br 3 y g + v) : RB p (nup (nup q ((w * 8 + y) * 5 + g) v) ((3 * 8 + y) * 5 + g) s) pr (nup br (50 * w + (y * 5 + g)) v) := by
  refine ⟨B.1, fun w' z' g' hw' hz' hg' => ?_, B.2.2.1, fun j hj => ?_⟩
  · have b0 := B.2.1 w' z' g' hw' hz' hg'
    unfold amq at b0
    unfold amq
    by_cases c1 : z' = y ∧ g' = g
    · obtain ⟨rfl, rfl⟩ := c1
      by_cases c2 : w' = 3
      · subst c2
        rw [nup_s]
        unfold bam at hs ⊢
        rw [if_pos rfl] at hs ⊢
        rcases (by omega : w = 0 ∨ w = 1 ∨ w = 2) with rfl | rfl | rfl
        · rw [show 50 * 0 + (z' * 5 + g') = z' * 5 + g' by omega] at hs ⊢
          rw [nup_s, nup_n (by omega), nup_n (by omega)]
          omega
        · rw [show 50 * 1 + (z' * 5 + g') = 50 + (z' * 5 + g') by omega] at hs ⊢
          rw [nup_s, nup_n (by omega), nup_n (by omega)]
          omega
        · rw [show 50 * 2 + (z' * 5 + g') = 100 + (z' * 5 + g') by omega] at hs ⊢
          rw [nup_s, nup_n (by omega), nup_n (by omega)]
          omega
      · rw [nup_n (by omega)]
        unfold bam at b0 ⊢
        rw [if_neg c2] at b0 ⊢
        by_cases c3 : w' = w
        · subst c3
          rw [nup_s, nup_s]
        · rw [nup_n (by omega), nup_n (by omega)]
          exact b0
    · rw [nup_n (by omega), nup_n (by omega), b0]
      unfold bam
      by_cases c2 : w' = 3
      · rw [if_pos c2, if_pos c2, nup_n (by omega), nup_n (by omega), nup_n (by omega)]
      · rw [if_neg c2, if_neg c2, nup_n (by omega)]
  · unfold nup
    split
    · exact hv
    · exact B.2.2.2 j hj
end
section
variable {S : Nat}
theorem sim_price : Sim_price (zInv S) S := by
  intro h x1 x2 x3 I
  have I0 := I
  obtain ⟨mk, T, p, q, pr, br, tx, len, lf, F, hm, B, Z0, C, Mi⟩ := I
  obtain ⟨a0, a1, a2, a3, a4, a5, a6, a7, a8, a9, a10⟩ := C.a
  unfold f_Y_price
  rw [if_pos C.o]
  rcases (Z_year x1).symm with ⟨Y1, M1⟩ | ⟨y, hy, rfl, Y1, M1⟩
  · rw [Y1, Option.bind_some, if_neg (by decide)]
    refine ⟨_, h, h, rfl, ?_, I0⟩
    unfold f_M_price
    rw [if_pos Mi.o, M1]
    rfl
  rw [Y1, Option.bind_some, if_pos rfl]
  rcases (Z_good x2).symm with ⟨Y2, M2⟩ | ⟨g, hg, rfl, Y2, M2⟩
  · rw [Y2, Option.bind_some, if_neg (by decide)]
    refine ⟨_, h, h, rfl, ?_, I0⟩
    unfold f_M_price
    rw [if_pos Mi.o, M1, M2]
    rfl
  rw [Y2, Option.bind_some, if_pos rfl]
  rcases (Z_in x3 99 (by decide)).symm with ⟨M5, h5⟩ | ⟨v, hv, rfl, M5⟩
  · have mo : f_M_price (S + 59) (nI y) (nI g) x3 h = some (-1002, h) := by
      unfold f_M_price
      rw [if_pos Mi.o, M1, M2, show (99 : Int64) = lN 99 from rfl, M5]
      rfl
    rcases h5 with h1 | ⟨h1, h2⟩
    · rw [if_pos h1]
      exact ⟨_, h, h, rfl, mo, I0⟩
    · rw [if_neg h1, if_neg (show ¬ x3 ≤ (99 : Int32) from h2)]
      exact ⟨_, h, h, rfl, mo, I0⟩
  obtain ⟨e1, E1, Bk⟩ := B_setPrice (y := y) (g := g) (v := v) C.bk hy hg (by omega)
  obtain ⟨h', E2, C', fr⟩ := C.books (pr' := nup pr (y * 5 + g) v) (br' := br) hm Bk (fun c x _ => hup_n x)
  have M' : MI h' (S + 59) mk T pr br tx len lf F := Mi.cong fun c x _ => fr c x
  obtain ⟨e2, E3, M''⟩ := M'.setp (k := y * 5 + g) (v := v) (by omega) (by omega)
  have s5 : gA (hup h (S + 1 + 1) e1) S 7 5 = some (some (S + 45)) := by
    unfold gA gV at *
    rw [hup_n (by omega)]
    exact a5
  rw [if_neg (nI_pos (by omega)), if_pos (show nI v ≤ (99 : Int32) from nI_le (b := 99) hv (by decide)), a0]
  simp only [Option.bind_some]
  rw [B_priceOf C.bk hy hg]
  simp only [Option.bind_some]
  rw [E1]
  simp only [Option.bind_some]
  rw [s5]
  simp only [Option.bind_some]
  rw [E2]
  refine ⟨nI (p (y * 5 + g)), h', hup h' (S + 59 + 1) e2, rfl, ?_, ⟨mk, T, _, q, _, br, tx, len, lf, F, hm, B.setp hv, fun k h1 h2 => by rw [nup_n (by omega)]; exact Z0 k h1 h2, C'.cong hm fun c _ _ => hup_n (by omega), M''⟩⟩
  unfold f_M_price
  rw [if_pos M'.o, M1, M2, show (99 : Int64) = lN 99 from rfl, M5, M'.2.1.g0]
  simp only [Option.bind_some]
  rw [if_neg (by decide), if_neg (by decide), if_neg (by decide), M_price M'.2.1 (by omega) hg]
  simp only [Option.bind_some]
  rw [mx5, E3, B.price hy hg]
  rfl
theorem sim_bought : Sim_bought (zInv S) S := by
  intro h x1 x2 x3 x4 I
  have I0 := I
  obtain ⟨mk, T, p, q, pr, br, tx, len, lf, F, hm, B, Z0, C, Mi⟩ := I
  obtain ⟨a0, a1, a2, a3, a4, a5, a6, a7, a8, a9, a10⟩ := C.a
  unfold f_Y_bought
  rw [if_pos C.o]
  rcases (Z_person x1).symm with ⟨Y0, M0⟩ | ⟨w, hw, rfl, Y0, M0⟩
  · rw [Y0, Option.bind_some, if_neg (by decide)]
    refine ⟨_, h, h, rfl, ?_, I0⟩
    unfold f_M_bought
    rw [if_pos Mi.o, M0]
    rfl
  rw [Y0, Option.bind_some, if_pos rfl]
  rcases (Z_year x2).symm with ⟨Y1, M1⟩ | ⟨y, hy, rfl, Y1, M1⟩
  · rw [Y1, Option.bind_some, if_neg (by decide)]
    refine ⟨_, h, h, rfl, ?_, I0⟩
    unfold f_M_bought
    rw [if_pos Mi.o, M0, M1]
    rfl
  rw [Y1, Option.bind_some, if_pos rfl]
  rcases (Z_good x3).symm with ⟨Y2, M2⟩ | ⟨g, hg, rfl, Y2, M2⟩
  · rw [Y2, Option.bind_some, if_neg (by decide)]
    refine ⟨_, h, h, rfl, ?_, I0⟩
    unfold f_M_bought
    rw [if_pos Mi.o, M0, M1, M2]
    rfl
  rw [Y2, Option.bind_some, if_pos rfl]
  rcases (Z_in x4 9 (by decide)).symm with ⟨M5, h5⟩ | ⟨v, hv, rfl, M5⟩
  · have mo : f_M_bought (S + 59) (nI w) (nI y) (nI g) x4 h = some (-1002, h) := by
      unfold f_M_bought
      rw [if_pos Mi.o, M0, M1, M2, show (9 : Int64) = lN 9 from rfl, M5]
      rfl
    rcases h5 with h1 | ⟨h1, h2⟩
    · rw [if_pos h1]
      exact ⟨_, h, h, rfl, mo, I0⟩
    · rw [if_neg h1, if_neg (show ¬ x4 ≤ (9 : Int32) from h2)]
      exact ⟨_, h, h, rfl, mo, I0⟩
  have q1 : q ((w * 8 + y) * 5 + g) = br (50 * w + (y * 5 + g)) := by
    have := B.2.1 w y g (by omega) hy hg
    unfold amq bam at this
    rw [if_neg (by omega)] at this
    exact this
  have q3 : q ((3 * 8 + y) * 5 + g) = bam br 3 y g := B.2.1 3 y g (by decide) hy hg
  have le : br (50 * w + (y * 5 + g)) ≤ bam br 3 y g := by
    unfold bam
    rw [if_pos rfl]
    rcases (by omega : w = 0 ∨ w = 1 ∨ w = 2) with rfl | rfl | rfl
    · rw [show 50 * 0 + (y * 5 + g) = y * 5 + g by omega]; omega
    · rw [show 50 * 1 + (y * 5 + g) = 50 + (y * 5 + g) by omega]; omega
    · rw [show 50 * 2 + (y * 5 + g) = 100 + (y * 5 + g) by omega]; omega
  have l27 : bam br 3 y g ≤ 27 := by
    have := B.h27 (w := 3) (by decide) y g hy hg
    rw [B.2.1 3 y g (by decide) hy hg] at this
    exact this
  obtain ⟨s, hs⟩ : ∃ s, s + br (50 * w + (y * 5 + g)) = bam br 3 y g + v := ⟨bam br 3 y g + v - br (50 * w + (y * 5 + g)), by omega⟩
  obtain ⟨e1, E1, Bk1⟩ := B_setAmount (w := w) (y := y) (g := g) (v := v) C.bk (by omega) hy hg (by omega)
  obtain ⟨e2, E2, Bk2⟩ := B_setAmount (w := 3) (y := y) (g := g) (v := s) Bk1 (by omega) hy hg (by omega)
  obtain ⟨h', E3, C', fr⟩ := C.books (pr' := pr) (br' := nup br (50 * w + (y * 5 + g)) v) hm Bk2 (fun c _ x => by rw [hup_n x, hup_n x])
  have M' : MI h' (S + 59) mk T pr br tx len lf F := Mi.cong fun c x _ => fr c x
  obtain ⟨e4, E4, M''⟩ := M'.setb (k := 50 * w + (y * 5 + g)) (v := v) (by omega) (by omega)
  have s0 : ∀ e, gA (hup h (S + 1 + 2) e) S 7 0 = some (some (S + 1)) := by
    intro e
    unfold gA gV at *
    rw [hup_n (by omega)]
    exact a0
  have s5 : ∀ e e', gA (hup (hup h (S + 1 + 2) e) (S + 1 + 2) e') S 7 5 = some (some (S + 45)) := by
    intro e e'
    unfold gA gV at *
    rw [hup_n (by omega), hup_n (by omega)]
    exact a5
  have ar : nI (bam br 3 y g) - nI (br (50 * w + (y * 5 + g))) + nI v = nI s := by
    obtain ⟨d, hd⟩ : ∃ d, bam br 3 y g = d + br (50 * w + (y * 5 + g)) := ⟨bam br 3 y g - br (50 * w + (y * 5 + g)), by omega⟩
    rw [hd, ← nI_add, Int32.add_sub_cancel, nI_add, show d + v = s by omega]
  rw [if_neg (nI_pos (by omega)), if_pos (show nI v ≤ (9 : Int32) from nI_le (b := 9) hv (by decide)), a0]
  simp only [Option.bind_some]
  rw [B_amountOf C.bk (by omega) hy hg]
  simp only [Option.bind_some]
  rw [E1]
  simp only [Option.bind_some]
  rw [s0]
  simp only [Option.bind_some]
  rw [show (3 : Int32) = nI 3 from rfl, B_amountOf Bk1 (by decide) hy hg, nup_n (by omega)]
  simp only [Option.bind_some]
  rw [q3, q1, ar, E2]
  simp only [Option.bind_some]
  rw [s5]
  simp only [Option.bind_some]
  rw [E3]
  refine ⟨nI (br (50 * w + (y * 5 + g))), h', hup h' (S + 59 + 2) e4, rfl, ?_, ⟨mk, T, p, _, pr, _, tx, len, lf, F, hm, B.setb hw hy hg hv hs, Z0, C'.cong hm fun c _ _ => hup_n (by omega), M''⟩⟩
  unfold f_M_bought
  rw [if_pos M'.o, M0, M1, M2, show (9 : Int64) = lN 9 from rfl, M5, M'.2.1.g1]
  simp only [Option.bind_some]
  rw [if_neg (by decide), if_neg (by decide), if_neg (by decide), if_neg (by decide), mx50, M'.2.1.2.2.1.get (by omega) (by decide)]
  simp only [Option.bind_some]
  rw [E4]
  rfl
end
