/-! ===== sims: need ===== -/
section
variable {h h' : Hp} {S m mk w : Nat} {T : Nt} {p q pr br b tx : Nat → Nat} {len : Nat} {lf : Int32} {F : Nat → Value} {c : Nat → Nat → Nat} {CF SF EF : Nat → Int32}
theorem CI.kw (H : CI h S mk T p q pr br tx len lf) : ∃ A R G, KW h S p q A R G := by
  obtain ⟨a, ⟨A, b⟩, ⟨R, c⟩, ⟨G, d⟩⟩ := H.2.2.2.2.2.2.1
  exact ⟨A, R, G, a, b, c, d, H.bk⟩
theorem CI.kn {A R G : Nat → Int32} (H : CI h S mk T p q pr br tx len lf) (hm : mk ≤ 8) (K : KW h' S p q A R G) (e : KF h h' S) : CI h' S mk T p q pr br tx len lf := by
  obtain ⟨a, ⟨PF, b1, b2⟩, c, d, f, ⟨g1, g2⟩, i, A0, j⟩ := H
  have e' : ∀ c, c < S + 54 ∨ S + 57 ≤ c → h' c = h c := fun c hc => e c (by omega)
  exact ⟨by rw [e' _ (by omega)]; exact a, ⟨PF, by rw [e' _ (by omega)]; exact b1, b2⟩, fun k hk => by
    obtain ⟨s, WF, MF, X⟩ := c k hk
    exact ⟨s, WF, MF, X.cong fun c _ _ => e' c (by omega)⟩, d.cong hm fun c _ _ => e' c (by omega), f.cong fun c _ _ => e' c (by omega), ⟨g1.cong (e' _ (by omega)), g2.cong (e' _ (by omega))⟩, K.ki, A0, by rw [e' _ (by omega)]; exact j⟩
theorem MI.wa (H : MI h m mk T pr br tx len lf F) : ∃ CF SF EF, WA h m pr br CF SF EF := by
  obtain ⟨⟨x1, x2, x3, x4⟩, -, ⟨A, a⟩, ⟨B, b⟩, ⟨C, c⟩⟩ := H.2.2.2.2.2.2.2.2.2
  exact ⟨A, B, C, ⟨H.2.1, oc_a H.1.1 (by decide) x2, oc_a H.1.1 (by decide) x3, oc_a H.1.1 (by decide) x4⟩, a, b, c⟩
theorem MI.wn (H : MI h m mk T pr br tx len lf F) (W : WA h' m pr br CF SF EF) (e : WF h h' m) : MI h' m mk T pr br tx len lf F := by
  obtain ⟨⟨a0, a1, a2, a3⟩, b, c, ⟨s, d1, d2⟩, ⟨u, l, r, k⟩, w, ⟨t, mr⟩, f2, f7, ⟨x1, x2, x3, x4, x5⟩⟩ := H
  have e' : ∀ c, c < m + 22 → h' c = h c := fun c hc => e c (by omega)
  have e0 := (e' m (by omega)).trans a0
  exact ⟨⟨e0, a1, a2, a3⟩, b.cong (F := F) e0 a1 (fun c _ _ => e' c (by omega)), fun n hn => (c n hn).cong fun c _ _ => e' c (by omega), ⟨s, d1, d2.cong fun c _ _ => e' c (by omega)⟩, ⟨u, l, r, k.cong (fun c _ _ => e' c (by omega)) (fun _ _ _ _ _ _ _ => rfl)⟩, w.cong (fun c _ _ => e' c (by omega)) (fun _ _ _ _ _ _ _ => rfl), ⟨t, mr.cong e0 (fun c _ _ => e' c (by omega)) (fun _ _ => rfl)⟩, f2, f7, x1, by rw [e' _ (by omega)]; exact x2, ⟨CF, W.2.1⟩, ⟨SF, W.2.2.1⟩, ⟨EF, W.2.2.2⟩⟩
theorem M_n89 (H : WA h m p b CF SF EF) (W : WK c CF SF EF) (hw : w < 4) {a y x : Nat} (ha : a < 8) (hy : y < 8) (hx : x < 8) (x4 x5 x6 x7 : Int32) (k76 : Int32 → Int32 → Int32 → Int32 → Int32 → Int32 → Int32 → Int32 → Hp → Option (Int32 × Hp)) : ∀ (k f j : Nat), j + k = 9 → f_M_need_89 m k76 (f + k + 1) (nI w) (nI a) (nI y) x4 x5 x6 x7 (nI x) (bI (anyb (fun k => wk c k x a) j)) (nI j) h = f_M_need_154 m k76 (if rch c a 8 x then cI (cs0 p (bam b w) y x) else -1) (nI w) (nI a) (nI y) x4 x5 x6 x7 (nI x) h := by
  intro k
  induction k with
  | zero =>
    intro f j hj
    have e : j = 9 := by omega
    subst e
    show t_M_need_89 _ _ _ _ _ _ _ _ _ _ _ _ _ _ = _
    unfold t_M_need_89
    rw [if_pos (by decide)]
    show (if bI (rch c a 8 x) = 0 then _ else _) = _
    cases rch c a 8 x with
    | true =>
      rw [if_neg (show ¬ bI true = 0 by decide), if_pos rfl, show (31 : Int32) = nI 31 from rfl, M_costOf H.1.1 hw (by omega) (by omega) (by decide)]
      rfl
    | false =>
      rw [if_pos (show bI false = 0 from rfl), if_neg (by decide)]
  | succ k ih =>
    intro f j hj
    have j8 : j ≤ 8 := by omega
    have nx : ∀ t : Bool, t = anyb (fun k => wk c k x a) (j + 1) → f_M_need_127 m k76 (f_M_need_89 m k76 (f + k + 1)) (bI t) (nI w) (nI a) (nI y) x4 x5 x6 x7 (nI x) (nI j) h = f_M_need_154 m k76 (if rch c a 8 x then cI (cs0 p (bam b w) y x) else -1) (nI w) (nI a) (nI y) x4 x5 x6 x7 (nI x) h := by
      rintro t rfl
      unfold f_M_need_127
      rw [nI_1]
      exact ih f (j + 1) (by omega)
    show t_M_need_89 _ _ (f_M_need_89 m k76 (f + k + 1)) _ _ _ _ _ _ _ _ _ _ _ = _
    unfold t_M_need_89 f_M_need_122
    rw [if_neg (show ¬ (8 : Int32) < nI j from nI_nlt (a := 8) j8 (by decide))]
    have e1 : anyb (fun k => wk c k x a) (j + 1) = (anyb (fun k => wk c k x a) j || wk c j x a) := rfl
    cases hv : anyb (fun k => wk c k x a) j with
    | true =>
      rw [if_neg (show ¬ bI true = 0 by decide)]
      exact nx true (by rw [e1, hv]; rfl)
    | false =>
      rw [if_pos (show bI false = 0 from rfl), H.1.2.1]
      simp only [Option.bind_some]
      rw [ix110, ai_get H.2.1 (by omega) (by decide), (W.1 j x a j8 hx ha).1]
      simp only [Option.bind_some]
      cases hk : wk c j x a with
      | true =>
        rw [if_neg (show ¬ bI true = 0 by decide)]
        exact nx true (by rw [e1, hv, hk]; rfl)
      | false =>
        rw [if_pos (show bI false = 0 from rfl)]
        exact nx false (by rw [e1, hv, hk]; rfl)
theorem M_n76 (H : WA h m p b CF SF EF) (W : WK c CF SF EF) (hw : w < 4) {a y j own : Nat} (ha : a < 8) (hy : y < 8) : ∀ (k f x : Nat) (st : Ck), x + k = 8 → ckok (fun x => cs0 p (bam b w) y x) st → f_M_need_76 m (f + k + 1) (nI w) (nI a) (nI y) (nI j) (nI own) (ckI st) (ckL 0 st) (nI x) h = f_M_need_76 m (f + 1) (nI w) (nI a) (nI y) (nI j) (nI own) (ckI (ckf (rch c a 8) (fun x => cs0 p (bam b w) y x) k x st)) (ckL 0 (ckf (rch c a 8) (fun x => cs0 p (bam b w) y x) k x st)) (nI 8) h := by
  intro k
  induction k with
  | zero =>
    intro f x st hx ok
    have e : x = 8 := by omega
    subst e
    rfl
  | succ k ih =>
    intro f x st hx ok
    have x8 : x < 8 := by omega
    have hc : ∀ x u, x < 8 → cs0 p (bam b w) y x = some u → u ≤ 53460 := fun x u hx e => H.1.1.cost_le hw (by omega) (by omega) u e
    have ed : ckf (rch c a 8) (fun x => cs0 p (bam b w) y x) (k + 1) x st = ckf (rch c a 8) (fun x => cs0 p (bam b w) y x) k (x + 1) (if rch c a 8 x then cks (fun x => cs0 p (bam b w) y x) x st else st) := rfl
    rw [ed]
    have one := M_n89 H W hw ha hy x8 (nI j) (nI own) (ckI st) (ckL 0 st) (f_M_need_76 m (f + k + 1)) 9 (FU - 10) 0 rfl
    have start : f_M_need_76 m (f + (k + 1) + 1) (nI w) (nI a) (nI y) (nI j) (nI own) (ckI st) (ckL 0 st) (nI x) h = f_M_need_154 m (f_M_need_76 m (f + k + 1)) (if rch c a 8 x then cI (cs0 p (bam b w) y x) else -1) (nI w) (nI a) (nI y) (nI j) (nI own) (ckI st) (ckL 0 st) (nI x) h := by
      show t_M_need_76 _ (f_M_need_76 m (f + k + 1)) _ _ _ _ _ _ _ _ _ = _
      unfold t_M_need_76
      rw [if_neg (show ¬ (8 : Int32) ≤ nI x from nI_ge (b := 8) x8 (by decide))]
      exact one
    rw [start]
    unfold f_M_need_154
    have keep : f_M_need_181 m (f_M_need_76 m (f + k + 1)) (nI w) (nI a) (nI y) (nI j) (nI own) (ckI st) (ckL 0 st) (nI x) h = f_M_need_76 m (f + 1) (nI w) (nI a) (nI y) (nI j) (nI own) (ckI (ckf (rch c a 8) (fun x => cs0 p (bam b w) y x) k (x + 1) st)) (ckL 0 (ckf (rch c a 8) (fun x => cs0 p (bam b w) y x) k (x + 1) st)) (nI 8) h := by
      unfold f_M_need_181
      rw [nI_1]
      exact ih f (x + 1) st (by omega) ok
    cases hg : rch c a 8 x with
    | false =>
      rw [if_neg (show ¬ false = true by decide), if_neg (show ¬ false = true by decide), if_pos (by decide)]
      exact keep
    | true =>
      rw [if_pos rfl, if_pos rfl]
      have ok' := cks_ok (cost := fun x => cs0 p (bam b w) y x) hc x8 ok
      cases hv : cs0 p (bam b w) y x with
      | none =>
        rw [if_pos (show cI none < (0 : Int32) by decide), show cks (fun x => cs0 p (bam b w) y x) x st = st by unfold cks; dsimp only; rw [hv]]
        exact keep
      | some u =>
        have ul := hc x u x8 hv
        rw [if_neg (show ¬ cI (some u) < (0 : Int32) from nI_pos (by omega))]
        have new : cks (fun x => cs0 p (bam b w) y x) x st = some (x, u) → f_M_need_173 m (f_M_need_76 m (f + k + 1)) (nI w) (nI a) (nI y) (nI j) (nI own) (nI x) (cI (some u)) h = f_M_need_76 m (f + 1) (nI w) (nI a) (nI y) (nI j) (nI own) (ckI (ckf (rch c a 8) (fun x => cs0 p (bam b w) y x) k (x + 1) (cks (fun x => cs0 p (bam b w) y x) x st))) (ckL 0 (ckf (rch c a 8) (fun x => cs0 p (bam b w) y x) k (x + 1) (cks (fun x => cs0 p (bam b w) y x) x st))) (nI 8) h := by
          intro e
          rw [e] at ok' ⊢
          unfold f_M_need_173 f_M_need_181
          rw [nI_1]
          exact ih f (x + 1) (some (x, u)) (by omega) ok'
        cases st with
        | none =>
          rw [if_pos (show ckI none < (0 : Int32) by decide)]
          exact new (by unfold cks; dsimp only; rw [hv])
        | some z =>
          obtain ⟨z8, -, zl⟩ := ok z rfl
          rw [if_neg (show ¬ ckI (some z) < (0 : Int32) from nI_pos (by omega))]
          have ec : cks (fun x => cs0 p (bam b w) y x) x (some z) = if u < z.2 then some (x, u) else some z := by unfold cks; dsimp only; rw [hv]
          by_cases d : u < z.2
          · rw [if_neg (show ¬ ckL 0 (some z) ≤ cI (some u) from nI_ge d (by omega))]
            exact new (by rw [ec, if_pos d])
          · rw [if_pos (show ckL 0 (some z) ≤ cI (some u) from nI_le (by omega) (by omega)), ec, if_neg d]
            exact keep
end
theorem sim_need {S : Nat} : Sim_need (zInv S) S := by
  intro h x1 x2 x3 x4 I
  have I0 := I
  obtain ⟨mk, T, p, q, pr, br, tx, len, lf, F, hm, B, Z0, C, Mi⟩ := I
  obtain ⟨a0, a1, a2, a3, a4, a5, a6, a7, a8, a9, a10⟩ := C.a
  unfold f_Y_need
  rw [if_pos C.o]
  rcases (Z_who x1).symm with ⟨Y2, M2⟩ | ⟨w, hw, rfl, Y2, M2⟩
  · rw [Y2, Option.bind_some, if_neg (by decide)]
    refine ⟨_, h, h, rfl, ?_, I0⟩
    unfold f_M_need
    rw [if_pos Mi.o, M2]
    rfl
  rw [Y2, Option.bind_some, if_pos rfl]
  rcases (Z_year x2).symm with ⟨Y3, M3⟩ | ⟨a, ha, rfl, Y3, M3⟩
  · rw [Y3, Option.bind_some, if_neg (by decide)]
    refine ⟨_, h, h, rfl, ?_, I0⟩
    unfold f_M_need
    rw [if_pos Mi.o, M2, M3]
    rfl
  rw [Y3, Option.bind_some, if_pos rfl]
  rcases (Z_year x3).symm with ⟨Y4, M4⟩ | ⟨b, hb, rfl, Y4, M4⟩
  · rw [Y4, Option.bind_some, if_neg (by decide)]
    refine ⟨_, h, h, rfl, ?_, I0⟩
    unfold f_M_need
    rw [if_pos Mi.o, M2, M3, M4]
    rfl
  rw [Y4, Option.bind_some, if_pos rfl]
  rcases (Z_in x4 2 (by decide)).symm with ⟨M5, h5⟩ | ⟨j, hj, rfl, M5⟩
  · have mo : f_M_need (S + 59) (nI w) (nI a) (nI b) x4 h = some (-1002, h) := by
      unfold f_M_need
      rw [if_pos Mi.o, M2, M3, M4, show (2 : Int64) = lN 2 from rfl, M5]
      rfl
    rcases h5 with h1 | ⟨h1, h2⟩
    · rw [if_pos h1]
      exact ⟨_, h, h, rfl, mo, I0⟩
    · rw [if_neg h1, if_neg (show ¬ x4 ≤ (2 : Int32) from h2)]
      exact ⟨_, h, h, rfl, mo, I0⟩
  have Mst : ∀ {g : Hp} {G : Nat → Value}, MI g (S + 59) mk T pr br tx len lf G → f_M_need (S + 59) (nI w) (nI a) (nI b) (nI j) g = if 0 < cI (cs0 pr (bam br w) a a) then (f_M_findWalks (S + 59) (nI w) g).bind fun h35 => f_M_need_76 (S + 59) FU (nI w) (nI a) (nI b) (nI j) (cI (cs0 pr (bam br w) a a)) (-1 : Int32) (0 : Int32) (0 : Int32) h35 else some ((-1003 : Int32), g) := by
    intro g G Mg
    unfold f_M_need
    rw [if_pos Mg.o, M2, M3, M4, show (2 : Int64) = lN 2 from rfl, M5, show (31 : Int32) = nI 31 from rfl, M_costOf Mg.2.1 hw (by omega) (by omega) (by decide)]
    rfl
  rw [if_neg (nI_pos (by omega)), if_pos (show nI j ≤ (2 : Int32) from nI_le (b := 2) hj (by decide)), a0]
  simp only [Option.bind_some]
  rw [show (31 : Int32) = nI 31 from rfl, B_costOver C.bk hw ha ha (by decide), show cst (fun g => p (a * 5 + g)) (msk 31 fun g => q ((w * 8 + a) * 5 + g)) = cs0 pr (bam br w) a a from B.cost hw ha ha]
  simp only [Option.bind_some]
  have ol : ∀ u, cs0 pr (bam br w) a a = some u → u ≤ 53460 := Mi.2.1.cost_le hw (by omega) (by omega)
  cases hown : cs0 pr (bam br w) a a with
  | none =>
    rw [hown] at Mst
    rw [if_neg (show ¬ 0 < cI none by decide)]
    exact ⟨_, h, h, rfl, by rw [Mst Mi, if_neg (show ¬ 0 < cI none by decide)], I0⟩
  | some own =>
    have ownl := ol own hown
    rw [hown] at Mst
    by_cases own0 : own = 0
    · subst own0
      rw [if_neg (show ¬ 0 < cI (some 0) by decide)]
      exact ⟨_, h, h, rfl, by rw [Mst Mi, if_neg (show ¬ 0 < cI (some 0) by decide)], I0⟩
    · have op : 0 < cI (some own) := nI_lt (a := 0) (by omega) (by omega)
      rw [if_pos op, a6]
      simp only [Option.bind_some]
      obtain ⟨A, R, G, K⟩ := C.kw
      obtain ⟨h1, A1, G1, E1, K1, F1⟩ := K_cheapest K hw ha hb
      have C1 := C.kn hm K1 F1
      have M1 : MI h1 (S + 59) mk T pr br tx len lf F := Mi.cong fun c _ _ => F1 c (by omega)
      obtain ⟨CF, SF, EF, W⟩ := M1.wa
      obtain ⟨h2, CF2, SF2, EF2, E2, W2, WK2, F2⟩ := M_findWalks W hw
      have Mi2 := M1.wn W2 F2
      have C2 := C1.cong hm fun c _ _ => F2 c (by omega)
      have fin : zInv S h2 := zcls hm B Z0 C2 Mi2
      have hc : ∀ x u, x < 8 → cs0 pr (bam br w) b x = some u → u ≤ 53460 := fun x u hx e => Mi.2.1.cost_le hw (by omega) (by omega) u e
      have ok := ckf_ok (g := rch (chc pr (bam br w)) a 8) (cost := fun x => cs0 pr (bam br w) b x) hc 8 0 none (by omega) (fun y e => by cases e)
      -- the class's cheapest is the reference's
      have same : ckf (rch (chc p (amq q w)) a 8) (fun x => cs0 p (amq q w) b x) 8 0 none = ckf (rch (chc pr (bam br w)) a 8) (fun x => cs0 pr (bam br w) b x) 8 0 none := by
        have ec : ∀ y z, y < 8 → z < 8 → chc p (amq q w) y z = chc pr (bam br w) y z := fun y z hy hz => by
          unfold chc
          rw [B.cs0 hw hy hy, B.cs0 hw hy hz]
        have ew : ∀ k y, y < 8 → wk (chc p (amq q w)) k y a = wk (chc pr (bam br w)) k y a := by
          intro k
          induction k with
          | zero => intro y _; rfl
          | succ k ih =>
            intro y hy
            have : ∀ n, n ≤ 8 → stW (chc p (amq q w)) (fun x => wk (chc p (amq q w)) k x a) y n = stW (chc pr (bam br w)) (fun x => wk (chc pr (bam br w)) k x a) y n := by
              intro n
              induction n with
              | zero => intro _; rfl
              | succ n ihn =>
                intro hn
                show (stW _ _ y n || (decide (0 < eg (chc p (amq q w)) y n) && wk (chc p (amq q w)) k n a)) = (stW _ _ y n || (decide (0 < eg (chc pr (bam br w)) y n) && wk (chc pr (bam br w)) k n a))
                rw [ihn (by omega), ih n (by omega)]
                unfold eg
                rw [ec y n hy (by omega)]
            exact this 8 (by omega)
        have er : ∀ x, x < 8 → rch (chc p (amq q w)) a 8 x = rch (chc pr (bam br w)) a 8 x := by
          intro x hx
          have : ∀ n, anyb (fun k => wk (chc p (amq q w)) k x a) n = anyb (fun k => wk (chc pr (bam br w)) k x a) n := by
            intro n
            induction n with
            | zero => rfl
            | succ n ihn =>
              show (anyb _ n || wk (chc p (amq q w)) n x a) = (anyb _ n || wk (chc pr (bam br w)) n x a)
              rw [ihn, ew n x hx]
          exact this 9
        rw [ckf_cong er 8 0 none (by omega)]
        have : ∀ (k x : Nat) (st : Ck), x + k ≤ 8 → ckf (rch (chc pr (bam br w)) a 8) (fun x => cs0 p (amq q w) b x) k x st = ckf (rch (chc pr (bam br w)) a 8) (fun x => cs0 pr (bam br w) b x) k x st := by
          intro k
          induction k with
          | zero => intro x st _; rfl
          | succ k ih =>
            intro x st hx
            show ckf _ _ k (x + 1) _ = ckf _ _ k (x + 1) _
            rw [ih (x + 1) _ (by omega)]
            unfold cks
            dsimp only
            rw [B.cs0 hw hb (by omega)]
        exact this 8 0 none (by omega)
      rw [same] at E1
      rw [E1, zb2_s]
      -- the reference
      have n76 := M_n76 W2 WK2 hw (j := j) (own := own) ha hb 8 (FU - 9) 0 none rfl (fun y e => by cases e)
      have Mst2 : f_M_need (S + 59) (nI w) (nI a) (nI b) (nI j) h1 = f_M_need_76 (S + 59) (FU - 9 + 1) (nI w) (nI a) (nI b) (nI j) (nI own) (ckI (ckf (rch (chc pr (bam br w)) a 8) (fun x => cs0 pr (bam br w) b x) 8 0 none)) (ckL 0 (ckf (rch (chc pr (bam br w)) a 8) (fun x => cs0 pr (bam br w) b x) 8 0 none)) (nI 8) h2 := by
        rw [Mst M1, if_pos op, E2, Option.bind_some]
        exact n76
      have Mst3 : f_M_need (S + 59) (nI w) (nI a) (nI b) (nI j) h1 = if 0 ≤ ckI (ckf (rch (chc pr (bam br w)) a 8) (fun x => cs0 pr (bam br w) b x) 8 0 none) then
      (f_M_gcd (ckL 0 (ckf (rch (chc pr (bam br w)) a 8) (fun x => cs0 pr (bam br w) b x) 8 0 none)).toInt64 (nI own).toInt64).bind fun l17 =>
      if nI j = 0 then
        if (l17).toInt32 = 0 then none else
        some ((ckL 0 (ckf (rch (chc pr (bam br w)) a 8) (fun x => cs0 pr (bam br w) b x) 8 0 none) / (l17).toInt32), h2)
      else
      if nI j = (1 : Int32) then
        if (l17).toInt32 = 0 then none else
        some ((nI own / (l17).toInt32), h2)
      else
      some (ckI (ckf (rch (chc pr (bam br w)) a 8) (fun x => cs0 pr (bam br w) b x) 8 0 none), h2)
    else
    some ((-1003 : Int32), h2) := by
        rw [Mst2]
        show t_M_need_76 _ _ _ _ _ _ _ _ _ _ _ = _
        unfold t_M_need_76
        rw [if_pos (by decide)]
      generalize ckf (rch (chc pr (bam br w)) a 8) (fun x => cs0 pr (bam br w) b x) 8 0 none = st at *
      cases st with
      | none =>
        rw [if_pos (show ckI none = (-1 : Int32) from rfl)]
        exact ⟨_, h1, h2, rfl, by rw [Mst3, if_neg (show ¬ 0 ≤ ckI none by decide)], fin⟩
      | some y =>
        obtain ⟨y8, ye, yl⟩ := ok y rfl
        have gp : 0 < Nat.gcd y.2 own := Nat.gcd_pos_of_pos_right _ (by omega)
        have gl : Nat.gcd y.2 own ≤ own := Nat.gcd_le_right _ (by omega)
        have gz' : ¬ nI (Nat.gcd y.2 own) = 0 := nI_ne0 gp (by omega)
        obtain ⟨b0, -⟩ := C1.a
        have Mst4 : f_M_need (S + 59) (nI w) (nI a) (nI b) (nI j) h1 = if nI j = 0 then some (nI y.2 / nI (Nat.gcd y.2 own), h2) else if nI j = (1 : Int32) then some (nI own / nI (Nat.gcd y.2 own), h2) else some (nI y.1, h2) := by
          rw [Mst3, if_pos (show 0 ≤ ckI (some y) from nI_pos' (by omega))]
          rw [show f_M_gcd (ckL 0 (some y)).toInt64 (nI own).toInt64 = _ from M_gcdn (by omega) (by omega) (Or.inl rfl), Option.bind_some, lN_i, if_neg gz', if_neg gz']
          rfl
        rw [if_neg (show ¬ ckI (some y) = (-1 : Int32) from nI_m1 (by omega)), b0]
        simp only [Option.bind_some]
        rw [show ckI (some y) = nI y.1 from rfl, B_costOver C1.bk hw hb y8 (by decide), show cst (fun g => p (b * 5 + g)) (msk 31 fun g => q ((w * 8 + y.1) * 5 + g)) = cs0 pr (bam br w) b y.1 from B.cost hw hb y8, show cs0 pr (bam br w) b y.1 = some y.2 from ye]
        simp only [Option.bind_some]
        rw [show f_Y_inLeastTerms (cI (some y.2)) (cI (some own)) (nI j) = _ from Y_least (k := y.2) (L := own) (by omega) (by omega) (by omega) (Or.inl rfl)]
        rcases (by omega : j = 0 ∨ j = 1 ∨ j = 2) with rfl | rfl | rfl
        · rw [if_neg (show ¬ nI 0 = (2 : Int32) by decide), if_pos (show nI 0 = (0 : Int32) from rfl)]
          exact ⟨_, h1, h2, rfl, Mst4.trans (if_pos rfl), fin⟩
        · rw [if_neg (show ¬ nI 1 = (2 : Int32) by decide), if_neg (show ¬ nI 1 = (0 : Int32) by decide)]
          exact ⟨_, h1, h2, rfl, Mst4.trans ((if_neg (by decide)).trans (if_pos rfl)), fin⟩
        · rw [if_pos (show nI 2 = (2 : Int32) from rfl)]
          exact ⟨_, h1, h2, rfl, Mst4.trans ((if_neg (by decide)).trans (if_neg (by decide))), fin⟩
