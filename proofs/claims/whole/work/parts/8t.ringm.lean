/-! ===== sims: ring ===== -/
/-- the last one of those that are looked at from the end on: the first -/
def fld (P : Nat → Bool) : Nat → Option Nat → Option Nat
  | 0, o => o
  | n + 1, o => fld P n (if P n then some n else o)
theorem fld_eq {P : Nat → Bool} : ∀ (n : Nat) (o : Option Nat), fld P n o = match sc (fun y => if P y = true then some y else none) n 0 with
    | some y => some y
    | none => o := by
  intro n
  induction n with
  | zero => intro o; rfl
  | succ n ih =>
    intro o
    show fld P n (if P n then some n else o) = _
    rw [ih, sc_split n 1 0]
    cases sc (fun y => if P y = true then some y else none) n 0 with
    | some y => rfl
    | none =>
      dsimp only
      rw [sc_s, Nat.zero_add]
      cases P n with
      | true => rfl
      | false => rfl
theorem nI_neg1 (n : Nat) : nI n + (-1 : Int32) = nI n - 1 := by rw [Int32.sub_eq_add_neg]
section
variable {h : Hp} {m : Nat} {p b : Nat → Nat} {CF SF EF : Nat → Int32} {c : Nat → Nat → Nat}
def szI (k : Nat) (o : Option Nat) : Int32 := match o with
  | none => 0
  | some _ => nI k
theorem M_r39 (H : WA h m p b CF SF EF) (W : WK c CF SF EF) {k : Nat} (hk : k ≤ 8) (x2 : Int32) (k24 : Int32 → Int32 → Int32 → Int32 → Hp → Option (Int32 × Hp)) : ∀ (n fu : Nat) (o : Option Nat), n ≤ 8 → f_M_ring_39 m k24 (fu + n + 1) x2 (szI k o) (oC o) (nI k) (nI n - 1) h = k24 x2 (szI k (fld (fun y => ws c k y y) n o)) (oC (fld (fun y => ws c k y y) n o)) (nI (k + 1)) h := by
  intro n
  induction n with
  | zero =>
    intro fu o _
    show t_M_ring_39 _ _ _ _ _ _ _ _ _ = _
    unfold t_M_ring_39
    rw [if_pos (by decide), nI_1]
    rfl
  | succ n ih =>
    intro fu o hn
    have e : (100 : Int32) * nI k + (11 : Int32) * nI n = nI (100 * k + 10 * n + n) := by
      rw [show (100 : Int32) = nI 100 from rfl, show (11 : Int32) = nI 11 from rfl, pk_mul, pk_mul, nI_add, show 100 * k + 11 * n = 100 * k + 10 * n + n by omega]
    have ef : fld (fun y => ws c k y y) (n + 1) o = fld (fun y => ws c k y y) n (if ws c k n n then some n else o) := rfl
    rw [ef]
    show t_M_ring_39 _ _ (f_M_ring_39 m k24 (fu + n + 1)) _ _ _ _ _ _ = _
    unfold t_M_ring_39
    rw [nI_pred, if_neg (nI_pos (by omega)), H.1.2.2.1]
    simp only [Option.bind_some]
    rw [e, ai_get H.2.2.1 (by omega) (by decide), (W.1 k n n hk (by omega) (by omega)).2]
    simp only [Option.bind_some]
    unfold f_M_ring_74 f_M_ring_87
    cases hw : ws c k n n with
    | false =>
      rw [if_pos (show bI false = 0 from rfl), if_pos (show bI false = 0 from rfl), if_neg (show ¬ false = true by decide), nI_neg1]
      exact ih fu o (by omega)
    | true =>
      rw [if_neg (show ¬ bI true = 0 by decide), if_neg (show ¬ bI true = 0 by decide), if_pos rfl, nI_neg1]
      exact ih fu (some n) (by omega)
def szM (t : Option (Nat × Nat)) : Int32 := match t with
  | none => 0
  | some t => nI t.1
def fiM (t : Option (Nat × Nat)) : Int32 := match t with
  | none => -1
  | some t => nI t.2
theorem M_r24 (H : WA h m p b CF SF EF) (W : WK c CF SF EF) (x2 : Int32) : ∀ (k fu L : Nat), L + k = 9 → 2 ≤ L → f_M_ring_24 m (fu + k + 2) x2 0 (-1) (nI L) h = f_M_ring_100 m x2 (szM (sc (fun k => sc (fun y => if ws c k y y = true then some (k, y) else none) 8 0) k L)) (fiM (sc (fun k => sc (fun y => if ws c k y y = true then some (k, y) else none) 8 0) k L)) h := by
  intro k
  induction k with
  | zero =>
    intro fu L hL hL2
    have e : L = 9 := by omega
    subst e
    show t_M_ring_24 _ _ _ _ _ _ _ = _
    unfold t_M_ring_24
    rw [if_pos (by decide)]
    rfl
  | succ k ih =>
    intro fu L hL hL2
    have fuq : FU - 9 + 8 + 1 = FU := rfl
    have one := M_r39 H W (k := L) (by omega) x2 (f_M_ring_24 m (fu + k + 2)) 8 (FU - 9) none (by omega)
    have start : f_M_ring_24 m (fu + (k + 1) + 2) x2 0 (-1) (nI L) h = f_M_ring_24 m (fu + k + 2) x2 (szI L (fld (fun y => ws c L y y) 8 none)) (oC (fld (fun y => ws c L y y) 8 none)) (nI (L + 1)) h := by
      show t_M_ring_24 _ (f_M_ring_24 m (fu + k + 2)) _ _ _ _ _ = _
      unfold t_M_ring_24
      rw [if_neg (show ¬ (8 : Int32) < nI L from nI_nlt (a := 8) (by omega) (by decide)), if_pos rfl]
      exact one
    rw [start, fld_eq, sc_s (f := fun k => sc (fun y => if ws c k y y = true then some (k, y) else none) 8 0) (k := k) (i := L)]
    have em : sc (fun y => if ws c L y y = true then some (L, y) else none) 8 0 = (sc (fun y => if ws c L y y = true then some y else none) 8 0).map fun y => (L, y) := by
      rw [← sc_map]
      exact sc_cong 8 0 fun y _ _ => by split <;> rfl
    rw [em]
    cases hs : sc (fun y => if ws c L y y = true then some y else none) 8 0 with
    | none => exact ih fu (L + 1) (by omega) (by omega)
    | some y =>
      show t_M_ring_24 _ _ _ _ _ _ _ = _
      unfold t_M_ring_24
      rw [Option.map_some]
      dsimp only
      by_cases d : L = 8
      · rw [if_pos (by rw [d]; decide)]
        rfl
      · rw [if_neg (show ¬ (8 : Int32) < nI (L + 1) from nI_nlt (a := 8) (by omega) (by decide)), if_neg (show ¬ szI L (some y) = 0 from nI_ne0 (by omega) (by omega))]
        rfl
theorem eg_c2 (c2 : ∀ i j, c i j ≤ 2) (i j : Nat) : eg c i j ≤ 2 := by
  unfold eg
  split
  · decide
  · exact c2 i j
theorem M_r166 (H : WA h m p b CF SF EF) (W : WK c CF SF EF) (c2 : ∀ i j, c i j ≤ 2) {f v N : Nat} {s : Bool} (hf : f < 8) (hv : v < 8) (hN : N ≤ 8) (x2 x3 x7 : Int32) (k145 : Int32 → Int32 → Int32 → Int32 → Int32 → Int32 → Hp → Option (Int32 × Hp)) : ∀ (n fu : Nat) (o : Option Nat), n ≤ 8 → (∀ y, o = some y → y < 8) → (∃ x, fld (fun x => decide (0 < eg c v x) && sw c N (s || decide (eg c v x = 2)) x f) n o = some x) → ∃ x, fld (fun x => decide (0 < eg c v x) && sw c N (s || decide (eg c v x = 2)) x f) n o = some x ∧ f_M_ring_166 m k145 (fu + n + 1) x2 x3 (nI f) (nI v) (bI s) x7 (nI N) (oC o) (nI n - 1) h = k145 x2 x3 (nI f) (nI x) (bI (s || decide (eg c v x = 2))) (x7 + 1) h := by
  intro n
  induction n with
  | zero =>
    rintro fu o _ ho ⟨x, hx⟩
    have e : o = some x := hx
    subst e
    have x8 := ho x rfl
    refine ⟨x, rfl, ?_⟩
    show t_M_ring_166 _ _ _ _ _ _ _ _ _ _ _ _ _ = _
    unfold t_M_ring_166 f_M_ring_294 f_M_ring_299
    rw [if_pos (by decide)]
    cases s with
    | true =>
      rw [if_neg (show ¬ bI true = 0 by decide)]
      rfl
    | false =>
      rw [if_pos (show bI false = 0 from rfl), H.1.2.2.2]
      simp only [Option.bind_some]
      rw [show oC (some x) = nI x from rfl, ix10, ai_get H.2.2.2 (by omega) (by decide), W.2 v x hv x8]
      simp only [Option.bind_some]
      have := eg_c2 c2 v x
      by_cases d : eg c v x = 2
      · rw [if_pos (show nI (eg c v x) = (2 : Int32) by rw [d]; rfl), decide_eq_true d]
        rfl
      · rw [if_neg (show ¬ nI (eg c v x) = (2 : Int32) from fun e => d ((nI_eq (by omega) (by decide)).mp e)), decide_eq_false d]
        rfl
  | succ n ih =>
    rintro fu o hn ho hex
    have n8 : n < 8 := by omega
    have el := eg_c2 c2 v n
    have ef : fld (fun x => decide (0 < eg c v x) && sw c N (s || decide (eg c v x = 2)) x f) (n + 1) o = fld (fun x => decide (0 < eg c v x) && sw c N (s || decide (eg c v x = 2)) x f) n (if (decide (0 < eg c v n) && sw c N (s || decide (eg c v n = 2)) n f) = true then some n else o) := rfl
    rw [ef] at hex ⊢
    have ho' : ∀ y, (if (decide (0 < eg c v n) && sw c N (s || decide (eg c v n = 2)) n f) = true then some n else o) = some y → y < 8 := by
      intro y hy
      split at hy
      · cases hy; exact n8
      · exact ho y hy
    obtain ⟨x, hx, E⟩ := ih fu _ (by omega) ho' hex
    refine ⟨x, hx, ?_⟩
    rw [← E]
    -- whether this year is taken
    have st : ∀ t : Bool, t = (s || decide (eg c v n = 2)) → f_M_ring_198 m k145 (f_M_ring_166 m k145 (fu + n + 1)) (bI t) x2 x3 (nI f) (nI v) (bI s) x7 (nI N) (oC o) (nI n) h = f_M_ring_166 m k145 (fu + n + 1) x2 x3 (nI f) (nI v) (bI s) x7 (nI N) (oC (if (decide (0 < eg c v n) && sw c N (s || decide (eg c v n = 2)) n f) = true then some n else o)) (nI n - 1) h := by
      intro t ht
      rw [← ht]
      unfold f_M_ring_198 f_M_ring_257 f_M_ring_262 f_M_ring_264
      rw [H.1.2.2.2]
      simp only [Option.bind_some]
      rw [ix10, ai_get H.2.2.2 (by omega) (by decide), W.2 v n hv n8]
      simp only [Option.bind_some]
      rw [nI_neg1]
      by_cases e0 : eg c v n = 0
      · rw [if_pos ((nI_le0 (by omega)).mpr e0), e0, if_neg (by simp)]
      · rw [if_neg (fun e => e0 ((nI_le0 (by omega)).mp e)), H.1.2.2.1, H.1.2.1]
        simp only [Option.bind_some]
        obtain ⟨w1, w2⟩ := W.1 N n f hN n8 hf
        rw [ix110, ai_get H.2.2.1 (by omega) (by decide), w2, ai_get H.2.1 (by omega) (by decide), w1]
        simp only [Option.bind_some]
        have e1 : (decide (0 < eg c v n) && sw c N t n f) = (ws c N n f || (t && wk c N n f)) := by
          rw [decide_eq_true (by omega : 0 < eg c v n), Bool.true_and]
          rfl
        rw [e1]
        cases ws c N n f with
        | true =>
          rw [if_neg (show ¬ bI true = 0 by decide), if_pos (by simp)]
          rfl
        | false =>
          rw [if_pos (show bI false = 0 from rfl)]
          cases t with
          | false =>
            rw [if_pos (show bI false = 0 from rfl), if_neg (by simp)]
          | true =>
            rw [if_neg (show ¬ bI true = 0 by decide)]
            cases wk c N n f with
            | true =>
              rw [if_neg (show ¬ bI true = 0 by decide), if_pos (by simp)]
              rfl
            | false =>
              rw [if_pos (show bI false = 0 from rfl), if_neg (by simp)]
    show t_M_ring_166 _ _ (f_M_ring_166 m k145 (fu + n + 1)) _ _ _ _ _ _ _ _ _ _ = _
    unfold t_M_ring_166 f_M_ring_193
    rw [nI_pred, if_neg (nI_pos (by omega))]
    cases s with
    | true =>
      rw [if_neg (show ¬ bI true = 0 by decide)]
      exact st true (Bool.true_or _).symm
    | false =>
      rw [if_pos (show bI false = 0 from rfl), H.1.2.2.2]
      simp only [Option.bind_some]
      rw [ix10, ai_get H.2.2.2 (by omega) (by decide), W.2 v n hv n8]
      simp only [Option.bind_some]
      by_cases d : eg c v n = 2
      · rw [if_pos (show nI (eg c v n) = (2 : Int32) by rw [d]; rfl)]
        exact st true (by rw [decide_eq_true d]; rfl)
      · rw [if_neg (show ¬ nI (eg c v n) = (2 : Int32) from fun e => d ((nI_eq (by omega) (by decide)).mp e))]
        exact st false (by rw [decide_eq_false d]; rfl)
theorem fld_nxt {f v N : Nat} {s : Bool} : fld (fun x => decide (0 < eg c v x) && sw c N (s || decide (eg c v x = 2)) x f) 8 none = nxt c f N s v := by
  rw [fld_eq]
  have e : sc (fun y => if (decide (0 < eg c v y) && sw c N (s || decide (eg c v y = 2)) y f) = true then some y else none) 8 0 = nxt c f N s v := by
    unfold nxt
    refine sc_cong 8 0 fun y _ _ => ?_
    by_cases d : 0 < eg c v y ∧ sw c N (s || decide (eg c v y = 2)) y f = true
    · rw [if_pos d, if_pos (by rw [decide_eq_true d.1, d.2]; rfl)]
    · rw [if_neg d, if_neg]
      intro q
      rw [Bool.and_eq_true, decide_eq_true_eq] at q
      exact d q
  rw [e]
  cases nxt c f N s v <;> rfl
theorem M_r145 (H : WA h m p b CF SF EF) (W : WK c CF SF EF) (c2 : ∀ i j, c i j ≤ 2) {f size : Nat} (hf : f < 8) (hs8 : size ≤ 8) : ∀ (r fu k N v : Nat) (s : Bool), r ≤ N → N + k + 1 = size → v < 8 → sw c (N + 1) s v f = true → f_M_ring_145 m (fu + r + 1) (nI (k + r)) (nI size) (nI f) (nI v) (bI s) (nI k) h = some (nI ((v :: gl c f N s v).getD r 0), h) := by
  intro r
  induction r with
  | zero =>
    intro fu k N v s _ _ _ _
    show t_M_ring_145 _ _ _ _ _ _ _ _ _ = _
    unfold t_M_ring_145
    rw [Nat.add_zero, if_pos (nI_le (Nat.le_refl k) (by omega))]
    rfl
  | succ r ih =>
    intro fu k N v s hr hN hv hs
    obtain ⟨n, rfl⟩ : ∃ n, N = n + 1 := ⟨N - 1, by omega⟩
    have hex : ∃ x, fld (fun x => decide (0 < eg c v x) && sw c (n + 1) (s || decide (eg c v x = 2)) x f) 8 none = some x := by
      rw [fld_nxt]
      cases hn : nxt c f (n + 1) s v with
      | some x => exact ⟨x, rfl⟩
      | none => rw [nxt_none.mp hn] at hs; cases hs
    obtain ⟨x, hx, E⟩ := M_r166 H W c2 (N := n + 1) hf hv (by omega) (nI (k + (r + 1))) (nI size) (nI k) (f_M_ring_145 m (fu + r + 1)) 8 (FU - 9) none (by omega) (fun y e => by cases e) hex
    rw [fld_nxt] at hx
    obtain ⟨x8, he, hsx⟩ := nxt_some hx
    have left : nI size - (1 : Int32) - nI k = nI (n + 1) := by
      obtain ⟨t, rfl⟩ : ∃ t, size = t + 1 := ⟨size - 1, by omega⟩
      rw [nI_pred, show t = n + 1 + k by omega, ← nI_add, Int32.add_sub_cancel]
    have start : f_M_ring_145 m (fu + (r + 1) + 1) (nI (k + (r + 1))) (nI size) (nI f) (nI v) (bI s) (nI k) h = f_M_ring_145 m (fu + r + 1) (nI (k + (r + 1))) (nI size) (nI f) (nI x) (bI (s || decide (eg c v x = 2))) (nI k + 1) h := by
      show t_M_ring_145 _ (f_M_ring_145 m (fu + r + 1)) _ _ _ _ _ _ _ = _
      unfold t_M_ring_145
      rw [if_neg (nI_ge (by omega) (by omega)), left]
      exact E
    have eg1 : gl c f (n + 1) s v = x :: gl c f n (s || decide (eg c v x = 2)) x := by
      show (match nxt c f (n + 1) s v with
        | none => []
        | some x => x :: gl c f n (s || decide (eg c v x = 2)) x) = _
      rw [hx]
    rw [start, nI_1, eg1, show k + (r + 1) = k + 1 + r by omega, ih fu (k + 1) n x _ (by omega) (by omega) x8 hsx]
    rfl
end
theorem sim_ring {S : Nat} : Sim_ring (zInv S) S := by
  intro h x1 x2 I
  have I0 := I
  obtain ⟨mk, T, p, q, pr, br, tx, len, lf, F, hm, B, Z0, C, Mi⟩ := I
  obtain ⟨a0, a1, a2, a3, a4, a5, a6, a7, a8, a9, a10⟩ := C.a
  unfold f_Y_ring
  rw [if_pos C.o]
  rcases (Z_who x1).symm with ⟨Y2, M2⟩ | ⟨w, hw, rfl, Y2, M2⟩
  · rw [Y2, Option.bind_some, if_neg (by decide)]
    refine ⟨_, h, h, rfl, ?_, I0⟩
    unfold f_M_ring
    rw [if_pos Mi.o, M2]
    rfl
  rw [Y2, Option.bind_some, if_pos rfl, a6]
  simp only [Option.bind_some]
  have c2 : ∀ i j, chc pr (bam br w) i j ≤ 2 := fun i j => chz_2 _ _
  obtain ⟨A, R, G, K⟩ := C.kw
  obtain ⟨h1, A1, R1, G1, E1, K1, D1, F1⟩ := K_findRing2 K hw (c := chc pr (bam br w)) (fun y z hy hz => by
    unfold chc
    rw [B.cs0 hw hy hy, B.cs0 hw hy hz]) c2
  have C1 := C.kn hm K1 F1
  have M1 : MI h1 (S + 59) mk T pr br tx len lf F := Mi.cong fun c _ _ => F1 c (by omega)
  obtain ⟨CF, SF, EF, W⟩ := M1.wa
  obtain ⟨h2, CF2, SF2, EF2, E2, W2, WK2, F2⟩ := M_findWalks W hw
  have Mi2 := M1.wn W2 F2
  have C2 := C1.cong hm fun c _ _ => F2 c (by omega)
  have fin : zInv S h2 := zcls hm B Z0 C2 Mi2
  have Mst : f_M_ring (S + 59) (nI w) x2 h1 = f_M_ring_100 (S + 59) x2 (szM (rgM (chc pr (bam br w)))) (fiM (rgM (chc pr (bam br w)))) h2 := by
    unfold f_M_ring
    rw [if_pos M1.o, M2, Option.bind_some, if_neg (by decide), E2, Option.bind_some]
    exact M_r24 W2 WK2 x2 7 (FU - 9) 2 rfl (by omega)
  rw [E1, zb2_s]
  rw [ring_eq c2] at D1 ⊢
  obtain ⟨-, -, -, -, -, -, b6, -⟩ := C1.a
  by_cases m1 : x2 = (-1 : Int32)
  · rw [if_pos m1]
    refine ⟨_, h1, h2, rfl, ?_, fin⟩
    rw [Mst]
    unfold f_M_ring_100 f_M_ring_109
    rw [if_pos m1, if_pos m1]
    cases rgM (chc pr (bam br w)) <;> rfl
  · rw [if_neg m1]
    cases hr : rgM (chc pr (bam br w)) with
    | none =>
      rw [hr] at Mst
      have mo : f_M_ring (S + 59) (nI w) x2 h1 = some (-1, h2) := by
        rw [Mst]
        unfold f_M_ring_100 f_M_ring_109
        rw [if_neg m1, if_pos (show szM none = 0 from rfl), if_neg m1]
      by_cases neg : x2 < 0
      · rw [if_pos neg]
        exact ⟨_, h1, h2, rfl, mo, fin⟩
      · rw [if_neg neg, if_neg (show ¬ x2 < rgI (Option.map _ none) from neg)]
        exact ⟨_, h1, h2, rfl, mo, fin⟩
    | some t =>
      obtain ⟨k, f⟩ := t
      obtain ⟨k2, k8, f8, hws⟩ := rgM_b hr
      dsimp only at k2 k8 f8 hws
      rw [hr] at Mst D1
      obtain ⟨R0, RI⟩ := D1 (k, f, gl (chc pr (bam br w)) f (k - 1) false f) rfl
      dsimp only at R0 RI
      have Mst2 : f_M_ring (S + 59) (nI w) x2 h1 = (f_M_in (x2).toInt64 (0 : Int64) (lN (k - 1))).bind fun i43 => if i43 = 0 then some ((-1 : Int32), h2) else f_M_ring_145 (S + 59) FU x2 (nI k) (nI f) (nI f) (0 : Int32) (0 : Int32) h2 := by
        rw [Mst]
        unfold f_M_ring_100
        have e : (szM (some (k, f)) - (1 : Int32)).toInt64 = lN (k - 1) := by
          obtain ⟨t, rfl⟩ : ∃ t, k = t + 1 := ⟨k - 1, by omega⟩
          show (nI (t + 1) - 1).toInt64 = _
          rw [nI_pred, nI_l (by omega)]
          rfl
        rw [if_neg m1, if_neg (show ¬ szM (some (k, f)) = 0 from nI_ne0 (by omega) (by omega)), e]
        rfl
      rcases (Z_in x2 (k - 1) (by omega)).symm with ⟨M5, h5⟩ | ⟨i, hi, rfl, M5⟩
      · have mo : f_M_ring (S + 59) (nI w) x2 h1 = some (-1, h2) := by
          rw [Mst2, M5, Option.bind_some, if_pos rfl]
        rcases h5 with h5 | ⟨h5, h6⟩
        · rw [if_pos h5]
          exact ⟨_, h1, h2, rfl, mo, fin⟩
        · rw [if_neg h5, if_neg]
          · exact ⟨_, h1, h2, rfl, mo, fin⟩
          · intro q
            refine h6 ?_
            have q : x2 < nI k := q
            rw [Int32.lt_iff_toInt_lt, nI_toInt (by omega)] at q
            rw [Int32.le_iff_toInt_le, nI_toInt (by omega)]
            omega
      · have lt : nI i < rgI (Option.map (fun t : Nat × Nat => (t.1, t.2, gl (chc pr (bam br w)) t.2 (t.1 - 1) false t.2)) (some (k, f))) := nI_lt (show i < k by omega) (show k < 2 ^ 31 by omega)
        rw [if_neg (nI_pos (by omega)), if_pos lt, b6]
        simp only [Option.bind_some]
        rw [K_year K1 (by omega)]
        simp only [Option.bind_some]
        have r145 := M_r145 W2 WK2 c2 (size := k) f8 k8 i (FU - i - 1) 0 (k - 1) f false (by omega) (by omega) f8 (by rw [show k - 1 + 1 = k by omega, sw_f]; exact hws)
        have fu : FU - i - 1 + i + 1 = FU := by unfold FU; omega
        rw [fu, Nat.zero_add] at r145
        have mo : f_M_ring (S + 59) (nI w) (nI i) h1 = some (nI ((f :: gl (chc pr (bam br w)) f (k - 1) false f).getD i 0), h2) := by
          rw [Mst2, M5, Option.bind_some, if_neg (by decide)]
          exact r145
        have er : R1 i = nI ((f :: gl (chc pr (bam br w)) f (k - 1) false f).getD i 0) := by
          cases i with
          | zero => exact R0
          | succ i =>
            have := RI i (by omega)
            rw [Nat.add_comm 1 i] at this
            exact this
        rw [er]
        exact ⟨_, h1, h2, rfl, mo, fin⟩
