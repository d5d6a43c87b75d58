/-! ===== the reader: words ===== -/
section
variable {h : Hp} {R len pl : Nat} {tx : Nat → Nat} {fk fp : Int32} {P : Value}
theorem R_here_loop (H : RO h R tx len pl fk fp P) {t : Nat} (ht : t < 13) (hin : ∀ j, j < (nm t).length → pl + j < len) : ∀ (k f j : Nat), j + k = (nm t).length → ∃ b : Bool, f_R_isHere_12 R h (f + k + 1) t (nI j) = some (bI b) ∧ (b = true ↔ ∀ i, j ≤ i → i < (nm t).length → tx (pl + i) = (nm t).getD i 0) := by
  intro k
  have h5 := nm_5 t ht
  induction k with
  | zero =>
    intro f j hj
    refine ⟨true, ?_, fun _ i h1 h2 => by omega, fun _ => rfl⟩
    show t_R_isHere_12 _ _ _ _ _ = _
    unfold t_R_isHere_12
    rw [if_pos ht, nm_len t ht, Option.bind_some, if_pos (nI_le (by omega) (by omega))]
    rfl
  | succ k ih =>
    intro f j hj
    have hp := H.2.2.2.1
    have hl := hin j (by omega)
    have tb := H.2.2.2.2 _ hl
    have st : f_R_isHere_12 R h (f + (k + 1) + 1) t (nI j) = if nI (tx (pl + j)) = nI ((nm t).getD j 0) then f_R_isHere_12 R h (f + k + 1) t (nI (j + 1)) else some 0 := by
      show t_R_isHere_12 _ _ (f_R_isHere_12 R h (f + k + 1)) _ _ = _
      unfold t_R_isHere_12
      rw [if_pos ht, nm_len t ht, Option.bind_some, if_neg (nI_ge (by omega) (by omega)), H.g2, Option.bind_some, nI_add, R_byteAt H (by omega), Option.bind_some, if_pos ht, nm_at t ht j (by omega) (by omega), Option.bind_some, nI_1]
      unfold bt'
      rw [if_pos hl]
    rw [st]
    have nl := nm_lt t ht j (by omega)
    by_cases c : tx (pl + j) = (nm t).getD j 0
    · rw [if_pos (by rw [c])]
      obtain ⟨b, E, B⟩ := ih f (j + 1) (by omega)
      refine ⟨b, E, fun hb i h1 h2 => ?_, fun g => B.mpr fun i h1 h2 => g i (by omega) h2⟩
      by_cases e : i = j
      · subst e; exact c
      · exact B.mp hb i (by omega) h2
    · rw [if_neg (fun e => c ((nI_eq (by omega) (by omega)).mp e))]
      exact ⟨false, rfl, fun e => (by cases e), fun g => absurd (g j (Nat.le_refl _) (by omega)) c⟩
theorem R_isHere (H : RO h R tx len pl fk fp P) {t n : Nat} (ht : t < 13) (hn : n < 1000) (hin : ∀ j, j < n → pl + j < len) : f_R_isHere R h t (nI n) = some (bI (hit tx pl n t)) := by
  unfold f_R_isHere
  have h5 := nm_5 t ht
  rw [if_pos H.o, if_pos ht, nm_len t ht, Option.bind_some]
  by_cases c : (nm t).length = n
  · subst c
    rw [if_pos rfl]
    obtain ⟨b, E, B⟩ := R_here_loop H ht hin (nm t).length (FU - (nm t).length - 1) 0 (by omega)
    rw [show FU - (nm t).length - 1 + (nm t).length + 1 = FU by unfold FU; omega] at E
    rw [show (0 : Int32) = nI 0 from rfl, E]
    congr 2
    unfold hit
    cases b with
    | true =>
      rw [eq_comm, decide_eq_true_iff]
      exact ⟨rfl, fun i hi => B.mp rfl i (Nat.zero_le _) hi⟩
    | false =>
      rw [eq_comm, decide_eq_false_iff_not]
      intro g
      have := B.mpr fun i _ hi => g.2 i hi
      cases this
  · rw [if_neg (fun e => c ((nI_eq (by omega) (by omega)).mp e))]
    have : hit tx pl n t = false := by
      unfold hit
      rw [decide_eq_false_iff_not]
      exact fun g => c g.1
    rw [this]
    rfl
theorem R_word_loop (H : RO h R tx len pl fk fp P) {n : Nat} (hn : n < 1000) (hin : ∀ j, j < n → pl + j < len) : ∀ (k f t : Nat), t + k = 13 → f_R_wordHere_2 R h (f + k + 1) (nI n) (nI t) = some (wI (wfd tx pl n k t)) := by
  intro k
  induction k with
  | zero =>
    intro f t ht
    show t_R_wordHere_2 _ _ _ _ _ = _
    unfold t_R_wordHere_2
    rw [if_pos (show (13 : Int32) ≤ nI t from nI_le (a := 13) (by omega) (by omega))]
    rfl
  | succ k ih =>
    intro f t ht
    show t_R_wordHere_2 _ _ (f_R_wordHere_2 R h (f + k + 1)) _ _ = _
    unfold t_R_wordHere_2 wfd
    rw [if_neg (show ¬ (13 : Int32) ≤ nI t from nI_ge (b := 13) (by omega) (by decide)), nm_of t (by omega), Option.bind_some, R_isHere H (by omega) hn hin, Option.bind_some]
    cases hit tx pl n t with
    | true => rw [if_neg (by decide), if_pos rfl]; rfl
    | false => rw [if_pos (by decide), if_neg (by decide), nI_1]; exact ih f (t + 1) (by omega)
theorem R_word (H : RO h R tx len pl fk fp P) : f_R_wordHere R h (nI (lt tx len pl)) = some (wI (wd tx pl (lt tx len pl))) := by
  unfold f_R_wordHere
  rw [if_pos H.o]
  have l := lt_le (tx := tx) (len := len) (len - pl) pl (Nat.le_refl _)
  have := H.2.2.1
  exact R_word_loop H (by omega) (fun j hj => (l.2 j hj).1) 13 (FU - 14) 0 rfl
end
/-- the number of a word -/
def rv : List Nat → Nat
  | [] => 0
  | c :: t => 27 * rv t + (c - 96)
theorem rv_inj : ∀ (a b : List Nat), (∀ x, x ∈ a → 97 ≤ x ∧ x ≤ 122) → (∀ x, x ∈ b → 97 ≤ x ∧ x ≤ 122) → rv a = rv b → a = b := by
  intro a
  induction a with
  | nil =>
    intro b _ hb e
    cases b with
    | nil => rfl
    | cons c t =>
      have := hb c List.mem_cons_self
      simp only [rv] at e
      omega
  | cons x s ih =>
    intro b ha hb e
    have hx := ha x List.mem_cons_self
    cases b with
    | nil => simp only [rv] at e; omega
    | cons c t =>
      have hc := hb c List.mem_cons_self
      simp only [rv] at e
      have e1 : x = c := by omega
      have e2 : rv s = rv t := by omega
      rw [e1, ih t (fun y hy => ha y (List.mem_cons_of_mem _ hy)) (fun y hy => hb y (List.mem_cons_of_mem _ hy)) e2]
/-- the letters from i on, the last one first -/
def seg (tx : Nat → Nat) (i : Nat) : Nat → List Nat
  | 0 => []
  | n + 1 => tx (i + n) :: seg tx i n
theorem seg_in {tx : Nat → Nat} {i : Nat} : ∀ (n : Nat), (∀ j, j < n → 97 ≤ tx (i + j) ∧ tx (i + j) ≤ 122) → ∀ x, x ∈ seg tx i n → 97 ≤ x ∧ x ≤ 122 := by
  intro n
  induction n with
  | zero => intro _ x hx; cases hx
  | succ n ih =>
    intro h x hx
    rcases List.mem_cons.mp hx with rfl | hx
    · exact h n (by omega)
    · exact ih (fun j hj => h j (by omega)) x hx
theorem seg_len {tx : Nat → Nat} {i : Nat} : ∀ (n : Nat), (seg tx i n).length = n := by
  intro n
  induction n with
  | zero => rfl
  | succ n ih => simp only [seg, List.length_cons, ih]
theorem seg_eq {tx ty : Nat → Nat} {i k : Nat} : ∀ (n : Nat), seg tx i n = seg ty k n ↔ ∀ j, j < n → tx (i + j) = ty (k + j) := by
  intro n
  induction n with
  | zero => exact ⟨fun _ j hj => by omega, fun _ => rfl⟩
  | succ n ih =>
    constructor
    · intro e j hj
      simp only [seg, List.cons.injEq] at e
      by_cases c : j = n
      · subst c; exact e.1
      · exact ih.mp e.2 j (by omega)
    · intro e
      simp only [seg, List.cons.injEq]
      exact ⟨e n (by omega), ih.mpr fun j hj => e j (by omega)⟩
/-- the numbers of the words -/
def wc (k : Nat) : Nat := rv (seg (fun j => (nm k).getD j 0) 0 (nm k).length)
theorem wc_lt : ∀ k, k < 13 → wc k < 14348907 := by decide +kernel
theorem nm_let : ∀ k, k < 13 → ∀ j, j < 5 → j < (nm k).length → 97 ≤ (nm k).getD j 0 ∧ (nm k).getD j 0 ≤ 122 := by decide +kernel
theorem rv_lt : ∀ (l : List Nat), (∀ x, x ∈ l → 97 ≤ x ∧ x ≤ 122) → rv l < 27 ^ l.length := by
  intro l
  induction l with
  | nil => intro _; decide
  | cons c t ih =>
    intro h
    have hc := h c List.mem_cons_self
    have := ih fun y hy => h y (List.mem_cons_of_mem _ hy)
    simp only [rv, List.length_cons, Nat.pow_succ]
    omega
theorem rv_ge : ∀ (l : List Nat), (∀ x, x ∈ l → 97 ≤ x ∧ x ≤ 122) → l ≠ [] → 27 ^ (l.length - 1) ≤ rv l := by
  intro l
  induction l with
  | nil => intro _ h; exact absurd rfl h
  | cons c t ih =>
    intro h _
    have hc := h c List.mem_cons_self
    simp only [rv, List.length_cons, Nat.add_sub_cancel]
    by_cases e : t = []
    · subst e; simp [rv]; omega
    · have := ih (fun y hy => h y (List.mem_cons_of_mem _ hy)) e
      have hl : t.length = t.length - 1 + 1 := by
        have : 0 < t.length := by
          cases t with
          | nil => exact absurd rfl e
          | cons a b => simp
        omega
      rw [hl, Nat.pow_succ]
      omega
/-- the number as the reference adds it up: capped -/
def cw (tx : Nat → Nat) (i : Nat) : Nat → Nat
  | 0 => 0
  | n + 1 => if cw tx i n ≤ 1000000000 then 27 * cw tx i n + (tx (i + n) - 96) else 2000000000
theorem cw_small {tx : Nat → Nat} {i : Nat} : ∀ (n : Nat), n ≤ 6 → (∀ j, j < n → 97 ≤ tx (i + j) ∧ tx (i + j) ≤ 122) → cw tx i n = rv (seg tx i n) := by
  intro n
  induction n with
  | zero => intro _ _; rfl
  | succ n ih =>
    intro hn h
    have e := ih (by omega) fun j hj => h j (by omega)
    have b := rv_lt (seg tx i n) (seg_in n fun j hj => h j (by omega))
    rw [seg_len] at b
    have : (27 : Nat) ^ n ≤ 27 ^ 5 := Nat.pow_le_pow_right (by decide) (by omega)
    rw [show (27 : Nat) ^ 5 = 14348907 by decide] at this
    rw [cw, e, if_pos (by omega)]
    rfl
theorem cw_big {tx : Nat → Nat} {i : Nat} : ∀ (n : Nat), 6 ≤ n → (∀ j, j < n → 97 ≤ tx (i + j) ∧ tx (i + j) ≤ 122) → 14348907 ≤ cw tx i n := by
  intro n
  induction n with
  | zero => intro h; omega
  | succ n ih =>
    intro hn h
    by_cases c : n + 1 = 6
    · have hs := cw_small (n + 1) (by omega) h
      have g := rv_ge (seg tx i (n + 1)) (seg_in _ h) (fun e => by cases e)
      rw [seg_len, c] at g
      rw [hs]
      have : (27 : Nat) ^ (6 - 1) = 14348907 := by decide
      rw [c]
      omega
    · have := ih (by omega) fun j hj => h j (by omega)
      rw [cw]
      split <;> omega
/-- the numbers tell the words -/
theorem cw_hit {tx : Nat → Nat} {i n k : Nat} (hk : k < 13) (h : ∀ j, j < n → 97 ≤ tx (i + j) ∧ tx (i + j) ≤ 122) : cw tx i n = wc k ↔ hit tx i n k = true := by
  have h5 := nm_5 k hk
  have hw := wc_lt k hk
  have ln : ∀ j, j < (nm k).length → 97 ≤ (nm k).getD (0 + j) 0 ∧ (nm k).getD (0 + j) 0 ≤ 122 := fun j hj => by
    rw [Nat.zero_add]; exact nm_let k hk j (by omega) hj
  unfold hit
  rw [decide_eq_true_iff]
  constructor
  · intro e
    have n6 : n ≤ 6 := by
      by_cases c : n ≤ 6
      · exact c
      · have := cw_big n (by omega) h; omega
    rw [cw_small n n6 h] at e
    have := rv_inj _ _ (seg_in n h) (seg_in _ ln) e
    have l1 := congrArg List.length this
    rw [seg_len, seg_len] at l1
    refine ⟨l1.symm, ?_⟩
    subst l1
    intro j hj
    have := (seg_eq _).mp this j hj
    rw [Nat.zero_add] at this
    exact this
  · rintro ⟨e, g⟩
    subst e
    rw [cw_small _ (by omega) h]
    unfold wc
    congr 1
    rw [seg_eq]
    intro j hj
    rw [Nat.zero_add]
    exact g j hj
