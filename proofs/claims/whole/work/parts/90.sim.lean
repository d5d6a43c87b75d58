/-! ===== what the two sides' states have to do with each other ===== -/
def zInv (S : Nat) (h : Hp) : Prop := False
theorem zInv_sims : ∀ S, Sims (zInv S) S := sorry
theorem zInv_init : ∀ S : Nat, ∃ h1 h2, f_Y_init S (hup (fun _ => none) S zY0) (S + 1) = some h1 ∧ f_M_init (S + 59) (hup h1 (S + 59) zM0) (S + 60) = some h2 ∧ zInv S h2 := sorry
