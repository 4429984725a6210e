/-! Sums over all sets: the class's and the reference's are the same. -/
theorem cr_sum {ck md : Nat} {π : Nat → Nat} {p q : Nat → Bool} {f g : Nat → Int64} (h1 : ∀ s, s < ck → π s < md ∧ p s = q (π s) ∧ f s = g (π s)) (h2 : ∀ s, s < ck → ∀ t, t < ck → π s = π t → s = t) (h3 : ∀ s', s' < md → ∃ s, s < ck ∧ π s = s') : fs 0 p f ck = fs 0 q g md := by
  refine fs_bij Int64.add_assoc Int64.add_comm (g := π) ck q (fun t ht hp => ⟨(h1 t ht).1, by rw [← (h1 t ht).2.1]; exact hp, (h1 t ht).2.2⟩) (fun t ht _ u hu _ => h2 t ht u hu) (fun u hu hq => ?_)
  obtain ⟨t, ht, rfl⟩ := h3 u hu
  exact ⟨t, ht, by rw [(h1 t ht).2.1]; exact hq, rfl⟩
/-- the class's sum of the duals that an arc enters -/
theorem k_duals {fr to sm : Nat → Int32} {dw : Nat → Int64} {k : Nat} : ∀ n, t_X0_sumOfDualsEntered_5 fr to sm dw k 0 n = fs 0 (fun s => decide (¬ f_X1_enters fr to k (sm s) = 0)) dw n := by
  intro n
  induction n with
  | zero => rfl
  | succ n ih =>
    have e1 : t_X0_sumOfDualsEntered_5 fr to sm dw k 0 (n + 1) = b_X0_sumOfDualsEntered_5 fr to sm dw k n (t_X0_sumOfDualsEntered_5 fr to sm dw k 0 n) := rfl
    rw [e1, ih]
    unfold b_X0_sumOfDualsEntered_5
    show _ = (if decide (¬ f_X1_enters fr to k (sm n) = 0) = true then fs 0 (fun s => decide (¬ f_X1_enters fr to k (sm s) = 0)) dw n + dw n else fs 0 (fun s => decide (¬ f_X1_enters fr to k (sm s) = 0)) dw n)
    by_cases c1 : f_X1_enters fr to k (sm n) = 0
    · rw [if_pos c1, if_neg (by rw [decide_eq_false (fun h => h c1)]; exact Bool.false_ne_true)]
    · rw [if_neg c1, if_pos (decide_eq_true c1)]
