/-! The reference's count of bits, and the least node of a set. -/
theorem k_bits {n : Nat} (hn : n < 2 ^ 24) : f_X4_bits (nI n) = nI (tb_pc n 24) := by
  have h1 : ∀ i, i ≤ 24 → t_X4_bits_4 (nI n) 0 i = nI (tb_pc n i) := by
    unfold t_X4_bits_4
    refine tq_it_inv (N := 24) (fun i (x : Int32) => x = nI (tb_pc n i)) rfl (fun i x hi h => ?_)
    subst h
    show nI (tb_pc n i) + ((nI n >>> (nI i &&& 31)) &&& 1) = nI (tb_pc n i + n / 2 ^ i % 2)
    rw [tb_bit hn hi, nI_add]
  unfold f_X4_bits
  exact h1 24 (Nat.le_refl _)
/-- leastOf: the first node of a set -/
theorem k_leastOf {w v : Nat} (hw : w < 2 ^ 24) (hv : v < 24) (h : w.testBit v = true) (hl : ∀ u, u < v → w.testBit u = false) : f_X4_leastOf (nI w) = nI v := by
  have key : ∀ i, i ≤ v → t_X4_leastOf_2 (nI w) 0 i = (false, nI i) := by
    intro i
    induction i with
    | zero => intro _; rfl
    | succ i ih =>
      intro hi
      have e1 : t_X4_leastOf_2 (nI w) 0 (i + 1) = b_X4_leastOf_2 (nI w) i (nI i) := tq_br_go (ih (by omega))
      rw [e1]
      unfold b_X4_leastOf_2
      have h2 := hl i (by omega)
      rw [tb_test] at h2
      have h3 : ¬ w / 2 ^ i % 2 = 1 := of_decide_eq_false h2
      rw [tb_bit hw (by omega), show w / 2 ^ i % 2 = 0 by omega, if_pos (by decide), nI_1]
  have e2 : t_X4_leastOf_2 (nI w) 0 24 = (true, nI v) := by
    refine tq_br_stop (key v (Nat.le_refl _)) ?_ hv
    show b_X4_leastOf_2 (nI w) v (nI v) = _
    unfold b_X4_leastOf_2
    rw [tb_test] at h
    have h3 : w / 2 ^ v % 2 = 1 := of_decide_eq_true h
    rw [tb_bit hw hv, h3, if_neg (by decide)]
  unfold f_X4_leastOf
  rw [e2]
