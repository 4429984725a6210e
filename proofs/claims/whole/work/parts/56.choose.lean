/-! The class's choice of an arc. -/
theorem fi_bmod {x : Int} (h1 : -9223372036854775808 ≤ x) (h2 : x < 9223372036854775808) : x.bmod (2 ^ 64) = x := by
  rw [Int.bmod_def]
  have e1 : ((2 ^ 64 : Nat) : Int) = 18446744073709551616 := by decide
  rw [e1]
  split <;> omega
theorem fi_sub {x y : Int64} (h1 : -9223372036854775808 ≤ x.toInt - y.toInt) (h2 : x.toInt - y.toInt < 9223372036854775808) : (x - y).toInt = x.toInt - y.toInt := by
  rw [Int64.toInt_sub]; exact fi_bmod h1 h2
theorem fi_add {x y : Int64} (h1 : -9223372036854775808 ≤ x.toInt + y.toInt) (h2 : x.toInt + y.toInt < 9223372036854775808) : (x + y).toInt = x.toInt + y.toInt := by
  rw [Int64.toInt_add]; exact fi_bmod h1 h2
theorem fi_pow : ∀ i, i < 60 → ((1 : Int64) <<< ((nI i : Int32).toInt64 &&& 63)).toInt = 2 ^ i ∧ (2 : Int) ^ i < 2 ^ 60 ∧ 0 < (2 : Int) ^ i := by decide +kernel
theorem fb_enters {fr to : Nat → Int32} {i w : Nat} (hw : w < 2 ^ 24) (hf : tq_r 24 (fr i)) (ht : tq_r 24 (to i)) : f_X1_enters fr to i (nI w) = 0 ↔ ¬ (w.testBit (tq_x (to i)) = true ∧ w.testBit (tq_x (fr i)) = false) := by
  unfold f_X1_enters
  have e1 := fb_holds0 hw ht
  have e2 := fb_holds0 hw hf
  rcases h1 : w.testBit (tq_x (to i)) with _ | _
  · rw [if_pos (e1.mpr h1)]
    exact ⟨fun _ h => Bool.false_ne_true h.1, fun _ => rfl⟩
  · rw [if_neg (fun h => by rw [e1, h1] at h; exact Bool.false_ne_true h.symm)]
    rcases h2 : w.testBit (tq_x (fr i)) with _ | _
    · rw [if_pos (e2.mpr h2)]
      exact ⟨fun h => absurd h (by decide), fun h => absurd ⟨rfl, rfl⟩ h⟩
    · rw [if_neg (fun h => by rw [e2, h2] at h; exact Bool.false_ne_true h.symm)]
      exact ⟨fun _ h => Bool.false_ne_true h.2.symm, fun _ => rfl⟩
theorem k_cb {fr to : Nat → Int32} {wt : Nat → Int64} {op sm : Nat → Int32} {hw hp : Nat → Int64} {k i : Nat} {best : Int32} {bw bp : Int64} :
    b_X0_chooseArc_10 fr to wt op sm hw hp k i best bw bp = if op i = 0 then (best, bw, bp) else if f_X1_enters fr to i (sm k) = 0 then (best, bw, bp) else
      if best = -1 ∨ (wt i - hw (tq_x (to i)) < bw ∨ (wt i - hw (tq_x (to i)) = bw ∧ ((1 : Int64) <<< (((nI i) : Int32).toInt64 &&& 63)) - hp (tq_x (to i)) < bp)) then (nI i, wt i - hw (tq_x (to i)), ((1 : Int64) <<< (((nI i) : Int32).toInt64 &&& 63)) - hp (tq_x (to i))) else (best, bw, bp) := by
  unfold b_X0_chooseArc_10
  simp only [lg_cmp_lt, lg_cmp_eq, lg_cmp_ge]
  generalize wt i - hw (tq_x (to i)) = RW
  generalize ((1 : Int64) <<< (((nI i) : Int32).toInt64 &&& 63)) - hp (tq_x (to i)) = RP
  by_cases a1 : op i = 0
  · rw [if_pos a1, if_pos a1]
  · rw [if_neg a1, if_neg a1]
    by_cases a2 : f_X1_enters fr to i (sm k) = 0
    · rw [if_pos a2, if_pos a2]
    · rw [if_neg a2, if_neg a2]
      by_cases h1 : RW < bw
      · rw [if_pos h1, if_pos (Or.inr (Or.inl h1))]
        split <;> rfl
      · rw [if_neg h1]
        by_cases h2 : RW = bw
        · rw [if_pos h2]
          by_cases h3 : bp ≤ RP
          · rw [if_pos h3]
            by_cases h4 : best = -1
            · rw [if_pos h4, if_pos (Or.inl h4)]
            · rw [if_neg h4, if_neg (fun h => by
                rcases h with h | h | h
                · exact h4 h
                · exact h1 h
                · exact Int64.not_le.mpr h.2 h3)]
          · rw [if_neg h3, if_pos (Or.inr (Or.inr ⟨h2, Int64.not_le.mp h3⟩))]
            split <;> rfl
        · rw [if_neg h2]
          by_cases h4 : best = -1
          · rw [if_pos h4, if_pos (Or.inl h4)]
          · rw [if_neg h4, if_neg (fun h => by
              rcases h with h | h | h
              · exact h4 h
              · exact h1 h
              · exact h2 h.1)]
theorem fk_iff {a b : Int64} {p q : Int64} {x y : Int64 × Int} (hx : x = (a, p.toInt)) (hy : y = (b, q.toInt)) : fk_lt x y ↔ (a < b ∨ (a = b ∧ p < q)) := by
  rw [hx, hy]
  unfold fk_lt
  rw [Int64.lt_iff_toInt_lt, Int64.lt_iff_toInt_lt, Int64.toInt_inj]
/-- the class takes the first of the least -/
theorem k_choose {ak : Nat} {fr to : Nat → Int32} {wt : Nat → Int64} {op sm : Nat → Int32} {hw hp : Nat → Int64} {k w : Nat} (hak : ak ≤ 60) (hfr : ∀ j, j < 60 → tq_r 24 (fr j)) (hto : ∀ j, j < 60 → tq_r 24 (to j)) (hw24 : w < 2 ^ 24) (hsm : sm k = nI w) (hpow : ∀ v, v < 24 → -(2 : Int) ^ 60 < (hp v).toInt ∧ (hp v).toInt < 2 ^ 60) : ∀ i, i ≤ ak →
    ((t_X0_chooseArc_10 fr to wt op sm hw hp k ((-1), 0, 0) i).1 = -1 ∧ ∀ j, j < i → ¬ ((¬ op j = 0) ∧ w.testBit (tq_x (to j)) = true ∧ w.testBit (tq_x (fr j)) = false)) ∨
    ∃ b, (t_X0_chooseArc_10 fr to wt op sm hw hp k ((-1), 0, 0) i).1 = nI b ∧ fk_min (fun j => (¬ op j = 0) ∧ w.testBit (tq_x (to j)) = true ∧ w.testBit (tq_x (fr j)) = false) (fun j => (wt j - hw (tq_x (to j)), 2 ^ j - (hp (tq_x (to j))).toInt)) i b ∧
      (wt b - hw (tq_x (to b)), 2 ^ b - (hp (tq_x (to b))).toInt) = ((t_X0_chooseArc_10 fr to wt op sm hw hp k ((-1), 0, 0) i).2.1, (t_X0_chooseArc_10 fr to wt op sm hw hp k ((-1), 0, 0) i).2.2.toInt) := by
  unfold t_X0_chooseArc_10
  refine tq_it_inv (N := ak) (fun i (x : Int32 × Int64 × Int64) => (x.1 = -1 ∧ ∀ j, j < i → ¬ ((¬ op j = 0) ∧ w.testBit (tq_x (to j)) = true ∧ w.testBit (tq_x (fr j)) = false)) ∨ ∃ b, x.1 = nI b ∧ fk_min (fun j => (¬ op j = 0) ∧ w.testBit (tq_x (to j)) = true ∧ w.testBit (tq_x (fr j)) = false) (fun j => (wt j - hw (tq_x (to j)), 2 ^ j - (hp (tq_x (to j))).toInt)) i b ∧ (wt b - hw (tq_x (to b)), 2 ^ b - (hp (tq_x (to b))).toInt) = (x.2.1, x.2.2.toInt)) (Or.inl ⟨rfl, fun j hj => absurd hj (by omega)⟩) (fun i x hi h => ?_)
  obtain ⟨best, bw, bp⟩ := x
  have hen := fb_enters hw24 (hfr i (by omega)) (hto i (by omega))
  have hRP : (((1 : Int64) <<< (((nI i) : Int32).toInt64 &&& 63)) - hp (tq_x (to i))).toInt = 2 ^ i - (hp (tq_x (to i))).toInt := by
    obtain ⟨e1, e2, e3⟩ := fi_pow i (by omega)
    obtain ⟨g1, g2⟩ := hpow _ (hto i (by omega)).2
    rw [fi_sub (by rw [e1]; omega) (by rw [e1]; omega), e1]
  have skip : ¬ ((¬ op i = 0) ∧ w.testBit (tq_x (to i)) = true ∧ w.testBit (tq_x (fr i)) = false) → ((best = -1 ∧ ∀ j, j < i + 1 → ¬ ((¬ op j = 0) ∧ w.testBit (tq_x (to j)) = true ∧ w.testBit (tq_x (fr j)) = false)) ∨ ∃ b, best = nI b ∧ fk_min (fun j => (¬ op j = 0) ∧ w.testBit (tq_x (to j)) = true ∧ w.testBit (tq_x (fr j)) = false) (fun j => (wt j - hw (tq_x (to j)), 2 ^ j - (hp (tq_x (to j))).toInt)) (i + 1) b ∧ (wt b - hw (tq_x (to b)), 2 ^ b - (hp (tq_x (to b))).toInt) = (bw, bp.toInt)) := fun hn => by
    rcases h with ⟨h1, h2⟩ | ⟨b, h1, h2, h3⟩
    · refine Or.inl ⟨h1, fun j hj => ?_⟩
      by_cases c1 : j = i
      · rw [c1]; exact hn
      · exact h2 j (by omega)
    · exact Or.inr ⟨b, h1, fk_skip h2 (fun h => absurd h hn), h3⟩
  show ((b_X0_chooseArc_10 fr to wt op sm hw hp k i best bw bp).1 = -1 ∧ _) ∨ ∃ b, (b_X0_chooseArc_10 fr to wt op sm hw hp k i best bw bp).1 = nI b ∧ _ ∧ _ = ((b_X0_chooseArc_10 fr to wt op sm hw hp k i best bw bp).2.1, (b_X0_chooseArc_10 fr to wt op sm hw hp k i best bw bp).2.2.toInt)
  rw [k_cb, hsm]
  by_cases c1 : op i = 0
  · rw [if_pos c1]; exact skip (fun h => h.1 c1)
  · rw [if_neg c1]
    by_cases c2 : f_X1_enters fr to i (nI w) = 0
    · rw [if_pos c2]; exact skip (fun h => hen.mp c2 h.2)
    · rw [if_neg c2]
      have hei : (¬ op i = 0) ∧ w.testBit (tq_x (to i)) = true ∧ w.testBit (tq_x (fr i)) = false := ⟨c1, Classical.not_not.mp (fun h => c2 (hen.mpr h))⟩
      rcases h with ⟨h1, h2⟩ | ⟨b, h1, h2, h3⟩
      · have h1 : best = -1 := h1
        rw [if_pos (Or.inl h1)]
        exact Or.inr ⟨i, rfl, fk_first h2 hei, by show _ = (wt i - hw (tq_x (to i)), (((1 : Int64) <<< (((nI i) : Int32).toInt64 &&& 63)) - hp (tq_x (to i))).toInt); rw [hRP]⟩
      · have h1 : best = nI b := h1
        have hne : ¬ best = -1 := by
          have h4 := h2.2.1
          rw [h1]
          exact tq_r_ne (n := 60) (tq_r_nI (by omega) (by decide)) (by decide)
        have hlt := fk_iff (a := wt i - hw (tq_x (to i))) (b := bw) (p := ((1 : Int64) <<< (((nI i) : Int32).toInt64 &&& 63)) - hp (tq_x (to i))) (q := bp) (x := (wt i - hw (tq_x (to i)), 2 ^ i - (hp (tq_x (to i))).toInt)) (y := (wt b - hw (tq_x (to b)), 2 ^ b - (hp (tq_x (to b))).toInt)) (by rw [hRP]) h3
        by_cases c3 : best = -1 ∨ (wt i - hw (tq_x (to i)) < bw ∨ (wt i - hw (tq_x (to i)) = bw ∧ ((1 : Int64) <<< (((nI i) : Int32).toInt64 &&& 63)) - hp (tq_x (to i)) < bp))
        · rw [if_pos c3]
          exact Or.inr ⟨i, rfl, fk_take h2 hei (hlt.mpr (c3.resolve_left hne)), by show _ = (wt i - hw (tq_x (to i)), (((1 : Int64) <<< (((nI i) : Int32).toInt64 &&& 63)) - hp (tq_x (to i))).toInt); rw [hRP]⟩
        · rw [if_neg c3]
          exact Or.inr ⟨b, h1, fk_skip h2 (fun _ h4 => c3 (Or.inr (hlt.mp h4))), h3⟩
