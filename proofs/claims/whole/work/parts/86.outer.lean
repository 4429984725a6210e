/-! The range of the class's row `outer`, over all places. -/
theorem k_addSetO {nk ak ck : Nat} {fr to : Nat → Int32} {wt : Nat → Int64} {op sm sa so : Nat → Int32} {dw dp : Nat → Int64} {wk hm : Nat → Int32} {hw hp : Nat → Int64} {p0 : Int32} (hck : ck ≤ 45) (hso : ∀ j, j < 45 → so j = -1 ∨ tq_r 45 (so j)) :
    (f_X0_addSet nk ak ck fr to wt op sm sa so dw dp wk hm hw hp p0).2.1 ≤ 45 ∧ (∀ j, j < 45 → (f_X0_addSet nk ak ck fr to wt op sm sa so dw dp wk hm hw hp p0).2.2.2.2.1 j = -1 ∨ tq_r 45 ((f_X0_addSet nk ak ck fr to wt op sm sa so dw dp wk hm hw hp p0).2.2.2.2.1 j)) := by
  unfold f_X0_addSet
  split
  · rename_i hc
    have hk : ck < 45 := (nI_ltI (by omega) (by decide)).mp hc
    refine ⟨hk, ?_⟩
    intro j hj
    dsimp only
    by_cases c : j = ck
    · subst c; rw [upd_eq]; exact Or.inl rfl
    · rw [upd_ne c, k_parts]
      split
      · exact Or.inr (tq_r_nI hk (by decide))
      · exact hso j hj
  · exact ⟨hck, hso⟩
theorem k_walkO {nk ak ck : Nat} {fr to : Nat → Int32} {wt : Nat → Int64} {op sm sa so : Nat → Int32} {dw dp : Nat → Int64} {wk hm : Nat → Int32} {hw hp : Nat → Int64} {v : Nat} (hck : ck ≤ 45) (hso : ∀ j, j < 45 → so j = -1 ∨ tq_r 45 (so j)) :
    (f_X0_walkBackFrom nk ak ck fr to wt op sm sa so dw dp wk hm hw hp v).1 ≤ 45 ∧ (∀ j, j < 45 → (f_X0_walkBackFrom nk ak ck fr to wt op sm sa so dw dp wk hm hw hp v).2.2.2.1 j = -1 ∨ tq_r 45 ((f_X0_walkBackFrom nk ak ck fr to wt op sm sa so dw dp wk hm hw hp v).2.2.2.1 j)) := by
  have h1 := tq_br_inv (N := 90) (f := fun i x_ => b_X0_walkBackFrom_9 nk ak fr to wt op v i x_.1 x_.2.1 x_.2.2.1 x_.2.2.2.1 x_.2.2.2.2.1 x_.2.2.2.2.2.1 x_.2.2.2.2.2.2.1 x_.2.2.2.2.2.2.2.1 x_.2.2.2.2.2.2.2.2.1 x_.2.2.2.2.2.2.2.2.2.1 x_.2.2.2.2.2.2.2.2.2.2) (s0 := (hm v, ck, sm, sa, so, dw, dp, wk, hm, hw, hp))
    (fun x => x.2.1 ≤ 45 ∧ (∀ j, j < 45 → x.2.2.2.2.1 j = -1 ∨ tq_r 45 (x.2.2.2.2.1 j))) ⟨hck, hso⟩ (fun i x hi h => by
      try dsimp only
      unfold b_X0_walkBackFrom_9
      split
      · exact h
      · split
        · exact h
        · split
          · exact k_addSetO h.1 h.2
          · exact h)
  have key : ∀ n, n ≤ 90 → (t_X0_walkBackFrom_9 nk ak fr to wt op v (hm v, ck, sm, sa, so, dw, dp, wk, hm, hw, hp) n).2.2.1 ≤ 45 ∧ (∀ j, j < 45 → (t_X0_walkBackFrom_9 nk ak fr to wt op v (hm v, ck, sm, sa, so, dw, dp, wk, hm, hw, hp) n).2.2.2.2.2.1 j = -1 ∨ tq_r 45 ((t_X0_walkBackFrom_9 nk ak fr to wt op v (hm v, ck, sm, sa, so, dw, dp, wk, hm, hw, hp) n).2.2.2.2.2.1 j)) := fun n hn => h1 n hn
  have key := key 90 (Nat.le_refl _)
  revert key
  unfold f_X0_walkBackFrom
  generalize t_X0_walkBackFrom_9 nk ak fr to wt op v (hm v, ck, sm, sa, so, dw, dp, wk, hm, hw, hp) 90 = z
  exact fun key => key
theorem k_growO {nk : Nat} {rt : Int32} {ak : Nat} {fr to : Nat → Int32} {wt : Nat → Int64} {op sm sa so : Nat → Int32} {dw dp : Nat → Int64} {wk hm : Nat → Int32} {hw hp : Nat → Int64} {nu by_ : Nat → Int32} (hso : ∀ j, j < 45 → so j = -1 ∨ tq_r 45 (so j)) :
    ∀ j, j < 45 → (f_X0_grow nk rt ak fr to wt op sm sa so dw dp wk hm hw hp nu by_).2.2.2.1 j = -1 ∨ tq_r 45 ((f_X0_grow nk rt ak fr to wt op sm sa so dw dp wk hm hw hp nu by_).2.2.2.1 j) := by
  have h1 : ∀ n, n ≤ nk → (t_X0_grow_31 nk rt ak fr to wt op (0, sm, sa, so, dw, dp, wk, f_J7_fill_53178 hm 24 (-1), f_J7_fill_d0a16 hw 24 0, f_J7_fill_d0a16 hp 24 0) n).1 ≤ 45 ∧ (∀ j, j < 45 → (t_X0_grow_31 nk rt ak fr to wt op (0, sm, sa, so, dw, dp, wk, f_J7_fill_53178 hm 24 (-1), f_J7_fill_d0a16 hw 24 0, f_J7_fill_d0a16 hp 24 0) n).2.2.2.1 j = -1 ∨ tq_r 45 ((t_X0_grow_31 nk rt ak fr to wt op (0, sm, sa, so, dw, dp, wk, f_J7_fill_53178 hm 24 (-1), f_J7_fill_d0a16 hw 24 0, f_J7_fill_d0a16 hp 24 0) n).2.2.2.1 j)) := by
    unfold t_X0_grow_31
    refine tq_it_inv (N := nk) (fun _ (x : Nat × (Nat → Int32) × (Nat → Int32) × (Nat → Int32) × (Nat → Int64) × (Nat → Int64) × (Nat → Int32) × (Nat → Int32) × (Nat → Int64) × (Nat → Int64)) => x.1 ≤ 45 ∧ (∀ j, j < 45 → x.2.2.2.1 j = -1 ∨ tq_r 45 (x.2.2.2.1 j))) ⟨Nat.zero_le _, hso⟩ (fun i x hi h => ?_)
    try dsimp only
    unfold b_X0_grow_31
    split
    · exact h
    · exact k_addSetO h.1 h.2
  have h1 := h1 nk (Nat.le_refl _)
  have h2 : ∀ (y : Nat × (Nat → Int32) × (Nat → Int32) × (Nat → Int32) × (Nat → Int64) × (Nat → Int64) × (Nat → Int32) × (Nat → Int32) × (Nat → Int64) × (Nat → Int64)), (y.1 ≤ 45 ∧ (∀ j, j < 45 → y.2.2.2.1 j = -1 ∨ tq_r 45 (y.2.2.2.1 j))) → ∀ n, n ≤ nk → (t_X0_grow_69 nk ak fr to wt op y n).1 ≤ 45 ∧ (∀ j, j < 45 → (t_X0_grow_69 nk ak fr to wt op y n).2.2.2.1 j = -1 ∨ tq_r 45 ((t_X0_grow_69 nk ak fr to wt op y n).2.2.2.1 j)) := by
    intro y hy
    unfold t_X0_grow_69
    refine tq_it_inv (N := nk) (fun _ (x : Nat × (Nat → Int32) × (Nat → Int32) × (Nat → Int32) × (Nat → Int64) × (Nat → Int64) × (Nat → Int32) × (Nat → Int32) × (Nat → Int64) × (Nat → Int64)) => x.1 ≤ 45 ∧ (∀ j, j < 45 → x.2.2.2.1 j = -1 ∨ tq_r 45 (x.2.2.2.1 j))) hy (fun i x hi h => ?_)
    try dsimp only
    unfold b_X0_grow_69
    have h9 := k_walkO (nk := nk) (ak := ak) (ck := x.1) (fr := fr) (to := to) (wt := wt) (op := op) (sm := x.2.1) (sa := x.2.2.1) (so := x.2.2.2.1) (dw := x.2.2.2.2.1) (dp := x.2.2.2.2.2.1) (wk := x.2.2.2.2.2.2.1) (hm := x.2.2.2.2.2.2.2.1) (hw := x.2.2.2.2.2.2.2.2.1) (hp := x.2.2.2.2.2.2.2.2.2) (v := i) h.1 h.2
    revert h9
    generalize f_X0_walkBackFrom nk ak x.1 fr to wt op x.2.1 x.2.2.1 x.2.2.2.1 x.2.2.2.2.1 x.2.2.2.2.2.1 x.2.2.2.2.2.2.1 x.2.2.2.2.2.2.2.1 x.2.2.2.2.2.2.2.2.1 x.2.2.2.2.2.2.2.2.2 i = z
    exact fun h9 => h9
  unfold f_X0_grow
  revert h1
  generalize t_X0_grow_31 nk rt ak fr to wt op (0, sm, sa, so, dw, dp, wk, f_J7_fill_53178 hm 24 (-1), f_J7_fill_d0a16 hw 24 0, f_J7_fill_d0a16 hp 24 0) nk = y
  intro h1
  have h3 := h2 y h1 nk (Nat.le_refl _)
  exact h3.2
