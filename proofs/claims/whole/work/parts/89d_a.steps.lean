section Steps
variable {nk r ak ck md : Nat} {sv hv : Int32} {fr to : Nat → Int32} {wt : Nat → Int64} {op sm sa so : Nat → Int32} {dw dp : Nat → Int64} {by_ nu wk hm : Nat → Int32} {hw hp : Nat → Int64} {ri : Nat → Int32} {mth : Int32} {r0 r1 r2 : Int64} {re mi mm ma me mv ml : Nat → Int32} {du dh dl : Nat → Int64} {od : Nat → Int32} {ou : Nat → Int64} {a1 a2 a3 a4 : Int32}
set_option maxRecDepth 100000 in
theorem jk_5 (hn : jn nk r ak fr to op) (hr : jr ck sa so by_ ri re mi) (ht : jx hv nk r ak fr to wt ck sm sa so dw nu by_ ri md mi mm ma mv ml du od) : q_5 sv hv nk (nI r) ak fr to wt op ck sm sa so dw dp by_ nu wk hm hw hp ri nk (nI r) ak sv hv md mth r0 r1 r2 fr to wt op re mi mm ma me mv ml du dh dl od ou a1 a2 a3 a4 ∧ z_5 jI sv hv nk (nI r) ak fr to wt op ck sm sa so dw dp by_ nu wk hm hw hp ri nk (nI r) ak sv hv md mth r0 r1 r2 fr to wt op re mi mm ma me mv ml du dh dl od ou a1 a2 a3 a4 := by
  refine ⟨⟨hn.1, hr.2.2.2.2.1, hn.1, hr.2.2.2.2.2.2, trivial⟩, ?_⟩
  unfold z_5
  have e1 : f_X3_cost hv nk wt ri = f_X4_cost nk hv wt mi := by
    unfold f_X3_cost f_X4_cost
    by_cases c : hv = 0
    · rw [if_pos c, if_pos c]
    · rw [if_neg c, if_neg c]
      obtain ⟨-, t1, t2, t3, -⟩ := ((jx_ck hr.1 ht).1 c).2
      unfold f_X2_sumOfWeights
      have key : ∀ n, n ≤ nk → t_X4_cost_9 hv wt mi 0 n = (false, t_X2_sumOfWeights_4 wt ri 0 n) := by
        intro n
        induction n with
        | zero => intro _; rfl
        | succ n ih =>
          intro hi
          have b1 : t_X4_cost_9 hv wt mi 0 (n + 1) = b_X4_cost_9 hv wt mi n (t_X2_sumOfWeights_4 wt ri 0 n) := tq_br_go (ih (by omega))
          have b2 : t_X2_sumOfWeights_4 wt ri 0 (n + 1) = b_X2_sumOfWeights_4 wt ri n (t_X2_sumOfWeights_4 wt ri 0 n) := rfl
          rw [b1, b2]
          unfold b_X4_cost_9 b_X2_sumOfWeights_4
          rw [if_neg c, t1 n (by omega)]
          by_cases d : n = r
          · subst d
            rw [t3, if_pos (by decide), if_pos rfl, Int64.add_zero]
          · have g := t2 n (by omega) d
            rw [if_neg (tq_r_ne g (by have := hn.2.2.1; omega)), if_neg (by rw [g.1]; exact nI_pos (by have := g.2; have := hn.2.2.1; omega))]
      rw [key nk (Nat.le_refl _)]
  rw [if_pos (by rw [lg_cmp_eq]; exact e1)]
  exact jI_mk hn hr ht
set_option maxRecDepth 100000 in
theorem jk_6 (hn : jn nk r ak fr to op) (hr : jr ck sa so by_ ri re mi) (ht : jx hv nk r ak fr to wt ck sm sa so dw nu by_ ri md mi mm ma mv ml du od) : q_6 sv hv nk (nI r) ak fr to wt op ck sm sa so dw dp by_ nu wk hm hw hp ri nk (nI r) ak sv hv md mth r0 r1 r2 fr to wt op re mi mm ma me mv ml du dh dl od ou a1 a2 a3 a4 ∧ z_6 jI sv hv nk (nI r) ak fr to wt op ck sm sa so dw dp by_ nu wk hm hw hp ri nk (nI r) ak sv hv md mth r0 r1 r2 fr to wt op re mi mm ma me mv ml du dh dl od ou a1 a2 a3 a4 := by
  refine ⟨⟨hn.1, hn.1, trivial⟩, ?_⟩
  unfold z_6 f_X4_thrown
  rcases ag_node (n := nk) (p := a1) (by have := hn.1; omega) with ⟨e1, e2, g⟩ | ⟨e1, e2⟩
  · have x0 : x_X3_into hv nk ri a1 = none := by unfold x_X3_into; rw [e1, if_pos rfl, ite_self]
    have hL : f_L_into hv nk ri a1 ou = (0, vp_updL ou 0 ((f_X3_into hv nk ri a1).toInt64)) := by unfold f_L_into; rw [x0, if_pos rfl]
    have h4 : f_X4_into nk hv mi a1 = (f_X3_into hv nk ri a1, 0) := by
      unfold f_X4_into f_X3_into
      rw [e1, e2, if_pos rfl, if_pos rfl]
      by_cases c : hv = 0
      · rw [if_pos c, if_pos c]
      · rw [if_neg c, if_neg c, ((jx_ck hr.1 ht).1 c).2.2.1 _ g.2]
    rw [hL, h4]
    dsimp only
    exact zq rfl (fun _ => updL_eq) (jI_mk hn hr ht)
  · have x0 : x_X3_into hv nk ri a1 = some "java/lang/IndexOutOfBoundsException" := by unfold x_X3_into; rw [e1, if_neg (by simp)]
    have hL : f_L_into hv nk ri a1 ou = (1, ou) := by unfold f_L_into; rw [x0, if_neg (by simp)]
    have h4 : f_X4_into nk hv mi a1 = (0, 1) := by unfold f_X4_into; rw [e2, if_neg (by decide)]
    rw [hL, h4]
    dsimp only
    exact zq rfl (fun h => absurd h (by decide)) (jI_mk hn hr ht)
set_option maxRecDepth 100000 in
theorem jk_7 (hn : jn nk r ak fr to op) (hr : jr ck sa so by_ ri re mi) (ht : jx hv nk r ak fr to wt ck sm sa so dw nu by_ ri md mi mm ma mv ml du od) : q_7 sv hv nk (nI r) ak fr to wt op ck sm sa so dw dp by_ nu wk hm hw hp ri nk (nI r) ak sv hv md mth r0 r1 r2 fr to wt op re mi mm ma me mv ml du dh dl od ou a1 a2 a3 a4 ∧ z_7 jI sv hv nk (nI r) ak fr to wt op ck sm sa so dw dp by_ nu wk hm hw hp ri nk (nI r) ak sv hv md mth r0 r1 r2 fr to wt op re mi mm ma me mv ml du dh dl od ou a1 a2 a3 a4 := by
  obtain ⟨k1, k2, -, -⟩ := k_reach (op := op) hn.1 hn.2.1 hn.2.2.2.2.2.2.1 hn.2.2.2.2.2.1 hr.2.2.2.2.2.1
  obtain ⟨k5, -⟩ := k_agree (op := op) hn.1 hn.2.1 hn.2.2.1 hn.2.2.2.1 hn.2.2.2.2.1 hn.2.2.2.2.2.2.1 hn.2.2.2.2.2.1 hr.2.2.2.2.2.1
  refine ⟨⟨hn.1, hn.2.2.1, hn.1, hn.2.2.1, hn.2.2.2.1, hn.2.2.2.2.1, k1, k2, trivial⟩, ?_⟩
  have hre : jr ck sa so by_ ri (f_X4_reach nk (nI r) ak fr to op re).2 mi := by
    obtain ⟨g1, g2, g3, g4, g5, g6, g7⟩ := hr
    exact ⟨g1, g2, g3, g4, g5, k2, g7⟩
  unfold z_7 f_X4_thrown
  rcases ag_node (n := nk) (p := a1) (by have := hn.1; omega) with ⟨e1, e2, g⟩ | ⟨e1, e2⟩
  · have x0 : x_X3_isReached nk (nI r) ak fr to op a1 = none := by unfold x_X3_isReached; rw [e1, if_pos rfl]
    have f0 : f_X3_isReached nk (nI r) ak fr to op a1 = (f_X4_reach nk (nI r) ak fr to op re).2 (tq_x a1) := by
      have e4 := k5 (tq_x a1) g.2
      rw [← g.1] at e4
      unfold f_X3_isReached; rw [e1, if_pos rfl]; exact e4
    have hL : f_L_isReached nk (nI r) ak fr to op a1 ou = (0, vp_updL ou 0 (if (f_X4_reach nk (nI r) ak fr to op re).2 (tq_x a1) = 0 then 0 else 1)) := by
      unfold f_L_isReached; rw [x0, if_pos rfl, f0]
      by_cases c : (f_X4_reach nk (nI r) ak fr to op re).2 (tq_x a1) = 0
      · rw [if_pos c, if_pos c]
      · rw [if_neg c, if_neg c]
    have h4 : f_X4_isReached nk (nI r) ak fr to op re a1 = ((f_X4_reach nk (nI r) ak fr to op re).2 (tq_x a1), 0, (f_X4_reach nk (nI r) ak fr to op re).2) := by unfold f_X4_isReached; rw [e2, if_pos rfl]
    rw [hL, h4]
    dsimp only
    exact zb rfl (fun _ => updL_eq) (jI_mk hn hre ht)
  · have x0 : x_X3_isReached nk (nI r) ak fr to op a1 = some "java/lang/IndexOutOfBoundsException" := by unfold x_X3_isReached; rw [e1, if_neg (by simp)]
    have hL : f_L_isReached nk (nI r) ak fr to op a1 ou = (1, ou) := by unfold f_L_isReached; rw [x0, if_neg (by simp)]
    have h4 : f_X4_isReached nk (nI r) ak fr to op re a1 = (0, 1, re) := by unfold f_X4_isReached; rw [e2, if_neg (by decide)]
    rw [hL, h4]
    dsimp only
    exact zb rfl (fun h => absurd h (by decide)) (jI_mk hn hr ht)
set_option maxRecDepth 100000 in
theorem jk_8 (hn : jn nk r ak fr to op) (hr : jr ck sa so by_ ri re mi) (ht : jx hv nk r ak fr to wt ck sm sa so dw nu by_ ri md mi mm ma mv ml du od) : q_8 sv hv nk (nI r) ak fr to wt op ck sm sa so dw dp by_ nu wk hm hw hp ri nk (nI r) ak sv hv md mth r0 r1 r2 fr to wt op re mi mm ma me mv ml du dh dl od ou a1 a2 a3 a4 ∧ z_8 jI sv hv nk (nI r) ak fr to wt op ck sm sa so dw dp by_ nu wk hm hw hp ri nk (nI r) ak sv hv md mth r0 r1 r2 fr to wt op re mi mm ma me mv ml du dh dl od ou a1 a2 a3 a4 := by
  refine ⟨trivial, ?_⟩
  unfold z_8 f_X3_sets f_X4_sets
  by_cases c : hv = 0
  · rw [if_pos c, if_pos c, if_pos rfl]; exact jI_mk hn hr ht
  · have e : nI ck = nI md := by rw [((jx_ck hr.1 ht).1 c).1]
    rw [if_neg c, if_neg c, if_pos e]; exact jI_mk hn hr ht
end Steps
