section Steps
variable {nk r ak ck md : Nat} {sv hv : Int32} {fr to : Nat → Int32} {wt : Nat → Int64} {op sm sa so : Nat → Int32} {dw dp : Nat → Int64} {by_ nu wk hm : Nat → Int32} {hw hp : Nat → Int64} {ri : Nat → Int32} {mth : Int32} {r0 r1 r2 : Int64} {re mi mm ma me mv ml : Nat → Int32} {du dh dl : Nat → Int64} {od : Nat → Int32} {ou : Nat → Int64} {a1 a2 a3 a4 : Int32}
set_option maxRecDepth 100000 in
theorem jk_15 (hn : jn nk r ak fr to op) (hr : jr ck sa so by_ ri re mi) (ht : jx hv nk r ak fr to wt ck sm sa so dw nu by_ ri md mi mm ma mv ml du od) : q_15 sv hv nk (nI r) ak fr to wt op ck sm sa so dw dp by_ nu wk hm hw hp ri nk (nI r) ak sv hv md mth r0 r1 r2 fr to wt op re mi mm ma me mv ml du dh dl od ou a1 a2 a3 a4 ∧ z_15 jI sv hv nk (nI r) ak fr to wt op ck sm sa so dw dp by_ nu wk hm hw hp ri nk (nI r) ak sv hv md mth r0 r1 r2 fr to wt op re mi mm ma me mv ml du dh dl od ou a1 a2 a3 a4 := by
  obtain ⟨x1, x2, x3, x4⟩ := jx_ck hr.1 ht
  have hway : ¬ hv = 0 → ∀ x : Int32, tq_r nk x → q_dep (nI r) hv fr mi x ∧ (t_X4_depth_30 (nI r) hv fr mi (0, x) 24).2.1 = f_X2_arcsOnWayTo fr ri x := fun c x hx => by
    obtain ⟨-, t1, t2, t3, t4, -⟩ := (x1 c).2
    have h1 := cr_ways (wt := wt) hn.1 hn.2.1 c hn.2.2.1 (fun j hj => ⟨(hn.2.2.2.1 j (by have := hn.2.2.1; omega)).1, hn.2.2.2.2.2.1 j hj⟩) t1 t2 t3 hx.2 (t4 _ hx.2)
    rw [← hx.1] at h1
    exact ⟨h1.1, h1.2.2.1⟩
  have hq : ∀ x : Int32, tq_r nk x → q_dep (nI r) hv fr mi x := fun x hx => by
    by_cases c : hv = 0
    · unfold q_dep
      have h1 : t_X4_depth_30 (nI r) hv fr mi (0, x) 24 = (true, 0, x) := tq_br_stop (i := 0) rfl (by
        show b_X4_depth_30 (nI r) hv fr mi 0 0 x = _
        unfold b_X4_depth_30
        rw [if_pos c]) (by decide)
      rw [h1]
    · exact (hway c x hx).1
  refine ⟨⟨hn.1, hn.2.2.2.1, hr.2.2.2.2.1, hn.1, hn.2.2.1, fun j hj hj2 c => (x1 c).2.2.2.1 j hj (fun h => hj2 (by rw [h])), fun j hj => ⟨(hn.2.2.2.1 j (by have := hn.2.2.1; omega)).1, hn.2.2.2.2.2.1 j hj⟩, hq, trivial⟩, ?_⟩
  unfold z_15 f_X4_thrown
  rcases ag_node (n := nk) (p := a1) (by have := hn.1; omega) with ⟨e1, e2, g⟩ | ⟨e1, e2⟩
  · have x0 : x_X3_depth hv nk fr ri a1 = none := by unfold x_X3_depth; rw [e1, if_pos rfl, ite_self]
    have hL : f_L_depth hv nk fr ri a1 ou = (0, vp_updL ou 0 ((f_X3_depth hv nk fr ri a1).toInt64)) := by unfold f_L_depth; rw [x0, if_pos rfl]
    have h4 : f_X4_depth nk (nI r) hv fr mi a1 = (f_X3_depth hv nk fr ri a1, 0) := by
      unfold f_X4_depth f_X3_depth
      rw [e1, e2, if_pos rfl, if_pos rfl]
      by_cases c : hv = 0
      · rw [if_pos c, if_pos c]
      · rw [if_neg c, if_neg c, (hway c a1 g).2]
    rw [hL, h4]
    dsimp only
    exact zq rfl (fun _ => updL_eq) (jI_mk hn hr ht)
  · have x0 : x_X3_depth hv nk fr ri a1 = some "java/lang/IndexOutOfBoundsException" := by unfold x_X3_depth; rw [e1, if_neg (by simp)]
    have hL : f_L_depth hv nk fr ri a1 ou = (1, ou) := by unfold f_L_depth; rw [x0, if_neg (by simp)]
    have h4 : f_X4_depth nk (nI r) hv fr mi a1 = (0, 1) := by unfold f_X4_depth; rw [e2, if_neg (by decide)]
    rw [hL, h4]
    dsimp only
    exact zq rfl (fun h => absurd h (by decide)) (jI_mk hn hr ht)
set_option maxRecDepth 100000 in
theorem jk_16 (hn : jn nk r ak fr to op) (hr : jr ck sa so by_ ri re mi) (ht : jx hv nk r ak fr to wt ck sm sa so dw nu by_ ri md mi mm ma mv ml du od) : q_16 sv hv nk (nI r) ak fr to wt op ck sm sa so dw dp by_ nu wk hm hw hp ri nk (nI r) ak sv hv md mth r0 r1 r2 fr to wt op re mi mm ma me mv ml du dh dl od ou a1 a2 a3 a4 ∧ z_16 jI sv hv nk (nI r) ak fr to wt op ck sm sa so dw dp by_ nu wk hm hw hp ri nk (nI r) ak sv hv md mth r0 r1 r2 fr to wt op re mi mm ma me mv ml du dh dl od ou a1 a2 a3 a4 := by
  obtain ⟨x1, x2, x3, x4⟩ := jx_ck hr.1 ht
  have hway : ¬ hv = 0 → ∀ x : Int32, tq_r nk x → q_far (nI r) hv fr wt mi x ∧ (t_X4_far_31 (nI r) hv fr wt mi (0, x) 24).2.1 = f_X2_weightOfWayTo fr wt ri x := fun c x hx => by
    obtain ⟨-, t1, t2, t3, t4, -⟩ := (x1 c).2
    have h1 := cr_ways (wt := wt) hn.1 hn.2.1 c hn.2.2.1 (fun j hj => ⟨(hn.2.2.2.1 j (by have := hn.2.2.1; omega)).1, hn.2.2.2.2.2.1 j hj⟩) t1 t2 t3 hx.2 (t4 _ hx.2)
    rw [← hx.1] at h1
    exact ⟨h1.2.1, h1.2.2.2⟩
  have hq : ∀ x : Int32, tq_r nk x → q_far (nI r) hv fr wt mi x := fun x hx => by
    by_cases c : hv = 0
    · unfold q_far
      have h1 : t_X4_far_31 (nI r) hv fr wt mi (0, x) 24 = (true, 0, x) := tq_br_stop (i := 0) rfl (by
        show b_X4_far_31 (nI r) hv fr wt mi 0 0 x = _
        unfold b_X4_far_31
        rw [if_pos c]) (by decide)
      rw [h1]
    · exact (hway c x hx).1
  refine ⟨⟨hn.1, hn.2.2.2.1, hr.2.2.2.2.1, hn.1, hn.2.2.1, fun j hj hj2 c => (x1 c).2.2.2.1 j hj (fun h => hj2 (by rw [h])), fun j hj => ⟨(hn.2.2.2.1 j (by have := hn.2.2.1; omega)).1, hn.2.2.2.2.2.1 j hj⟩, hq, trivial⟩, ?_⟩
  unfold z_16 f_X4_thrown
  rcases ag_node (n := nk) (p := a1) (by have := hn.1; omega) with ⟨e1, e2, g⟩ | ⟨e1, e2⟩
  · have x0 : x_X3_far hv nk fr wt ri a1 = none := by unfold x_X3_far; rw [e1, if_pos rfl, ite_self]
    have hL : f_L_far hv nk fr wt ri a1 ou = (0, vp_updL ou 0 ((f_X3_far hv nk fr wt ri a1))) := by unfold f_L_far; rw [x0, if_pos rfl]
    have h4 : f_X4_far nk (nI r) hv fr wt mi a1 = (f_X3_far hv nk fr wt ri a1, 0) := by
      unfold f_X4_far f_X3_far
      rw [e1, e2, if_pos rfl, if_pos rfl]
      by_cases c : hv = 0
      · rw [if_pos c, if_pos c]
      · rw [if_neg c, if_neg c, (hway c a1 g).2]
    rw [hL, h4]
    dsimp only
    exact zq rfl (fun _ => updL_eq) (jI_mk hn hr ht)
  · have x0 : x_X3_far hv nk fr wt ri a1 = some "java/lang/IndexOutOfBoundsException" := by unfold x_X3_far; rw [e1, if_neg (by simp)]
    have hL : f_L_far hv nk fr wt ri a1 ou = (1, ou) := by unfold f_L_far; rw [x0, if_neg (by simp)]
    have h4 : f_X4_far nk (nI r) hv fr wt mi a1 = (0, 1) := by unfold f_X4_far; rw [e2, if_neg (by decide)]
    rw [hL, h4]
    dsimp only
    exact zq rfl (fun h => absurd h (by decide)) (jI_mk hn hr ht)
end Steps
