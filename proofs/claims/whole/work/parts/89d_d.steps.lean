section Steps
variable {nk r ak ck md : Nat} {sv hv : Int32} {fr to : Nat → Int32} {wt : Nat → Int64} {op sm sa so : Nat → Int32} {dw dp : Nat → Int64} {by_ nu wk hm : Nat → Int32} {hw hp : Nat → Int64} {ri : Nat → Int32} {mth : Int32} {r0 r1 r2 : Int64} {re mi mm ma me mv ml : Nat → Int32} {du dh dl : Nat → Int64} {od : Nat → Int32} {ou : Nat → Int64} {a1 a2 a3 a4 : Int32}
set_option maxRecDepth 100000 in
theorem jk_9 (hn : jn nk r ak fr to op) (hr : jr ck sa so by_ ri re mi) (ht : jx hv nk r ak fr to wt ck sm sa so dw nu by_ ri md mi mm ma mv ml du od) : q_9 sv hv nk (nI r) ak fr to wt op ck sm sa so dw dp by_ nu wk hm hw hp ri nk (nI r) ak sv hv md mth r0 r1 r2 fr to wt op re mi mm ma me mv ml du dh dl od ou a1 a2 a3 a4 ∧ z_9 jI sv hv nk (nI r) ak fr to wt op ck sm sa so dw dp by_ nu wk hm hw hp ri nk (nI r) ak sv hv md mth r0 r1 r2 fr to wt op re mi mm ma me mv ml du dh dl od ou a1 a2 a3 a4 := by
  obtain ⟨x1, x2, x3, x4⟩ := jx_ck hr.1 ht
  have ht0 := ht
  refine ⟨⟨hr.1, hr.2.2.2.1, hr.2.2.1, by omega, x3, x4, trivial⟩, ?_⟩
  unfold z_9 f_X4_thrown
  rcases ag_set (hv := hv) (c := ck) (d := md) (p := a1) (by have := hr.1; omega) (fun h => (x1 h).1) with ⟨e1, e2, g, c⟩ | ⟨e1, e2⟩
  · obtain ⟨-, ht⟩ := x1 c
    obtain ⟨q1, s1, s2, s3, s4⟩ := ht.2.2.2.2.2.2.1 (tq_x a1) g.2
    rcases ag_4 a2 with h | h | h | h | h
    · subst h
      have x0 : x_X3_set hv ck sm sa so nu by_ a1 0 = none := by unfold x_X3_set; rw [e1, if_pos rfl, if_pos rfl]
      have f0 : f_X3_set hv ck sm sa so nu by_ a1 0 = f_J6_bitCount_0f7a4 (sm (tq_x (by_ (tq_x a1)))) := by unfold f_X3_set; rw [e1, if_pos rfl, if_pos rfl]
      have hL : f_L_set hv ck sm sa so nu by_ a1 0 ou = (0, vp_updL ou 0 ((f_J6_bitCount_0f7a4 (sm (tq_x (by_ (tq_x a1))))).toInt64)) := by unfold f_L_set; rw [x0, if_pos rfl, f0]
      have h4 : f_X4_set hv md mm ma mv ml od a1 0 = (f_X4_bits (mm (tq_x (od (tq_x a1)))), 0) := by unfold f_X4_set; rw [e2, if_pos rfl, if_neg (by decide), if_pos (by decide), if_pos rfl]
      rw [hL, h4]
      dsimp only
      exact zq rfl (fun _ => by rw [updL_eq, s1, q1.1, tb_bitCount q1.2, k_bits q1.2]) (jI_mk hn hr ht0)
    · subst h
      have x0 : x_X3_set hv ck sm sa so nu by_ a1 1 = none := by unfold x_X3_set; rw [e1, if_pos rfl, if_neg (by decide), if_pos rfl]
      have f0 : f_X3_set hv ck sm sa so nu by_ a1 1 = sa (tq_x (by_ (tq_x a1))) := by unfold f_X3_set; rw [e1, if_pos rfl, if_neg (by decide), if_pos rfl]
      have hL : f_L_set hv ck sm sa so nu by_ a1 1 ou = (0, vp_updL ou 0 ((sa (tq_x (by_ (tq_x a1)))).toInt64)) := by unfold f_L_set; rw [x0, if_pos rfl, f0]
      have h4 : f_X4_set hv md mm ma mv ml od a1 1 = (ma (tq_x (od (tq_x a1))), 0) := by unfold f_X4_set; rw [e2, if_pos rfl, if_neg (by decide), if_pos (by decide), if_neg (by decide), if_pos rfl]
      rw [hL, h4]
      dsimp only
      exact zq rfl (fun _ => by rw [updL_eq, s2]) (jI_mk hn hr ht0)
    · subst h
      have x0 : x_X3_set hv ck sm sa so nu by_ a1 2 = none := by unfold x_X3_set; rw [e1, if_pos rfl, if_neg (by decide), if_neg (by decide), if_pos rfl, ite_self]
      have f0 : f_X3_set hv ck sm sa so nu by_ a1 2 = (if so (tq_x (by_ (tq_x a1))) = -1 then f_X3_asNumber 1 else f_X3_asNumber 0) := by unfold f_X3_set; rw [e1, if_pos rfl, if_neg (by decide), if_neg (by decide), if_pos rfl]
      have hL : f_L_set hv ck sm sa so nu by_ a1 2 ou = (0, vp_updL ou 0 (((if so (tq_x (by_ (tq_x a1))) = -1 then f_X3_asNumber 1 else f_X3_asNumber 0) : Int32).toInt64)) := by unfold f_L_set; rw [x0, if_pos rfl, f0]
      have h4 : f_X4_set hv md mm ma mv ml od a1 2 = (if ml (tq_x (od (tq_x a1))) = 0 then (0, 0) else (1, 0)) := by unfold f_X4_set; rw [e2, if_pos rfl, if_neg (by decide), if_pos (by decide), if_neg (by decide), if_neg (by decide), if_pos rfl]
      rcases s4 with ⟨y1, y2, y3⟩ | ⟨y1, y2, -⟩
      · rw [if_pos y1] at hL
        rw [y2, if_neg (by decide)] at h4
        rw [hL, h4]
        dsimp only
        exact zq rfl (fun _ => by rw [updL_eq]; rfl) (jI_mk hn hr ht0)
      · rw [if_neg y1] at hL
        rw [y2, if_pos rfl] at h4
        rw [hL, h4]
        dsimp only
        exact zq rfl (fun _ => by rw [updL_eq]; rfl) (jI_mk hn hr ht0)
    · subst h
      have x0 : x_X3_set hv ck sm sa so nu by_ a1 3 = none := by unfold x_X3_set; rw [e1, if_pos rfl, if_neg (by decide), if_neg (by decide), if_neg (by decide), if_pos rfl]
      have f0 : f_X3_set hv ck sm sa so nu by_ a1 3 = f_X0_numberOfOuter so nu (by_ (tq_x a1)) := by unfold f_X3_set; rw [e1, if_pos rfl, if_neg (by decide), if_neg (by decide), if_neg (by decide), if_pos rfl]
      have hL : f_L_set hv ck sm sa so nu by_ a1 3 ou = (0, vp_updL ou 0 ((f_X0_numberOfOuter so nu (by_ (tq_x a1))).toInt64)) := by unfold f_L_set; rw [x0, if_pos rfl, f0]
      have h4 : f_X4_set hv md mm ma mv ml od a1 3 = (if 0 ≤ mv (tq_x (od (tq_x a1))) then (f_X4_numberOf od (mv (tq_x (od (tq_x a1)))), 0) else (-1, 0)) := by unfold f_X4_set; rw [e2, if_pos rfl, if_neg (by decide), if_pos (by decide), if_neg (by decide), if_neg (by decide), if_neg (by decide)]
      rcases s4 with ⟨y1, y2, y3⟩ | ⟨y1, y2, n, y3, y4, y5, y6⟩
      · rw [y3, if_neg (by decide)] at h4
        rw [hL, h4]
        dsimp only
        exact zq rfl (fun _ => by
          rw [updL_eq]
          unfold f_X0_numberOfOuter
          rw [if_pos y1]) (jI_mk hn hr ht0)
      · rw [if_pos (Int32.not_lt.mp y4), y6] at h4
        rw [hL, h4, y3]
        dsimp only
        exact zq rfl (fun _ => updL_eq) (jI_mk hn hr ht0)
    · obtain ⟨o1, o2, o3, o4⟩ := ag_out3 h
      have x0 : x_X3_set hv ck sm sa so nu by_ a1 a2 = some "java/lang/IndexOutOfBoundsException" := by unfold x_X3_set; rw [e1, if_pos rfl, if_neg o1, if_neg o2, if_neg o3, if_neg o4]
      have hL : f_L_set hv ck sm sa so nu by_ a1 a2 ou = (1, ou) := by unfold f_L_set; rw [x0, if_neg (by simp)]
      have h4 : f_X4_set hv md mm ma mv ml od a1 a2 = (0, 1) := by
        unfold f_X4_set; rw [e2, if_pos rfl]
        by_cases d : a2 < 0
        · rw [if_pos d]
        · rw [if_neg d, if_neg (h.resolve_left d)]
      rw [hL, h4]
      dsimp only
      exact zq rfl (fun h => absurd h (by decide)) (jI_mk hn hr ht0)
  · have x0 : x_X3_set hv ck sm sa so nu by_ a1 a2 = some "java/lang/IndexOutOfBoundsException" := by unfold x_X3_set; rw [e1, if_neg (by simp)]
    have hL : f_L_set hv ck sm sa so nu by_ a1 a2 ou = (1, ou) := by unfold f_L_set; rw [x0, if_neg (by simp)]
    have h4 : f_X4_set hv md mm ma mv ml od a1 a2 = (0, 1) := by unfold f_X4_set; rw [e2, if_neg (by decide)]
    rw [hL, h4]
    dsimp only
    exact zq rfl (fun h => absurd h (by decide)) (jI_mk hn hr ht)
set_option maxRecDepth 100000 in
theorem jk_10 (hn : jn nk r ak fr to op) (hr : jr ck sa so by_ ri re mi) (ht : jx hv nk r ak fr to wt ck sm sa so dw nu by_ ri md mi mm ma mv ml du od) : q_10 sv hv nk (nI r) ak fr to wt op ck sm sa so dw dp by_ nu wk hm hw hp ri nk (nI r) ak sv hv md mth r0 r1 r2 fr to wt op re mi mm ma me mv ml du dh dl od ou a1 a2 a3 a4 ∧ z_10 jI sv hv nk (nI r) ak fr to wt op ck sm sa so dw dp by_ nu wk hm hw hp ri nk (nI r) ak sv hv md mth r0 r1 r2 fr to wt op re mi mm ma me mv ml du dh dl od ou a1 a2 a3 a4 := by
  obtain ⟨x1, x2, x3, x4⟩ := jx_ck hr.1 ht
  refine ⟨⟨hr.1, hr.2.2.2.1, hn.1, by omega, x3, trivial⟩, ?_⟩
  unfold z_10 f_X4_thrown
  rcases ag_set (hv := hv) (c := ck) (d := md) (p := a1) (by have := hr.1; omega) (fun h => (x1 h).1) with ⟨e1, e2, g, c⟩ | ⟨e1, e2⟩
  · rcases ag_node (n := nk) (p := a2) (by have := hn.1; omega) with ⟨e3, e4, g2⟩ | ⟨e3, e4⟩
    · obtain ⟨-, ht1⟩ := x1 c
      obtain ⟨q1, s1, s2, s3, s4⟩ := ht1.2.2.2.2.2.2.1 (tq_x a1) g.2
      have e5 : f_X4_has mm (tq_x (od (tq_x a1))) a2 = f_X3_holds (sm (tq_x (by_ (tq_x a1)))) a2 := by rw [s1]; rfl
      have x0 : x_X3_isIn hv (nI nk) ck sm by_ a1 a2 = none := by unfold x_X3_isIn; rw [e1, if_pos rfl, e3, if_pos rfl]
      have f0 : f_X3_isIn hv (nI nk) ck sm by_ a1 a2 = f_X3_holds (sm (tq_x (by_ (tq_x a1)))) a2 := by unfold f_X3_isIn; rw [e1, if_pos rfl, e3, if_pos rfl]
      have hL : f_L_isIn hv (nI nk) ck sm by_ a1 a2 ou = (if f_X3_holds (sm (tq_x (by_ (tq_x a1)))) a2 = 0 then (0, vp_updL ou 0 0) else (0, vp_updL ou 0 1)) := by unfold f_L_isIn; rw [x0, if_pos rfl, f0]
      have h4 : f_X4_isIn nk hv md mm od a1 a2 = (if f_X3_holds (sm (tq_x (by_ (tq_x a1)))) a2 = 0 then (0, 0) else (1, 0)) := by unfold f_X4_isIn; rw [e2, if_pos rfl, e4, if_pos rfl, e5]
      by_cases d : f_X3_holds (sm (tq_x (by_ (tq_x a1)))) a2 = 0
      · rw [if_pos d] at hL h4
        rw [hL, h4]
        dsimp only
        exact zb rfl (fun _ => updL_eq) (jI_mk hn hr ht)
      · rw [if_neg d] at hL h4
        rw [hL, h4]
        dsimp only
        exact zb rfl (fun _ => updL_eq) (jI_mk hn hr ht)
    · have x0 : x_X3_isIn hv (nI nk) ck sm by_ a1 a2 = some "java/lang/IndexOutOfBoundsException" := by unfold x_X3_isIn; rw [e1, if_pos rfl, e3, if_neg (by simp)]
      have hL : f_L_isIn hv (nI nk) ck sm by_ a1 a2 ou = (1, ou) := by unfold f_L_isIn; rw [x0, if_neg (by simp)]
      have h4 : f_X4_isIn nk hv md mm od a1 a2 = (0, 1) := by unfold f_X4_isIn; rw [e2, if_pos rfl, e4, if_neg (by decide)]
      rw [hL, h4]
      dsimp only
      exact zb rfl (fun h => absurd h (by decide)) (jI_mk hn hr ht)
  · have x0 : x_X3_isIn hv (nI nk) ck sm by_ a1 a2 = some "java/lang/IndexOutOfBoundsException" := by unfold x_X3_isIn; rw [e1, if_neg (by simp)]
    have hL : f_L_isIn hv (nI nk) ck sm by_ a1 a2 ou = (1, ou) := by unfold f_L_isIn; rw [x0, if_neg (by simp)]
    have h4 : f_X4_isIn nk hv md mm od a1 a2 = (0, 1) := by unfold f_X4_isIn; rw [e2, if_neg (by decide)]
    rw [hL, h4]
    dsimp only
    exact zb rfl (fun h => absurd h (by decide)) (jI_mk hn hr ht)
set_option maxRecDepth 100000 in
theorem jk_11 (hn : jn nk r ak fr to op) (hr : jr ck sa so by_ ri re mi) (ht : jx hv nk r ak fr to wt ck sm sa so dw nu by_ ri md mi mm ma mv ml du od) : q_11 sv hv nk (nI r) ak fr to wt op ck sm sa so dw dp by_ nu wk hm hw hp ri nk (nI r) ak sv hv md mth r0 r1 r2 fr to wt op re mi mm ma me mv ml du dh dl od ou a1 a2 a3 a4 ∧ z_11 jI sv hv nk (nI r) ak fr to wt op ck sm sa so dw dp by_ nu wk hm hw hp ri nk (nI r) ak sv hv md mth r0 r1 r2 fr to wt op re mi mm ma me mv ml du dh dl od ou a1 a2 a3 a4 := by
  obtain ⟨x1, x2, x3, x4⟩ := jx_ck hr.1 ht
  refine ⟨⟨hr.1, hr.2.2.2.1, by omega, x3, trivial⟩, ?_⟩
  unfold z_11 f_X4_thrown
  rcases ag_set (hv := hv) (c := ck) (d := md) (p := a1) (by have := hr.1; omega) (fun h => (x1 h).1) with ⟨e1, e2, g, c⟩ | ⟨e1, e2⟩
  · obtain ⟨-, ht1⟩ := x1 c
    obtain ⟨q1, s1, s2, s3, s4⟩ := ht1.2.2.2.2.2.2.1 (tq_x a1) g.2
    have x0 : x_X3_dual hv ck dw by_ a1 = none := by unfold x_X3_dual; rw [e1, if_pos rfl]
    have f0 : f_X3_dual hv ck dw by_ a1 = dw (tq_x (by_ (tq_x a1))) := by unfold f_X3_dual; rw [e1, if_pos rfl]
    have hL : f_L_dual hv ck dw by_ a1 ou = (0, vp_updL ou 0 (dw (tq_x (by_ (tq_x a1))))) := by unfold f_L_dual; rw [x0, if_pos rfl, f0]
    have h4 : f_X4_dual hv md du od a1 = (dw (tq_x (by_ (tq_x a1))), 0) := by unfold f_X4_dual; rw [e2, if_pos rfl, s3]
    rw [hL, h4]
    dsimp only
    exact zq rfl (fun _ => updL_eq) (jI_mk hn hr ht)
  · have x0 : x_X3_dual hv ck dw by_ a1 = some "java/lang/IndexOutOfBoundsException" := by unfold x_X3_dual; rw [e1, if_neg (by simp)]
    have hL : f_L_dual hv ck dw by_ a1 ou = (1, ou) := by unfold f_L_dual; rw [x0, if_neg (by simp)]
    have h4 : f_X4_dual hv md du od a1 = (0, 1) := by unfold f_X4_dual; rw [e2, if_neg (by decide)]
    rw [hL, h4]
    dsimp only
    exact zq rfl (fun h => absurd h (by decide)) (jI_mk hn hr ht)
end Steps
