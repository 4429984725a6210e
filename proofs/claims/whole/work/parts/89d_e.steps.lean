section Steps
variable {nk r ak ck md : Nat} {sv hv : Int32} {fr to : Nat → Int32} {wt : Nat → Int64} {op sm sa so : Nat → Int32} {dw dp : Nat → Int64} {by_ nu wk hm : Nat → Int32} {hw hp : Nat → Int64} {ri : Nat → Int32} {mth : Int32} {r0 r1 r2 : Int64} {re mi mm ma me mv ml : Nat → Int32} {du dh dl : Nat → Int64} {od : Nat → Int32} {ou : Nat → Int64} {a1 a2 a3 a4 : Int32}
set_option maxRecDepth 100000 in
theorem jk_12 (hn : jn nk r ak fr to op) (hr : jr ck sa so by_ ri re mi) (ht : jx hv nk r ak fr to wt ck sm sa so dw nu by_ ri md mi mm ma mv ml du od) : q_12 sv hv nk (nI r) ak fr to wt op ck sm sa so dw dp by_ nu wk hm hw hp ri nk (nI r) ak sv hv md mth r0 r1 r2 fr to wt op re mi mm ma me mv ml du dh dl od ou a1 a2 a3 a4 ∧ z_12 jI sv hv nk (nI r) ak fr to wt op ck sm sa so dw dp by_ nu wk hm hw hp ri nk (nI r) ak sv hv md mth r0 r1 r2 fr to wt op re mi mm ma me mv ml du dh dl od ou a1 a2 a3 a4 := by
  obtain ⟨x1, x2, x3, x4⟩ := jx_ck hr.1 ht
  refine ⟨⟨hn.2.2.1, hr.1, hn.2.2.1, by omega, trivial⟩, ?_⟩
  unfold z_12 f_X4_thrown
  rcases ag_arc (n := ak) (p := a1) (by have := hn.2.2.1; omega) with ⟨e1, e2, g⟩ | ⟨e1, e2⟩
  · by_cases c : hv = 0
    · have x0 : x_X3_slack hv ak ck fr to wt sm dw a1 = some "java/lang/IllegalStateException" := by unfold x_X3_slack; rw [e1, if_pos rfl, if_pos c]
      have hL : f_L_slack hv ak ck fr to wt sm dw a1 ou = (2, ou) := by unfold f_L_slack; rw [x0, if_neg (by simp), if_neg (by simp)]
      have h4 : f_X4_slack ak hv md fr to wt mm du a1 = (0, 2) := by unfold f_X4_slack; rw [e2, if_pos rfl, if_pos c]
      rw [hL, h4]
      dsimp only
      exact zq rfl (fun h => absurd h (by decide)) (jI_mk hn hr ht)
    · have x0 : x_X3_slack hv ak ck fr to wt sm dw a1 = none := by unfold x_X3_slack; rw [e1, if_pos rfl, if_neg c]
      have f0 : f_X3_slack hv ak ck fr to wt sm dw a1 = wt (tq_x a1) - f_X0_sumOfDualsEntered ck fr to sm dw (tq_x a1) := by unfold f_X3_slack; rw [e1, if_pos rfl, if_neg c]
      have hL : f_L_slack hv ak ck fr to wt sm dw a1 ou = (0, vp_updL ou 0 (wt (tq_x a1) - f_X0_sumOfDualsEntered ck fr to sm dw (tq_x a1))) := by unfold f_L_slack; rw [x0, if_pos rfl, f0]
      have h4 : f_X4_slack ak hv md fr to wt mm du a1 = (t_X4_slack_47 fr to mm du a1 (wt (tq_x a1)) md, 0) := by unfold f_X4_slack; rw [e2, if_pos rfl, if_neg c]
      have h5 := (x1 c).2.2.2.2.2.2.2.2 a1 (wt (tq_x a1))
      rw [hL, h4]
      dsimp only
      exact zq rfl (fun _ => updL_eq.trans h5) (jI_mk hn hr ht)
  · have x0 : x_X3_slack hv ak ck fr to wt sm dw a1 = some "java/lang/IndexOutOfBoundsException" := by unfold x_X3_slack; rw [e1, if_neg (by simp)]
    have hL : f_L_slack hv ak ck fr to wt sm dw a1 ou = (1, ou) := by unfold f_L_slack; rw [x0, if_neg (by simp), if_pos rfl]
    have h4 : f_X4_slack ak hv md fr to wt mm du a1 = (0, 1) := by unfold f_X4_slack; rw [e2, if_neg (by decide)]
    rw [hL, h4]
    dsimp only
    exact zq rfl (fun h => absurd h (by decide)) (jI_mk hn hr ht)
set_option maxRecDepth 100000 in
theorem jk_13 (hn : jn nk r ak fr to op) (hr : jr ck sa so by_ ri re mi) (ht : jx hv nk r ak fr to wt ck sm sa so dw nu by_ ri md mi mm ma mv ml du od) : q_13 sv hv nk (nI r) ak fr to wt op ck sm sa so dw dp by_ nu wk hm hw hp ri nk (nI r) ak sv hv md mth r0 r1 r2 fr to wt op re mi mm ma me mv ml du dh dl od ou a1 a2 a3 a4 ∧ z_13 jI sv hv nk (nI r) ak fr to wt op ck sm sa so dw dp by_ nu wk hm hw hp ri nk (nI r) ak sv hv md mth r0 r1 r2 fr to wt op re mi mm ma me mv ml du dh dl od ou a1 a2 a3 a4 := by
  refine ⟨⟨hn.2.2.1, hn.2.2.1, trivial⟩, ?_⟩
  unfold z_13 f_X4_thrown
  rcases ag_5 a1 with h | h | h | h | h | h
  · subst h
    have x0 : x_X3_about sv (nI nk) (nI r) ak op 0 = none := by unfold x_X3_about; rw [if_pos rfl]
    have f0 : f_X3_about sv (nI nk) (nI r) ak op 0 = nI nk := by unfold f_X3_about; rw [if_pos rfl]
    have hL : f_L_about sv (nI nk) (nI r) ak op 0 ou = (0, vp_updL ou 0 ((nI nk).toInt64)) := by unfold f_L_about; rw [x0, if_pos rfl, f0]
    have h4 : f_X4_about (nI nk) (nI r) ak sv op 0 = (nI nk, 0) := by unfold f_X4_about; rw [if_neg (by decide), if_pos (by decide), if_pos rfl]
    rw [hL, h4]
    dsimp only
    exact zq rfl (fun _ => updL_eq) (jI_mk hn hr ht)
  · subst h
    have x0 : x_X3_about sv (nI nk) (nI r) ak op 1 = none := by unfold x_X3_about; rw [if_neg (by decide), if_pos rfl]
    have f0 : f_X3_about sv (nI nk) (nI r) ak op 1 = nI ak := by unfold f_X3_about; rw [if_neg (by decide), if_pos rfl]
    have hL : f_L_about sv (nI nk) (nI r) ak op 1 ou = (0, vp_updL ou 0 ((nI ak).toInt64)) := by unfold f_L_about; rw [x0, if_pos rfl, f0]
    have h4 : f_X4_about (nI nk) (nI r) ak sv op 1 = (nI ak, 0) := by unfold f_X4_about; rw [if_neg (by decide), if_pos (by decide), if_neg (by decide), if_pos rfl]
    rw [hL, h4]
    dsimp only
    exact zq rfl (fun _ => updL_eq) (jI_mk hn hr ht)
  · subst h
    have x0 : x_X3_about sv (nI nk) (nI r) ak op 2 = none := by unfold x_X3_about; rw [if_neg (by decide), if_neg (by decide), if_pos rfl]
    have f0 : f_X3_about sv (nI nk) (nI r) ak op 2 = f_X1_openCount ak op := by unfold f_X3_about; rw [if_neg (by decide), if_neg (by decide), if_pos rfl]
    have hL : f_L_about sv (nI nk) (nI r) ak op 2 ou = (0, vp_updL ou 0 ((f_X1_openCount ak op).toInt64)) := by unfold f_L_about; rw [x0, if_pos rfl, f0]
    have h4 : f_X4_about (nI nk) (nI r) ak sv op 2 = (t_X4_about_31 op 0 ak, 0) := by unfold f_X4_about; rw [if_neg (by decide), if_pos (by decide), if_neg (by decide), if_neg (by decide), if_pos rfl]
    rw [ag_count] at h4
    rw [hL, h4]
    dsimp only
    exact zq rfl (fun _ => updL_eq) (jI_mk hn hr ht)
  · subst h
    have x0 : x_X3_about sv (nI nk) (nI r) ak op 3 = none := by unfold x_X3_about; rw [if_neg (by decide), if_neg (by decide), if_neg (by decide), if_pos rfl]
    have f0 : f_X3_about sv (nI nk) (nI r) ak op 3 = nI r := by unfold f_X3_about; rw [if_neg (by decide), if_neg (by decide), if_neg (by decide), if_pos rfl]
    have hL : f_L_about sv (nI nk) (nI r) ak op 3 ou = (0, vp_updL ou 0 ((nI r).toInt64)) := by unfold f_L_about; rw [x0, if_pos rfl, f0]
    have h4 : f_X4_about (nI nk) (nI r) ak sv op 3 = (nI r, 0) := by unfold f_X4_about; rw [if_neg (by decide), if_pos (by decide), if_neg (by decide), if_neg (by decide), if_neg (by decide), if_pos rfl]
    rw [hL, h4]
    dsimp only
    exact zq rfl (fun _ => updL_eq) (jI_mk hn hr ht)
  · subst h
    have x0 : x_X3_about sv (nI nk) (nI r) ak op 4 = none := by unfold x_X3_about; rw [if_neg (by decide), if_neg (by decide), if_neg (by decide), if_neg (by decide), if_pos rfl]
    have f0 : f_X3_about sv (nI nk) (nI r) ak op 4 = f_X3_asNumber sv := by unfold f_X3_about; rw [if_neg (by decide), if_neg (by decide), if_neg (by decide), if_neg (by decide), if_pos rfl]
    have hL : f_L_about sv (nI nk) (nI r) ak op 4 ou = (0, vp_updL ou 0 ((f_X3_asNumber sv).toInt64)) := by unfold f_L_about; rw [x0, if_pos rfl, f0]
    have h4 : f_X4_about (nI nk) (nI r) ak sv op 4 = (if sv = 0 then (0, 0) else (1, 0)) := by unfold f_X4_about; rw [if_neg (by decide), if_pos (by decide), if_neg (by decide), if_neg (by decide), if_neg (by decide), if_neg (by decide)]
    unfold f_X3_asNumber at hL
    by_cases c : sv = 0
    · rw [if_pos c] at hL h4
      rw [hL, h4]
      dsimp only
      exact zq rfl (fun _ => updL_eq) (jI_mk hn hr ht)
    · rw [if_neg c] at hL h4
      rw [hL, h4]
      dsimp only
      exact zq rfl (fun _ => updL_eq) (jI_mk hn hr ht)
  · obtain ⟨o1, o2, o3, o4, o5⟩ := ag_out4 h
    have x0 : x_X3_about sv (nI nk) (nI r) ak op a1 = some "java/lang/IndexOutOfBoundsException" := by unfold x_X3_about; rw [if_neg o1, if_neg o2, if_neg o3, if_neg o4, if_neg o5]
    have hL : f_L_about sv (nI nk) (nI r) ak op a1 ou = (1, ou) := by unfold f_L_about; rw [x0, if_neg (by simp)]
    have h4 : f_X4_about (nI nk) (nI r) ak sv op a1 = (0, 1) := by
      unfold f_X4_about
      by_cases d : a1 < 0
      · rw [if_pos d]
      · rw [if_neg d, if_neg (h.resolve_left d)]
    rw [hL, h4]
    dsimp only
    exact zq rfl (fun h => absurd h (by decide)) (jI_mk hn hr ht)
set_option maxRecDepth 100000 in
theorem jk_14 (hn : jn nk r ak fr to op) (hr : jr ck sa so by_ ri re mi) (ht : jx hv nk r ak fr to wt ck sm sa so dw nu by_ ri md mi mm ma mv ml du od) : q_14 sv hv nk (nI r) ak fr to wt op ck sm sa so dw dp by_ nu wk hm hw hp ri nk (nI r) ak sv hv md mth r0 r1 r2 fr to wt op re mi mm ma me mv ml du dh dl od ou a1 a2 a3 a4 ∧ z_14 jI sv hv nk (nI r) ak fr to wt op ck sm sa so dw dp by_ nu wk hm hw hp ri nk (nI r) ak sv hv md mth r0 r1 r2 fr to wt op re mi mm ma me mv ml du dh dl od ou a1 a2 a3 a4 := by
  obtain ⟨x1, x2, x3, x4⟩ := jx_ck hr.1 ht
  refine ⟨⟨hn.2.2.1, hn.2.2.2.2.1, hn.2.2.1, hn.2.2.2.2.1, trivial⟩, ?_⟩
  unfold z_14 f_X4_thrown
  rcases ag_arc (n := ak) (p := a1) (by have := hn.2.2.1; omega) with ⟨e1, e2, g⟩ | ⟨e1, e2⟩
  · rcases ag_4 a2 with h | h | h | h | h
    · subst h
      have x0 : x_X3_told hv ak fr to op ri a1 0 = none := by unfold x_X3_told; rw [e1, if_pos rfl, if_pos rfl]
      have f0 : f_X3_told hv ak fr to op ri a1 0 = fr (tq_x a1) := by unfold f_X3_told; rw [e1, if_pos rfl, if_pos rfl]
      have hL : f_L_told hv ak fr to op ri a1 0 ou = (0, vp_updL ou 0 ((fr (tq_x a1) : Int32).toInt64)) := by unfold f_L_told; rw [x0, if_pos rfl, f0]
      have h4 : f_X4_told ak hv fr to op mi a1 0 = (fr (tq_x a1), 0) := by unfold f_X4_told; rw [e2, if_pos rfl, if_neg (by decide), if_pos (by decide), if_pos rfl]
      rw [hL, h4]
      dsimp only
      exact zq rfl (fun _ => updL_eq) (jI_mk hn hr ht)
    · subst h
      have x0 : x_X3_told hv ak fr to op ri a1 1 = none := by unfold x_X3_told; rw [e1, if_pos rfl, if_neg (by decide), if_pos rfl]
      have f0 : f_X3_told hv ak fr to op ri a1 1 = to (tq_x a1) := by unfold f_X3_told; rw [e1, if_pos rfl, if_neg (by decide), if_pos rfl]
      have hL : f_L_told hv ak fr to op ri a1 1 ou = (0, vp_updL ou 0 ((to (tq_x a1) : Int32).toInt64)) := by unfold f_L_told; rw [x0, if_pos rfl, f0]
      have h4 : f_X4_told ak hv fr to op mi a1 1 = (to (tq_x a1), 0) := by unfold f_X4_told; rw [e2, if_pos rfl, if_neg (by decide), if_pos (by decide), if_neg (by decide), if_pos rfl]
      rw [hL, h4]
      dsimp only
      exact zq rfl (fun _ => updL_eq) (jI_mk hn hr ht)
    · subst h
      have x0 : x_X3_told hv ak fr to op ri a1 2 = none := by unfold x_X3_told; rw [e1, if_pos rfl, if_neg (by decide), if_neg (by decide), if_pos rfl]
      have f0 : f_X3_told hv ak fr to op ri a1 2 = f_X3_asNumber (op (tq_x a1)) := by unfold f_X3_told; rw [e1, if_pos rfl, if_neg (by decide), if_neg (by decide), if_pos rfl]
      have hL : f_L_told hv ak fr to op ri a1 2 ou = (0, vp_updL ou 0 ((f_X3_asNumber (op (tq_x a1)) : Int32).toInt64)) := by unfold f_L_told; rw [x0, if_pos rfl, f0]
      have h4 : f_X4_told ak hv fr to op mi a1 2 = (if op (tq_x a1) = 0 then (0, 0) else (1, 0)) := by unfold f_X4_told; rw [e2, if_pos rfl, if_neg (by decide), if_pos (by decide), if_neg (by decide), if_neg (by decide), if_pos rfl]
      unfold f_X3_asNumber at hL
      by_cases c : op (tq_x a1) = 0
      · rw [if_pos c] at hL h4
        rw [hL, h4]
        dsimp only
        exact zq rfl (fun _ => updL_eq) (jI_mk hn hr ht)
      · rw [if_neg c] at hL h4
        rw [hL, h4]
        dsimp only
        exact zq rfl (fun _ => updL_eq) (jI_mk hn hr ht)
    · subst h
      have x0 : x_X3_told hv ak fr to op ri a1 3 = none := by unfold x_X3_told; rw [e1, if_pos rfl, if_neg (by decide), if_neg (by decide), if_neg (by decide), if_pos rfl, ite_self, ite_self]
      have f0 : f_X3_told hv ak fr to op ri a1 3 = (if hv = 0 then f_X3_asNumber 0 else if f_X2_hasArc to ri a1 = 0 then f_X3_asNumber 0 else f_X3_asNumber 1) := by unfold f_X3_told; rw [e1, if_pos rfl, if_neg (by decide), if_neg (by decide), if_neg (by decide), if_pos rfl]
      have hL : f_L_told hv ak fr to op ri a1 3 ou = (0, vp_updL ou 0 (((if hv = 0 then f_X3_asNumber 0 else if f_X2_hasArc to ri a1 = 0 then f_X3_asNumber 0 else f_X3_asNumber 1) : Int32).toInt64)) := by unfold f_L_told; rw [x0, if_pos rfl, f0]
      have h4 : f_X4_told ak hv fr to op mi a1 3 = (if hv = 0 then (0, 0) else if mi (tq_x (to (tq_x a1))) = a1 then (1, 0) else (0, 0)) := by unfold f_X4_told; rw [e2, if_pos rfl, if_neg (by decide), if_pos (by decide), if_neg (by decide), if_neg (by decide), if_neg (by decide)]
      by_cases c : hv = 0
      · rw [if_pos c] at hL h4
        rw [hL, h4]
        dsimp only
        exact zq rfl (fun _ => by rw [updL_eq]; rfl) (jI_mk hn hr ht)
      · have e3 := (x1 c).2.2.1 (tq_x (to (tq_x a1))) (hn.2.2.2.2.2.2.1 _ g.2)
        rw [if_neg c] at hL h4
        by_cases d : mi (tq_x (to (tq_x a1))) = a1
        · have e6 : f_X2_hasArc to ri a1 = 1 := by unfold f_X2_hasArc; rw [e3, if_pos d]
          rw [e6, if_neg (by decide)] at hL
          rw [if_pos d] at h4
          rw [hL, h4]
          dsimp only
          exact zq rfl (fun _ => by rw [updL_eq]; rfl) (jI_mk hn hr ht)
        · have e6 : f_X2_hasArc to ri a1 = 0 := by unfold f_X2_hasArc; rw [e3, if_neg d]
          rw [e6, if_pos rfl] at hL
          rw [if_neg d] at h4
          rw [hL, h4]
          dsimp only
          exact zq rfl (fun _ => by rw [updL_eq]; rfl) (jI_mk hn hr ht)
    · obtain ⟨o1, o2, o3, o4⟩ := ag_out3 h
      have x0 : x_X3_told hv ak fr to op ri a1 a2 = some "java/lang/IndexOutOfBoundsException" := by unfold x_X3_told; rw [e1, if_pos rfl, if_neg o1, if_neg o2, if_neg o3, if_neg o4]
      have hL : f_L_told hv ak fr to op ri a1 a2 ou = (1, ou) := by unfold f_L_told; rw [x0, if_neg (by simp)]
      have h4 : f_X4_told ak hv fr to op mi a1 a2 = (0, 1) := by
        unfold f_X4_told; rw [e2, if_pos rfl]
        by_cases d : a2 < 0
        · rw [if_pos d]
        · rw [if_neg d, if_neg (h.resolve_left d)]
      rw [hL, h4]
      dsimp only
      exact zq rfl (fun h => absurd h (by decide)) (jI_mk hn hr ht)
  · have x0 : x_X3_told hv ak fr to op ri a1 a2 = some "java/lang/IndexOutOfBoundsException" := by unfold x_X3_told; rw [e1, if_neg (by simp)]
    have hL : f_L_told hv ak fr to op ri a1 a2 ou = (1, ou) := by unfold f_L_told; rw [x0, if_neg (by simp)]
    have h4 : f_X4_told ak hv fr to op mi a1 a2 = (0, 1) := by unfold f_X4_told; rw [e2, if_neg (by decide)]
    rw [hL, h4]
    dsimp only
    exact zq rfl (fun h => absurd h (by decide)) (jI_mk hn hr ht)
end Steps
