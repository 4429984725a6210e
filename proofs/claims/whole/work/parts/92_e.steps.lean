section Steps
variable {nk r ak ck md : Nat} {sv hv : Int32} {fr to : Nat → Int32} {wt : Nat → Int64} {op sm sa so : Nat → Int32} {dw dp : Nat → Int64} {by_ nu wk hm : Nat → Int32} {hw hp : Nat → Int64} {ri : Nat → Int32} {mth : Int32} {r0 r1 r2 : Int64} {re mi mm ma me mv ml : Nat → Int32} {du dh dl : Nat → Int64} {od : Nat → Int32} {ou : Nat → Int64} {a1 a2 a3 a4 : Int32}
set_option maxRecDepth 100000 in
theorem jk_12 (hn : jn nk r ak fr to op) (hr : jr ck sa so by_ ri re mi) (ht : jx hv nk r ak fr to wt ck sm sa so dw nu by_ ri md mi mm ma mv ml du od) : q_12 sv hv nk (nI r) ak fr to wt op ck sm sa so dw dp by_ nu wk hm hw hp ri nk (nI r) ak sv hv md mth r0 r1 r2 fr to wt op re mi mm ma me mv ml du dh dl od ou a1 a2 a3 a4 ∧ z_12 jI sv hv nk (nI r) ak fr to wt op ck sm sa so dw dp by_ nu wk hm hw hp ri nk (nI r) ak sv hv md mth r0 r1 r2 fr to wt op re mi mm ma me mv ml du dh dl od ou a1 a2 a3 a4 := by
  obtain ⟨x1, x2, x3, x4⟩ := jx_ck hr.1 ht
  refine ⟨⟨hn.2.2.1, hr.1, hn.2.2.1, by omega, trivial⟩, ?_⟩
  unfold z_12
  have key : (f_X4_slack ak hv md fr to wt mm du a1).2 = (f_L_slack hv ak ck fr to wt sm dw a1 ou).1 ∧ ((f_L_slack hv ak ck fr to wt sm dw a1 ou).1 = 0 → (f_L_slack hv ak ck fr to wt sm dw a1 ou).2 0 = (f_X4_slack ak hv md fr to wt mm du a1).1) := by
    unfold f_L_slack x_X3_slack f_X3_slack f_X4_slack
    rcases ag_arc (n := ak) (p := a1) (by have := hn.2.2.1; omega) with ⟨e1, e2, g⟩ | ⟨e1, e2⟩
    · rw [e1, e2, if_pos rfl, if_pos rfl, if_pos rfl]
      by_cases c : hv = 0
      · rw [if_pos c, if_pos c, if_pos c, if_neg (by simp), if_neg (by simp)]
        exact ⟨rfl, fun h => absurd h (by decide)⟩
      · rw [if_neg c, if_neg c, if_neg c, if_pos rfl]
        refine ⟨rfl, fun _ => ?_⟩
        dsimp only
        rw [updL_eq]
        exact (x1 c).2.2.2.2.2.2.2.2 a1 (wt (tq_x a1))
    · rw [e1, e2, if_neg (by decide), if_neg (by simp), if_neg (by simp), if_pos rfl]
      exact ⟨rfl, fun h => absurd h (by decide)⟩
  exact zq key.1 key.2 (jI_mk hn hr ht)
set_option maxRecDepth 100000 in
theorem jk_13 (hn : jn nk r ak fr to op) (hr : jr ck sa so by_ ri re mi) (ht : jx hv nk r ak fr to wt ck sm sa so dw nu by_ ri md mi mm ma mv ml du od) : q_13 sv hv nk (nI r) ak fr to wt op ck sm sa so dw dp by_ nu wk hm hw hp ri nk (nI r) ak sv hv md mth r0 r1 r2 fr to wt op re mi mm ma me mv ml du dh dl od ou a1 a2 a3 a4 ∧ z_13 jI sv hv nk (nI r) ak fr to wt op ck sm sa so dw dp by_ nu wk hm hw hp ri nk (nI r) ak sv hv md mth r0 r1 r2 fr to wt op re mi mm ma me mv ml du dh dl od ou a1 a2 a3 a4 := by
  refine ⟨⟨hn.2.2.1, hn.2.2.1, trivial⟩, ?_⟩
  unfold z_13
  have key : (f_X4_about (nI nk) (nI r) ak sv op a1).2 = (f_L_about sv (nI nk) (nI r) ak op a1 ou).1 ∧ ((f_L_about sv (nI nk) (nI r) ak op a1 ou).1 = 0 → (f_L_about sv (nI nk) (nI r) ak op a1 ou).2 0 = ((f_X4_about (nI nk) (nI r) ak sv op a1).1).toInt64) := by
    unfold f_L_about x_X3_about f_X3_about f_X4_about
    rcases ag_5 a1 with h | h | h | h | h | h
    · subst h
      rw [if_pos rfl, if_pos rfl, if_pos rfl, if_neg (by decide), if_pos (by decide), if_pos rfl]
      exact ⟨rfl, fun _ => updL_eq⟩
    · subst h
      rw [if_neg (by decide), if_pos rfl, if_pos rfl, if_neg (by decide), if_pos rfl, if_neg (by decide), if_pos (by decide), if_neg (by decide), if_pos rfl]
      exact ⟨rfl, fun _ => updL_eq⟩
    · subst h
      rw [if_neg (by decide), if_neg (by decide), if_pos rfl, if_pos rfl, if_neg (by decide), if_neg (by decide), if_pos rfl, if_neg (by decide), if_pos (by decide), if_neg (by decide), if_neg (by decide), if_pos rfl, ag_count]
      exact ⟨rfl, fun _ => updL_eq⟩
    · subst h
      rw [if_neg (by decide), if_neg (by decide), if_neg (by decide), if_pos rfl, if_pos rfl, if_neg (by decide), if_neg (by decide), if_neg (by decide), if_pos rfl, if_neg (by decide), if_pos (by decide), if_neg (by decide), if_neg (by decide), if_neg (by decide), if_pos rfl]
      exact ⟨rfl, fun _ => updL_eq⟩
    · subst h
      rw [if_neg (by decide), if_neg (by decide), if_neg (by decide), if_neg (by decide), if_pos rfl, if_pos rfl, if_neg (by decide), if_neg (by decide), if_neg (by decide), if_neg (by decide), if_pos rfl, if_neg (by decide), if_pos (by decide), if_neg (by decide), if_neg (by decide), if_neg (by decide), if_neg (by decide)]
      unfold f_X3_asNumber
      by_cases c : sv = 0
      · rw [if_pos c, if_pos c]; exact ⟨rfl, fun _ => updL_eq⟩
      · rw [if_neg c, if_neg c]; exact ⟨rfl, fun _ => updL_eq⟩
    · obtain ⟨o1, o2, o3, o4, o5⟩ := ag_out4 h
      rw [if_neg o1, if_neg o2, if_neg o3, if_neg o4, if_neg o5, if_neg (by simp)]
      refine ⟨?_, fun h => absurd h (by decide)⟩
      rcases h with h | h
      · rw [if_pos h]
      · by_cases d : a1 < 0
        · rw [if_pos d]
        · rw [if_neg d, if_neg h]
  exact zq key.1 key.2 (jI_mk hn hr ht)
set_option maxRecDepth 100000 in
theorem jk_14 (hn : jn nk r ak fr to op) (hr : jr ck sa so by_ ri re mi) (ht : jx hv nk r ak fr to wt ck sm sa so dw nu by_ ri md mi mm ma mv ml du od) : q_14 sv hv nk (nI r) ak fr to wt op ck sm sa so dw dp by_ nu wk hm hw hp ri nk (nI r) ak sv hv md mth r0 r1 r2 fr to wt op re mi mm ma me mv ml du dh dl od ou a1 a2 a3 a4 ∧ z_14 jI sv hv nk (nI r) ak fr to wt op ck sm sa so dw dp by_ nu wk hm hw hp ri nk (nI r) ak sv hv md mth r0 r1 r2 fr to wt op re mi mm ma me mv ml du dh dl od ou a1 a2 a3 a4 := by
  obtain ⟨x1, x2, x3, x4⟩ := jx_ck hr.1 ht
  refine ⟨⟨hn.2.2.1, hn.2.2.2.2.1, hn.2.2.1, hn.2.2.2.2.1, trivial⟩, ?_⟩
  unfold z_14
  have key : (f_X4_told ak hv fr to op mi a1 a2).2 = (f_L_told hv ak fr to op ri a1 a2 ou).1 ∧ ((f_L_told hv ak fr to op ri a1 a2 ou).1 = 0 → (f_L_told hv ak fr to op ri a1 a2 ou).2 0 = ((f_X4_told ak hv fr to op mi a1 a2).1).toInt64) := by
    unfold f_L_told x_X3_told f_X3_told f_X4_told
    rcases ag_arc (n := ak) (p := a1) (by have := hn.2.2.1; omega) with ⟨e1, e2, g⟩ | ⟨e1, e2⟩
    · rw [e1, e2, if_pos rfl, if_pos rfl, if_pos rfl]
      rcases ag_4 a2 with h | h | h | h | h
      · subst h
        rw [if_pos rfl, if_pos rfl, if_neg (by decide), if_pos (by decide), if_pos rfl, if_pos rfl]
        exact ⟨rfl, fun _ => updL_eq⟩
      · subst h
        rw [if_neg (by decide), if_pos rfl, if_neg (by decide), if_pos rfl, if_neg (by decide), if_pos (by decide), if_neg (by decide), if_pos rfl, if_pos rfl]
        exact ⟨rfl, fun _ => updL_eq⟩
      · subst h
        rw [if_neg (by decide), if_neg (by decide), if_pos rfl, if_neg (by decide), if_neg (by decide), if_pos rfl, if_neg (by decide), if_pos (by decide), if_neg (by decide), if_neg (by decide), if_pos rfl, if_pos rfl]
        unfold f_X3_asNumber
        by_cases c : op (tq_x a1) = 0
        · rw [if_pos c, if_pos c]; exact ⟨rfl, fun _ => updL_eq⟩
        · rw [if_neg c, if_neg c]; exact ⟨rfl, fun _ => updL_eq⟩
      · subst h
        rw [if_neg (by decide), if_neg (by decide), if_neg (by decide), if_pos rfl, if_neg (by decide), if_neg (by decide), if_neg (by decide), if_pos rfl, if_neg (by decide), if_pos (by decide), if_neg (by decide), if_neg (by decide), if_neg (by decide), ite_self, ite_self, if_pos rfl]
        by_cases c : hv = 0
        · rw [if_pos c, if_pos c]; exact ⟨rfl, fun _ => updL_eq⟩
        · have e3 := (x1 c).2.2.1 (tq_x (to (tq_x a1))) (hn.2.2.2.2.2.2.1 _ g.2)
          unfold f_X2_hasArc
          rw [if_neg c, if_neg c, e3]
          by_cases d : mi (tq_x (to (tq_x a1))) = a1
          · rw [if_pos d, if_pos d, if_neg (by decide)]; exact ⟨rfl, fun _ => updL_eq⟩
          · rw [if_neg d, if_neg d, if_pos rfl]; exact ⟨rfl, fun _ => updL_eq⟩
      · obtain ⟨o1, o2, o3, o4⟩ := ag_out3 h
        rw [if_neg o1, if_neg o2, if_neg o3, if_neg o4, if_neg (by simp)]
        refine ⟨?_, fun h => absurd h (by decide)⟩
        rcases h with h | h
        · rw [if_pos h]
        · by_cases d : a2 < 0
          · rw [if_pos d]
          · rw [if_neg d, if_neg h]
    · rw [e1, e2, if_neg (by decide), if_neg (by simp), if_neg (by simp)]
      exact ⟨rfl, fun h => absurd h (by decide)⟩
  exact zq key.1 key.2 (jI_mk hn hr ht)
end Steps
