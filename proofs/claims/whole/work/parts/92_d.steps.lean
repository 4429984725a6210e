section Steps
variable {nk r ak ck md : Nat} {sv hv : Int32} {fr to : Nat → Int32} {wt : Nat → Int64} {op sm sa so : Nat → Int32} {dw dp : Nat → Int64} {by_ nu wk hm : Nat → Int32} {hw hp : Nat → Int64} {ri : Nat → Int32} {mth : Int32} {r0 r1 r2 : Int64} {re mi mm ma me mv ml : Nat → Int32} {du dh dl : Nat → Int64} {od : Nat → Int32} {ou : Nat → Int64} {a1 a2 a3 a4 : Int32}
set_option maxRecDepth 100000 in
theorem jk_9 (hn : jn nk r ak fr to op) (hr : jr ck sa so by_ ri re mi) (ht : jx hv nk r ak fr to wt ck sm sa so dw nu by_ ri md mi mm ma mv ml du od) : q_9 sv hv nk (nI r) ak fr to wt op ck sm sa so dw dp by_ nu wk hm hw hp ri nk (nI r) ak sv hv md mth r0 r1 r2 fr to wt op re mi mm ma me mv ml du dh dl od ou a1 a2 a3 a4 ∧ z_9 jI sv hv nk (nI r) ak fr to wt op ck sm sa so dw dp by_ nu wk hm hw hp ri nk (nI r) ak sv hv md mth r0 r1 r2 fr to wt op re mi mm ma me mv ml du dh dl od ou a1 a2 a3 a4 := by
  obtain ⟨x1, x2, x3, x4⟩ := jx_ck hr.1 ht
  refine ⟨⟨hr.1, hr.2.2.2.1, hr.2.2.1, by omega, x3, x4, trivial⟩, ?_⟩
  unfold z_9
  have key : (f_X4_set hv md mm ma mv ml od a1 a2).2 = (f_L_set hv ck sm sa so nu by_ a1 a2 ou).1 ∧ ((f_L_set hv ck sm sa so nu by_ a1 a2 ou).1 = 0 → (f_L_set hv ck sm sa so nu by_ a1 a2 ou).2 0 = ((f_X4_set hv md mm ma mv ml od a1 a2).1).toInt64) := by
    unfold f_L_set x_X3_set f_X3_set f_X4_set
    rcases ag_set (hv := hv) (c := ck) (d := md) (p := a1) (by have := hr.1; omega) (fun h => (x1 h).1) with ⟨e1, e2, g, c⟩ | ⟨e1, e2⟩
    · obtain ⟨-, ht⟩ := x1 c
      obtain ⟨q1, s1, s2, s3, s4⟩ := ht.2.2.2.2.2.2.1 (tq_x a1) g.2
      rw [e1, e2, if_pos rfl, if_pos rfl, if_pos rfl]
      rcases ag_4 a2 with h | h | h | h | h
      · subst h
        rw [if_pos rfl, if_pos rfl, if_neg (by decide), if_pos (by decide), if_pos rfl, if_pos rfl]
        dsimp only
        refine ⟨rfl, fun _ => ?_⟩
        rw [updL_eq, s1, q1.1, tb_bitCount q1.2, k_bits q1.2]
      · subst h
        rw [if_neg (by decide), if_pos rfl, if_neg (by decide), if_pos rfl, if_neg (by decide), if_pos (by decide), if_neg (by decide), if_pos rfl, if_pos rfl]
        dsimp only
        refine ⟨rfl, fun _ => ?_⟩
        rw [updL_eq, s2]
      · subst h
        rw [if_neg (by decide), if_neg (by decide), if_pos rfl, ite_self, if_neg (by decide), if_neg (by decide), if_pos rfl, if_neg (by decide), if_pos (by decide), if_neg (by decide), if_neg (by decide), if_pos rfl, if_pos rfl]
        dsimp only
        rcases s4 with ⟨y1, y2, y3⟩ | ⟨y1, y2, -⟩
        · rw [if_pos y1, y2, if_neg (by decide)]
          refine ⟨rfl, fun _ => ?_⟩
          rw [updL_eq]
          rfl
        · rw [if_neg y1, y2, if_pos rfl]
          refine ⟨rfl, fun _ => ?_⟩
          rw [updL_eq]
          rfl
      · subst h
        rw [if_neg (by decide), if_neg (by decide), if_neg (by decide), if_pos rfl, if_neg (by decide), if_neg (by decide), if_neg (by decide), if_pos rfl, if_neg (by decide), if_pos (by decide), if_neg (by decide), if_neg (by decide), if_neg (by decide), if_pos rfl]
        dsimp only
        rcases s4 with ⟨y1, y2, y3⟩ | ⟨y1, y2, n, y3, y4, y5, y6⟩
        · rw [y3, if_neg (by decide)]
          refine ⟨rfl, fun _ => ?_⟩
          rw [updL_eq]
          unfold f_X0_numberOfOuter
          rw [if_pos y1]
        · rw [if_pos (Int32.not_lt.mp y4)]
          refine ⟨rfl, fun _ => ?_⟩
          rw [updL_eq, y3, y6]
      · obtain ⟨o1, o2, o3, o4⟩ := ag_out3 h
        rw [if_neg o1, if_neg o2, if_neg o3, if_neg o4, if_neg (by simp)]
        refine ⟨?_, fun h => absurd h (by decide)⟩
        rcases h with h | h
        · rw [if_pos h]
        · by_cases d : a2 < 0
          · rw [if_pos d]
          · rw [if_neg d, if_neg h]
    · rw [e1, e2, if_neg (by decide), if_neg (by simp), if_neg (by simp)]
      exact ⟨rfl, fun h => absurd h (by decide)⟩
  exact zq key.1 key.2 (jI_mk hn hr ht)
set_option maxRecDepth 100000 in
theorem jk_10 (hn : jn nk r ak fr to op) (hr : jr ck sa so by_ ri re mi) (ht : jx hv nk r ak fr to wt ck sm sa so dw nu by_ ri md mi mm ma mv ml du od) : q_10 sv hv nk (nI r) ak fr to wt op ck sm sa so dw dp by_ nu wk hm hw hp ri nk (nI r) ak sv hv md mth r0 r1 r2 fr to wt op re mi mm ma me mv ml du dh dl od ou a1 a2 a3 a4 ∧ z_10 jI sv hv nk (nI r) ak fr to wt op ck sm sa so dw dp by_ nu wk hm hw hp ri nk (nI r) ak sv hv md mth r0 r1 r2 fr to wt op re mi mm ma me mv ml du dh dl od ou a1 a2 a3 a4 := by
  obtain ⟨x1, x2, x3, x4⟩ := jx_ck hr.1 ht
  refine ⟨⟨hr.1, hr.2.2.2.1, hn.1, by omega, x3, trivial⟩, ?_⟩
  unfold z_10
  have key : (f_X4_isIn nk hv md mm od a1 a2).2 = (f_L_isIn hv (nI nk) ck sm by_ a1 a2 ou).1 ∧ ((f_L_isIn hv (nI nk) ck sm by_ a1 a2 ou).1 = 0 → (f_L_isIn hv (nI nk) ck sm by_ a1 a2 ou).2 0 = if (f_X4_isIn nk hv md mm od a1 a2).1 = 0 then 0 else 1) := by
    unfold f_L_isIn x_X3_isIn f_X3_isIn f_X4_isIn
    rcases ag_set (hv := hv) (c := ck) (d := md) (p := a1) (by have := hr.1; omega) (fun h => (x1 h).1) with ⟨e1, e2, g, c⟩ | ⟨e1, e2⟩
    · rcases ag_node (n := nk) (p := a2) (by have := hn.1; omega) with ⟨e3, e4, g2⟩ | ⟨e3, e4⟩
      · obtain ⟨-, ht⟩ := x1 c
        obtain ⟨q1, s1, s2, s3, s4⟩ := ht.2.2.2.2.2.2.1 (tq_x a1) g.2
        have e5 : f_X4_has mm (tq_x (od (tq_x a1))) a2 = f_X3_holds (sm (tq_x (by_ (tq_x a1)))) a2 := by rw [s1]; rfl
        rw [e1, e2, e3, e4, e5]
        rw [if_pos rfl, if_pos rfl, if_pos rfl, if_pos rfl, if_pos rfl, if_pos rfl, if_pos rfl]
        by_cases d : f_X3_holds (sm (tq_x (by_ (tq_x a1)))) a2 = 0
        · rw [if_pos d, if_pos d]
          exact ⟨rfl, fun _ => updL_eq⟩
        · rw [if_neg d, if_neg d]
          exact ⟨rfl, fun _ => updL_eq⟩
      · rw [e1, e2, e3, e4, if_pos rfl, if_pos rfl, if_neg (by simp), if_neg (by simp), if_neg (by decide)]
        exact ⟨rfl, fun h => absurd h (by decide)⟩
    · rw [e1, e2, if_neg (by decide), if_neg (by simp), if_neg (by simp)]
      exact ⟨rfl, fun h => absurd h (by decide)⟩
  exact zb key.1 key.2 (jI_mk hn hr ht)
set_option maxRecDepth 100000 in
theorem jk_11 (hn : jn nk r ak fr to op) (hr : jr ck sa so by_ ri re mi) (ht : jx hv nk r ak fr to wt ck sm sa so dw nu by_ ri md mi mm ma mv ml du od) : q_11 sv hv nk (nI r) ak fr to wt op ck sm sa so dw dp by_ nu wk hm hw hp ri nk (nI r) ak sv hv md mth r0 r1 r2 fr to wt op re mi mm ma me mv ml du dh dl od ou a1 a2 a3 a4 ∧ z_11 jI sv hv nk (nI r) ak fr to wt op ck sm sa so dw dp by_ nu wk hm hw hp ri nk (nI r) ak sv hv md mth r0 r1 r2 fr to wt op re mi mm ma me mv ml du dh dl od ou a1 a2 a3 a4 := by
  obtain ⟨x1, x2, x3, x4⟩ := jx_ck hr.1 ht
  refine ⟨⟨hr.1, hr.2.2.2.1, by omega, x3, trivial⟩, ?_⟩
  unfold z_11
  have key : (f_X4_dual hv md du od a1).2 = (f_L_dual hv ck dw by_ a1 ou).1 ∧ ((f_L_dual hv ck dw by_ a1 ou).1 = 0 → (f_L_dual hv ck dw by_ a1 ou).2 0 = (f_X4_dual hv md du od a1).1) := by
    unfold f_L_dual x_X3_dual f_X3_dual f_X4_dual
    rcases ag_set (hv := hv) (c := ck) (d := md) (p := a1) (by have := hr.1; omega) (fun h => (x1 h).1) with ⟨e1, e2, g, c⟩ | ⟨e1, e2⟩
    · obtain ⟨-, ht⟩ := x1 c
      obtain ⟨q1, s1, s2, s3, s4⟩ := ht.2.2.2.2.2.2.1 (tq_x a1) g.2
      rw [e1, e2, if_pos rfl, if_pos rfl, if_pos rfl, if_pos rfl]
      refine ⟨rfl, fun _ => ?_⟩
      dsimp only
      rw [updL_eq, s3]
    · rw [e1, e2, if_neg (by decide), if_neg (by simp), if_neg (by simp)]
      exact ⟨rfl, fun h => absurd h (by decide)⟩
  exact zq key.1 key.2 (jI_mk hn hr ht)
end Steps
