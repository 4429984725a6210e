theorem ag_sm {x : Int32} (m : Nat) (hm : m < 2 ^ 31) : (∃ j, j ≤ m ∧ x = nI j) ∨ x < 0 ∨ ¬ x ≤ nI m := by
  by_cases c : x < 0
  · exact Or.inr (Or.inl c)
  · obtain ⟨j, hj, e⟩ := nI_of c
    by_cases d : j ≤ m
    · exact Or.inl ⟨j, d, e⟩
    · right; right
      rw [e, nI_leI hj hm]; exact d
theorem ag_out3 {x : Int32} (h : x < 0 ∨ ¬ x ≤ 3) : ¬ x = 0 ∧ ¬ x = 1 ∧ ¬ x = 2 ∧ ¬ x = 3 := by
  refine ⟨fun e => ?_, fun e => ?_, fun e => ?_, fun e => ?_⟩ <;> subst e <;> revert h <;> decide
theorem ag_out4 {x : Int32} (h : x < 0 ∨ ¬ x ≤ 4) : ¬ x = 0 ∧ ¬ x = 1 ∧ ¬ x = 2 ∧ ¬ x = 3 ∧ ¬ x = 4 := by
  refine ⟨fun e => ?_, fun e => ?_, fun e => ?_, fun e => ?_, fun e => ?_⟩ <;> subst e <;> revert h <;> decide
theorem ag_4 (x : Int32) : x = 0 ∨ x = 1 ∨ x = 2 ∨ x = 3 ∨ (x < 0 ∨ ¬ x ≤ 3) := by
  rcases ag_sm (x := x) 3 (by decide) with ⟨j, hj, e⟩ | h
  · have h1 : j = 0 ∨ j = 1 ∨ j = 2 ∨ j = 3 := by omega
    rcases h1 with rfl | rfl | rfl | rfl
    · exact Or.inl e
    · exact Or.inr (Or.inl e)
    · exact Or.inr (Or.inr (Or.inl e))
    · exact Or.inr (Or.inr (Or.inr (Or.inl e)))
  · exact Or.inr (Or.inr (Or.inr (Or.inr h)))
theorem ag_5 (x : Int32) : x = 0 ∨ x = 1 ∨ x = 2 ∨ x = 3 ∨ x = 4 ∨ (x < 0 ∨ ¬ x ≤ 4) := by
  rcases ag_sm (x := x) 4 (by decide) with ⟨j, hj, e⟩ | h
  · have h1 : j = 0 ∨ j = 1 ∨ j = 2 ∨ j = 3 ∨ j = 4 := by omega
    rcases h1 with rfl | rfl | rfl | rfl | rfl
    · exact Or.inl e
    · exact Or.inr (Or.inl e)
    · exact Or.inr (Or.inr (Or.inl e))
    · exact Or.inr (Or.inr (Or.inr (Or.inl e)))
    · exact Or.inr (Or.inr (Or.inr (Or.inr (Or.inl e))))
  · exact Or.inr (Or.inr (Or.inr (Or.inr (Or.inr h))))
theorem ag_nodes {n1 rt ac : Int32} {sv hv d a1 a2 : Int32} : (f_L_nodes sv hv n1 rt ac a1 a2 = (1, sv, hv, n1, rt, ac) ∧ f_X4_nodes n1 rt ac sv hv d a1 a2 = (n1, rt, ac, sv, hv, d, 1)) ∨ (∃ n r : Nat, a1 = nI n ∧ a2 = nI r ∧ n ≤ 24 ∧ r < n ∧ f_L_nodes sv hv n1 rt ac a1 a2 = (0, 0, 0, a1, a2, 0) ∧ f_X4_nodes n1 rt ac sv hv d a1 a2 = (a1, a2, 0, 0, 0, 0, 0)) := by
  have bad : x_X3_nodes sv hv n1 rt ac a1 a2 = some "java/lang/IllegalArgumentException" → f_L_nodes sv hv n1 rt ac a1 a2 = (1, sv, hv, n1, rt, ac) := fun h => by
    unfold f_L_nodes
    rw [h, if_neg (by simp)]
  by_cases c1 : a1 < 1
  · left
    refine ⟨bad ?_, ?_⟩
    · unfold x_X3_nodes; rw [if_pos c1]
    · unfold f_X4_nodes; rw [if_pos c1]
  · by_cases c2 : a1 ≤ 24
    · have c2' : ¬ 24 < a1 := ag_nle.mp c2
      by_cases c3 : a2 < 0
      · left
        refine ⟨bad ?_, ?_⟩
        · unfold x_X3_nodes; rw [if_neg c1, if_pos c2, if_pos c3]
        · unfold f_X4_nodes; rw [if_neg c1, if_neg c2', if_pos c3]
      · by_cases c4 : a2 < a1
        · right
          have c5 : ¬ a1 < 0 := fun h => c1 (Int32.lt_trans h (by decide))
          obtain ⟨n, hn, e1⟩ := nI_of c5
          obtain ⟨r, hr, e2⟩ := nI_of c3
          refine ⟨n, r, e1, e2, ?_, ?_, ?_, ?_⟩
          · rw [e1] at c2; exact (nI_leI (b := 24) hn (by decide)).mp c2
          · rw [e1, e2] at c4; exact (nI_ltI hr hn).mp c4
          · have x0 : x_X3_nodes sv hv n1 rt ac a1 a2 = none := by unfold x_X3_nodes; rw [if_neg c1, if_pos c2, if_neg c3, if_pos c4]
            have f0 : f_X3_nodes sv hv n1 rt ac a1 a2 = (0, 0, a1, a2, 0) := by unfold f_X3_nodes; rw [if_neg c1, if_pos c2, if_neg c3, if_pos c4]
            unfold f_L_nodes
            rw [x0, if_pos rfl, f0]
          · unfold f_X4_nodes; rw [if_neg c1, if_neg c2', if_neg c3, if_pos c4]
        · left
          refine ⟨bad ?_, ?_⟩
          · unfold x_X3_nodes; rw [if_neg c1, if_pos c2, if_neg c3, if_neg c4]
          · unfold f_X4_nodes; rw [if_neg c1, if_neg c2', if_neg c3, if_neg c4]
    · left
      refine ⟨bad ?_, ?_⟩
      · unfold x_X3_nodes; rw [if_neg c1, if_neg c2]
      · unfold f_X4_nodes; rw [if_neg c1, if_pos (Int32.not_le.mp c2)]
theorem ag_add {nk ak : Nat} {sv hv d a1 a2 : Int32} {w : Int64} {fr to : Nat → Int32} {wt : Nat → Int64} {op : Nat → Int32} {ou : Nat → Int64} (hnk : nk ≤ 24) (hak : ak ≤ 60) :
    (∃ t : Int32, ¬ t = 0 ∧ f_L_arc sv hv (nI nk) ak fr to wt op a1 a2 w ou = (t, sv, hv, nI ak, fr, to, wt, op, ou) ∧ f_X4_arc (nI nk) ak sv hv d fr to wt op a1 a2 w = (0, nI ak, sv, hv, d, t, fr, to, wt, op)) ∨
    (f_L_arc sv hv (nI nk) ak fr to wt op a1 a2 w ou = (0, sv, hv, nI ak, fr, to, wt, op, vp_updL ou 0 ((-1 : Int32).toInt64)) ∧ f_X4_arc (nI nk) ak sv hv d fr to wt op a1 a2 w = (-1, nI ak, sv, hv, d, 0, fr, to, wt, op)) ∨
    (ak < 60 ∧ tq_r nk a1 ∧ tq_r nk a2 ∧ f_L_arc sv hv (nI nk) ak fr to wt op a1 a2 w ou = (0, 0, 0, nI (ak + 1), upd fr ak a1, upd to ak a2, vp_updL wt ak w, upd op ak 1, vp_updL ou 0 ((nI ak).toInt64)) ∧ f_X4_arc (nI nk) ak sv hv d fr to wt op a1 a2 w = (nI ak, nI (ak + 1), 0, 0, 0, 0, upd fr ak a1, upd to ak a2, vp_updL wt ak w, upd op ak 1)) := by
  have bad1 : x_X3_arc sv hv (nI nk) ak fr to wt op a1 a2 w = some "java/lang/IndexOutOfBoundsException" → f_L_arc sv hv (nI nk) ak fr to wt op a1 a2 w ou = (1, sv, hv, nI ak, fr, to, wt, op, ou) := fun h => by
    unfold f_L_arc
    rw [h, if_neg (by simp), if_pos rfl]
  have bad2 : x_X3_arc sv hv (nI nk) ak fr to wt op a1 a2 w = some "java/lang/IllegalArgumentException" → f_L_arc sv hv (nI nk) ak fr to wt op a1 a2 w ou = (2, sv, hv, nI ak, fr, to, wt, op, ou) := fun h => by
    unfold f_L_arc
    rw [h, if_neg (by simp), if_neg (by simp)]
  have k60 : nI ak < 60 ↔ ak < 60 := nI_ltI (b := 60) (by omega) (by decide)
  have e60 : nI ak = 60 ↔ ak = 60 := nI_eq (b := 60) (by omega) (by decide)
  rcases ag_node (n := nk) (p := a1) (by omega) with ⟨e1, e2, g1⟩ | ⟨e1, e2⟩
  · rcases ag_node (n := nk) (p := a2) (by omega) with ⟨e3, e4, g2⟩ | ⟨e3, e4⟩
    · by_cases c1 : a1 = a2
      · left
        refine ⟨2, by decide, bad2 ?_, ?_⟩
        · unfold x_X3_arc; rw [e1, if_pos rfl, e3, if_pos rfl, if_pos c1]
        · unfold f_X4_arc; rw [e2, if_pos rfl, e4, if_pos rfl, if_pos c1]
      · rcases ag_weight (p := w) with ⟨e5, g3, g4⟩ | ⟨e5, g3⟩
        · have x0 : x_X3_arc sv hv (nI nk) ak fr to wt op a1 a2 w = none := by
            unfold x_X3_arc; rw [e1, if_pos rfl, e3, if_pos rfl, if_neg c1, e5, if_pos rfl, ite_self]
          by_cases c2 : ak = 60
          · right; left
            have ea : f_X1_addArc ak fr to wt op a1 a2 w = (-1, nI ak, fr, to, wt, op) := by
              unfold f_X1_addArc
              rw [if_neg (fun h => absurd (k60.mp h) (by omega))]
            have f0 : f_X3_arc sv hv (nI nk) ak fr to wt op a1 a2 w = (-1, sv, hv, nI ak, fr, to, wt, op) := by
              unfold f_X3_arc; rw [e1, if_pos rfl, e3, if_pos rfl, if_neg c1, e5, if_pos rfl, ea, if_pos rfl]
            constructor
            · unfold f_L_arc; rw [x0, if_pos rfl, f0]
            · unfold f_X4_arc; rw [e2, if_pos rfl, e4, if_pos rfl, if_neg c1, if_neg g3, if_pos g4, if_pos (show nI ak = 60 by rw [c2]; rfl)]
          · right; right
            have c3 : ak < 60 := by omega
            have hm1 : ¬ nI ak = -1 := tq_r_ne (tq_r_nI (n := 60) c3 (by decide)) (by decide)
            have ea : f_X1_addArc ak fr to wt op a1 a2 w = (nI ak, nI (ak + 1), upd fr ak a1, upd to ak a2, vp_updL wt ak w, upd op ak 1) := by
              unfold f_X1_addArc
              rw [if_pos (k60.mpr c3), nI_1]
            have f0 : f_X3_arc sv hv (nI nk) ak fr to wt op a1 a2 w = (nI ak, 0, 0, nI (ak + 1), upd fr ak a1, upd to ak a2, vp_updL wt ak w, upd op ak 1) := by
              unfold f_X3_arc; rw [e1, if_pos rfl, e3, if_pos rfl, if_neg c1, e5, if_pos rfl, ea, if_neg hm1]
            refine ⟨c3, g1, g2, ?_, ?_⟩
            · unfold f_L_arc; rw [x0, if_pos rfl, f0]
            · unfold f_X4_arc; rw [e2, if_pos rfl, e4, if_pos rfl, if_neg c1, if_neg g3, if_pos g4, if_neg (fun h => c2 (e60.mp h)), nI_1, nI_pred]
        · left
          refine ⟨2, by decide, bad2 ?_, ?_⟩
          · unfold x_X3_arc; rw [e1, if_pos rfl, e3, if_pos rfl, if_neg c1, e5, if_neg (by simp)]
          · unfold f_X4_arc; rw [e2, if_pos rfl, e4, if_pos rfl, if_neg c1]
            rcases g3 with h | ⟨h1, h2⟩
            · rw [if_pos h]
            · rw [if_neg h1, if_neg h2]
    · left
      refine ⟨1, by decide, bad1 ?_, ?_⟩
      · unfold x_X3_arc; rw [e1, if_pos rfl, e3, if_neg (by simp)]
      · unfold f_X4_arc; rw [e2, if_pos rfl, e4, if_neg (by decide)]
  · left
    refine ⟨1, by decide, bad1 ?_, ?_⟩
    · unfold x_X3_arc; rw [e1, if_neg (by simp)]
    · unfold f_X4_arc; rw [e2, if_neg (by decide)]
theorem ag_weigh {ak : Nat} {sv hv d a1 : Int32} {w : Int64} {wt ou : Nat → Int64} (hak : ak ≤ 60) :
    (∃ t : Int32, ¬ t = 0 ∧ f_L_weigh sv hv ak wt a1 w ou = (t, sv, hv, wt, ou) ∧ f_X4_weigh ak sv hv d wt a1 w = (0, sv, hv, d, t, wt)) ∨
    (f_L_weigh sv hv ak wt a1 w ou = (0, 0, 0, vp_updL wt (tq_x a1) w, vp_updL ou 0 (wt (tq_x a1))) ∧ f_X4_weigh ak sv hv d wt a1 w = (wt (tq_x a1), 0, 0, 0, 0, vp_updL wt (tq_x a1) w)) := by
  rcases ag_arc (n := ak) (p := a1) (by omega) with ⟨e1, e2, g1⟩ | ⟨e1, e2⟩
  · rcases ag_weight (p := w) with ⟨e5, g3, g4⟩ | ⟨e5, g3⟩
    · right
      have x0 : x_X3_weigh sv hv ak wt a1 w = none := by unfold x_X3_weigh; rw [e1, if_pos rfl, e5, if_pos rfl]
      have f0 : f_X3_weigh sv hv ak wt a1 w = (wt (tq_x a1), 0, 0, vp_updL wt (tq_x a1) w) := by unfold f_X3_weigh; rw [e1, if_pos rfl, e5, if_pos rfl]
      constructor
      · unfold f_L_weigh; rw [x0, if_pos rfl, f0]
      · unfold f_X4_weigh; rw [e2, if_pos rfl, if_neg g3, if_pos g4]
    · left
      have x0 : x_X3_weigh sv hv ak wt a1 w = some "java/lang/IllegalArgumentException" := by unfold x_X3_weigh; rw [e1, if_pos rfl, e5, if_neg (by simp)]
      refine ⟨2, by decide, ?_, ?_⟩
      · unfold f_L_weigh; rw [x0, if_neg (by simp), if_neg (by simp)]
      · unfold f_X4_weigh; rw [e2, if_pos rfl]
        rcases g3 with h | ⟨h1, h2⟩
        · rw [if_pos h]
        · rw [if_neg h1, if_neg h2]
  · left
    have x0 : x_X3_weigh sv hv ak wt a1 w = some "java/lang/IndexOutOfBoundsException" := by unfold x_X3_weigh; rw [e1, if_neg (by simp)]
    refine ⟨1, by decide, ?_, ?_⟩
    · unfold f_L_weigh; rw [x0, if_neg (by simp), if_pos rfl]
    · unfold f_X4_weigh; rw [e2, if_neg (by decide)]
theorem ag_open {ak : Nat} {sv hv d a1 p1 : Int32} {op : Nat → Int32} {ou : Nat → Int64} (hak : ak ≤ 60) :
    (f_L_open sv hv ak op a1 p1 ou = (1, sv, hv, op, ou) ∧ f_X4_open ak sv hv d op a1 p1 = (0, sv, hv, d, 1, op)) ∨
    (f_L_open sv hv ak op a1 p1 ou = (0, 0, 0, upd op (tq_x a1) p1, vp_updL ou 0 (if op (tq_x a1) = 0 then 0 else 1)) ∧ f_X4_open ak sv hv d op a1 p1 = (op (tq_x a1), 0, 0, 0, 0, upd op (tq_x a1) p1)) := by
  rcases ag_arc (n := ak) (p := a1) (by omega) with ⟨e1, e2, g1⟩ | ⟨e1, e2⟩
  · right
    have x0 : x_X3_open sv hv ak op a1 p1 = none := by unfold x_X3_open; rw [e1, if_pos rfl]
    have f0 : f_X3_open sv hv ak op a1 p1 = (op (tq_x a1), 0, 0, upd op (tq_x a1) p1) := by unfold f_X3_open; rw [e1, if_pos rfl]
    constructor
    · unfold f_L_open
      rw [x0, if_pos rfl, f0]
      dsimp only
      by_cases c : op (tq_x a1) = 0
      · rw [if_pos c, if_pos c]
      · rw [if_neg c, if_neg c]
    · unfold f_X4_open; rw [e2, if_pos rfl]
  · left
    have x0 : x_X3_open sv hv ak op a1 p1 = some "java/lang/IndexOutOfBoundsException" := by unfold x_X3_open; rw [e1, if_neg (by simp)]
    constructor
    · unfold f_L_open; rw [x0, if_neg (by simp)]
    · unfold f_X4_open; rw [e2, if_neg (by decide)]
theorem ag_count {op : Nat → Int32} : ∀ n, t_X4_about_31 op 0 n = f_X1_openCount n op := by
  intro n
  induction n with
  | zero => rfl
  | succ n ih =>
    have b1 : t_X4_about_31 op 0 (n + 1) = b_X4_about_31 op n (t_X4_about_31 op 0 n) := rfl
    have b2 : f_X1_openCount (n + 1) op = b_X1_openCount_4 op n (f_X1_openCount n op) := rfl
    rw [b1, b2, ih]
    unfold b_X4_about_31 b_X1_openCount_4
    by_cases c : op n = 0
    · rw [if_pos c, if_pos c, Int32.add_zero]
    · rw [if_neg c, if_neg c]
