theorem ag_sm {x : Int32} (m : Nat) (hm : m < 2 ^ 31) : (∃ j, j ≤ m ∧ x = nI j) ∨ x < 0 ∨ ¬ x ≤ nI m := by
  by_cases c : x < 0
  · exact Or.inr (Or.inl c)
  · obtain ⟨j, hj, e⟩ := nI_of c
    by_cases d : j ≤ m
    · exact Or.inl ⟨j, d, e⟩
    · right; right
      rw [e, nI_leI hj hm]; exact d
theorem ag_out3 {x : Int32} (h : x < 0 ∨ ¬ x ≤ 3) : ¬ x = 0 ∧ ¬ x = 1 ∧ ¬ x = 2 ∧ ¬ x = 3 := by
  refine ⟨fun e => ?_, fun e => ?_, fun e => ?_, fun e => ?_⟩ <;> subst e <;> revert h <;> decide
theorem ag_out4 {x : Int32} (h : x < 0 ∨ ¬ x ≤ 4) : ¬ x = 0 ∧ ¬ x = 1 ∧ ¬ x = 2 ∧ ¬ x = 3 ∧ ¬ x = 4 := by
  refine ⟨fun e => ?_, fun e => ?_, fun e => ?_, fun e => ?_, fun e => ?_⟩ <;> subst e <;> revert h <;> decide
theorem ag_4 (x : Int32) : x = 0 ∨ x = 1 ∨ x = 2 ∨ x = 3 ∨ (x < 0 ∨ ¬ x ≤ 3) := by
  rcases ag_sm (x := x) 3 (by decide) with ⟨j, hj, e⟩ | h
  · have h1 : j = 0 ∨ j = 1 ∨ j = 2 ∨ j = 3 := by omega
    rcases h1 with rfl | rfl | rfl | rfl
    · exact Or.inl e
    · exact Or.inr (Or.inl e)
    · exact Or.inr (Or.inr (Or.inl e))
    · exact Or.inr (Or.inr (Or.inr (Or.inl e)))
  · exact Or.inr (Or.inr (Or.inr (Or.inr h)))
theorem ag_5 (x : Int32) : x = 0 ∨ x = 1 ∨ x = 2 ∨ x = 3 ∨ x = 4 ∨ (x < 0 ∨ ¬ x ≤ 4) := by
  rcases ag_sm (x := x) 4 (by decide) with ⟨j, hj, e⟩ | h
  · have h1 : j = 0 ∨ j = 1 ∨ j = 2 ∨ j = 3 ∨ j = 4 := by omega
    rcases h1 with rfl | rfl | rfl | rfl | rfl
    · exact Or.inl e
    · exact Or.inr (Or.inl e)
    · exact Or.inr (Or.inr (Or.inl e))
    · exact Or.inr (Or.inr (Or.inr (Or.inl e)))
    · exact Or.inr (Or.inr (Or.inr (Or.inr (Or.inl e))))
  · exact Or.inr (Or.inr (Or.inr (Or.inr (Or.inr h))))
theorem ag_nodes {n1 rt ac : Int32} {sv hv d a1 a2 : Int32} : (f_L_nodes sv hv n1 rt ac a1 a2 = (1, sv, hv, n1, rt, ac) ∧ f_X4_nodes n1 rt ac sv hv d a1 a2 = (n1, rt, ac, sv, hv, d, 1)) ∨ (∃ n r : Nat, a1 = nI n ∧ a2 = nI r ∧ n ≤ 24 ∧ r < n ∧ f_L_nodes sv hv n1 rt ac a1 a2 = (0, 0, 0, a1, a2, 0) ∧ f_X4_nodes n1 rt ac sv hv d a1 a2 = (a1, a2, 0, 0, 0, 0, 0)) := by
  unfold f_L_nodes x_X3_nodes f_X3_nodes f_X4_nodes
  by_cases c1 : a1 < 1
  · left
    rw [if_pos c1, if_pos c1, if_pos c1, if_neg (by simp)]
    exact ⟨rfl, rfl⟩
  · rw [if_neg c1, if_neg c1, if_neg c1]
    by_cases c2 : a1 ≤ 24
    · rw [if_pos c2, if_pos c2, if_neg (fun h => (ag_nle.mp c2) h)]
      by_cases c3 : a2 < 0
      · left
        rw [if_pos c3, if_pos c3, if_pos c3, if_neg (by simp)]
        exact ⟨rfl, rfl⟩
      · rw [if_neg c3, if_neg c3, if_neg c3]
        by_cases c4 : a2 < a1
        · right
          have c5 : ¬ a1 < 0 := fun h => c1 (Int32.lt_trans h (by decide))
          obtain ⟨n, hn, e1⟩ := nI_of c5
          obtain ⟨r, hr, e2⟩ := nI_of c3
          refine ⟨n, r, e1, e2, ?_, ?_, ?_⟩
          · rw [e1] at c2; exact (nI_leI (b := 24) hn (by decide)).mp c2
          · rw [e1, e2] at c4; exact (nI_ltI hr hn).mp c4
          · rw [if_pos c4, if_pos c4, if_pos c4, if_pos rfl]
            exact ⟨rfl, rfl⟩
        · left
          rw [if_neg c4, if_neg c4, if_neg c4, if_neg (by simp)]
          exact ⟨rfl, rfl⟩
    · left
      have c3 : 24 < a1 := Int32.not_le.mp c2
      rw [if_neg c2, if_neg c2, if_pos c3, if_neg (by simp)]
      exact ⟨rfl, rfl⟩
theorem ag_add {nk ak : Nat} {sv hv d a1 a2 : Int32} {w : Int64} {fr to : Nat → Int32} {wt : Nat → Int64} {op : Nat → Int32} {ou : Nat → Int64} (hnk : nk ≤ 24) (hak : ak ≤ 60) :
    (∃ t : Int32, ¬ t = 0 ∧ f_L_arc sv hv (nI nk) ak fr to wt op a1 a2 w ou = (t, sv, hv, nI ak, fr, to, wt, op, ou) ∧ f_X4_arc (nI nk) ak sv hv d fr to wt op a1 a2 w = (0, nI ak, sv, hv, d, t, fr, to, wt, op)) ∨
    (f_L_arc sv hv (nI nk) ak fr to wt op a1 a2 w ou = (0, sv, hv, nI ak, fr, to, wt, op, vp_updL ou 0 ((-1 : Int32).toInt64)) ∧ f_X4_arc (nI nk) ak sv hv d fr to wt op a1 a2 w = (-1, nI ak, sv, hv, d, 0, fr, to, wt, op)) ∨
    (ak < 60 ∧ tq_r nk a1 ∧ tq_r nk a2 ∧ f_L_arc sv hv (nI nk) ak fr to wt op a1 a2 w ou = (0, 0, 0, nI (ak + 1), upd fr ak a1, upd to ak a2, vp_updL wt ak w, upd op ak 1, vp_updL ou 0 ((nI ak).toInt64)) ∧ f_X4_arc (nI nk) ak sv hv d fr to wt op a1 a2 w = (nI ak, nI (ak + 1), 0, 0, 0, 0, upd fr ak a1, upd to ak a2, vp_updL wt ak w, upd op ak 1)) := by
  unfold f_L_arc x_X3_arc f_X3_arc f_X4_arc
  rcases ag_node (n := nk) (p := a1) (by omega) with ⟨e1, e2, g1⟩ | ⟨e1, e2⟩
  · rcases ag_node (n := nk) (p := a2) (by omega) with ⟨e3, e4, g2⟩ | ⟨e3, e4⟩
    · rw [e1, e2, e3, e4]
      rw [if_pos rfl, if_pos rfl, if_pos rfl, if_pos rfl, if_pos rfl, if_pos rfl]
      by_cases c1 : a1 = a2
      · left
        refine ⟨2, by decide, ?_, ?_⟩
        · rw [if_pos c1, if_neg (by simp), if_neg (by simp)]
        · rw [if_pos c1]
      · rw [if_neg c1, if_neg c1, if_neg c1]
        rcases ag_weight (p := w) with ⟨e5, g3, g4⟩ | ⟨e5, g3⟩
        · rw [e5, if_pos rfl, if_pos rfl, if_neg g3, if_pos g4, ite_self, if_pos rfl]
          unfold f_X1_addArc
          by_cases c2 : ak = 60
          · right; left
            subst c2
            rw [if_neg (by decide), if_pos rfl, if_pos (by decide)]
            exact ⟨rfl, rfl⟩
          · right; right
            have c3 : ak < 60 := by omega
            rw [if_pos ((nI_ltI (b := 60) (by omega) (by decide)).mpr c3), if_neg (tq_r_ne (tq_r_nI (n := 60) c3 (by decide)) (by decide)), if_neg (fun h => c2 ((nI_eq (b := 60) (by omega) (by decide)).mp h))]
            refine ⟨c3, g1, g2, ?_, ?_⟩
            · rw [nI_1]
            · rw [nI_1, nI_pred]
        · left
          refine ⟨2, by decide, ?_, ?_⟩
          · rw [e5, if_neg (by simp), if_neg (by simp), if_neg (by simp)]
          · rcases g3 with h | ⟨h1, h2⟩
            · rw [if_pos h]
            · rw [if_neg h1, if_neg h2]
    · left
      refine ⟨1, by decide, ?_, ?_⟩
      · rw [e1, e3, if_pos rfl, if_neg (by simp), if_neg (by simp), if_pos rfl]
      · rw [e2, e4, if_pos rfl, if_neg (by decide)]
  · left
    refine ⟨1, by decide, ?_, ?_⟩
    · rw [e1, if_neg (by simp), if_neg (by simp), if_pos rfl]
    · rw [e2, if_neg (by decide)]
theorem ag_weigh {ak : Nat} {sv hv d a1 : Int32} {w : Int64} {wt ou : Nat → Int64} (hak : ak ≤ 60) :
    (∃ t : Int32, ¬ t = 0 ∧ f_L_weigh sv hv ak wt a1 w ou = (t, sv, hv, wt, ou) ∧ f_X4_weigh ak sv hv d wt a1 w = (0, sv, hv, d, t, wt)) ∨
    (f_L_weigh sv hv ak wt a1 w ou = (0, 0, 0, vp_updL wt (tq_x a1) w, vp_updL ou 0 (wt (tq_x a1))) ∧ f_X4_weigh ak sv hv d wt a1 w = (wt (tq_x a1), 0, 0, 0, 0, vp_updL wt (tq_x a1) w)) := by
  unfold f_L_weigh x_X3_weigh f_X3_weigh f_X4_weigh
  rcases ag_arc (n := ak) (p := a1) (by omega) with ⟨e1, e2, g1⟩ | ⟨e1, e2⟩
  · rcases ag_weight (p := w) with ⟨e5, g3, g4⟩ | ⟨e5, g3⟩
    · right
      rw [e1, e2, e5, if_pos rfl, if_pos rfl, if_pos rfl, if_pos rfl, if_pos rfl, if_pos rfl, if_neg g3, if_pos g4]
      exact ⟨rfl, rfl⟩
    · left
      refine ⟨2, by decide, ?_, ?_⟩
      · rw [e1, e5, if_pos rfl, if_neg (by simp), if_neg (by simp), if_neg (by simp)]
      · rw [e2, if_pos rfl]
        rcases g3 with h | ⟨h1, h2⟩
        · rw [if_pos h]
        · rw [if_neg h1, if_neg h2]
  · left
    refine ⟨1, by decide, ?_, ?_⟩
    · rw [e1, if_neg (by simp), if_neg (by simp), if_pos rfl]
    · rw [e2, if_neg (by decide)]
theorem ag_open {ak : Nat} {sv hv d a1 p1 : Int32} {op : Nat → Int32} {ou : Nat → Int64} (hak : ak ≤ 60) :
    (f_L_open sv hv ak op a1 p1 ou = (1, sv, hv, op, ou) ∧ f_X4_open ak sv hv d op a1 p1 = (0, sv, hv, d, 1, op)) ∨
    (f_L_open sv hv ak op a1 p1 ou = (0, 0, 0, upd op (tq_x a1) p1, vp_updL ou 0 (if op (tq_x a1) = 0 then 0 else 1)) ∧ f_X4_open ak sv hv d op a1 p1 = (op (tq_x a1), 0, 0, 0, 0, upd op (tq_x a1) p1)) := by
  unfold f_L_open x_X3_open f_X3_open f_X4_open
  rcases ag_arc (n := ak) (p := a1) (by omega) with ⟨e1, e2, g1⟩ | ⟨e1, e2⟩
  · right
    rw [e1, e2, if_pos rfl, if_pos rfl, if_pos rfl, if_pos rfl]
    refine ⟨?_, rfl⟩
    dsimp only
    by_cases c : op (tq_x a1) = 0
    · rw [if_pos c, if_pos c]
    · rw [if_neg c, if_neg c]
  · left
    rw [e1, e2, if_neg (by simp), if_neg (by simp), if_neg (by decide)]
    exact ⟨rfl, rfl⟩
theorem ag_count {op : Nat → Int32} : ∀ n, t_X4_about_31 op 0 n = f_X1_openCount n op := by
  intro n
  induction n with
  | zero => rfl
  | succ n ih =>
    have b1 : t_X4_about_31 op 0 (n + 1) = b_X4_about_31 op n (t_X4_about_31 op 0 n) := rfl
    have b2 : f_X1_openCount (n + 1) op = b_X1_openCount_4 op n (f_X1_openCount n op) := rfl
    rw [b1, b2, ih]
    unfold b_X4_about_31 b_X1_openCount_4
    by_cases c : op n = 0
    · rw [if_pos c, if_pos c, Int32.add_zero]
    · rw [if_neg c, if_neg c]
