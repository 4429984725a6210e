/-! The reference's search for a ring through the live set s. -/
def rw_c (M : Nat → Nat → Prop) (k : Nat) (Fn : Nat → Nat) (s m : Nat) (c : Nat → Nat) : Prop := c 0 = s ∧ (∀ j, j ≤ m → fm_live M k (c j)) ∧ (∀ j, j < m → M (c (j + 1)) (Fn (c j))) ∧ ∀ j, 0 < j → j ≤ m → c j ≠ s
theorem c_un_congr {W c c' : Nat → Nat} : ∀ m, (∀ j, j < m → c j = c' j) → c_un W c m = c_un W c' m := by
  intro m
  induction m with
  | zero => intro _; rfl
  | succ m ih =>
    intro h
    show c_un W c m ||| W (c m) = c_un W c' m ||| W (c' m)
    rw [ih (fun j hj => h j (by omega)), h m (by omega)]
theorem r_trace {nk ak r k : Nat} {fr to : Nat → Int32} {wt : Nat → Int64} {op mm ma mv ml : Nat → Int32} {du dh dl : Nat → Int64} (hnk : nk ≤ 24) (hak : ak ≤ 60) (hfr : ∀ j, j < 60 → tq_r 24 (fr j)) (hfr2 : ∀ j, j < ak → tq_x (fr j) < nk) (C : ri (c_N nk r) ak fr to wt op k mm ma mv ml du dh dl) (hk : k ≤ 48) {s : Nat} (hs : fm_live (gm (c_W mm)) k s) : ∀ i,
    ∃ (m : Nat) (c : Nat → Nat), rw_c (gm (c_W mm)) k (fun t => tq_x (fr (tq_x (ma t)))) s m c ∧ (t_X4_joinRing_35 k fr mm ma ml s (mm s, f_X4_before k fr mm ma ml s) i).2 = (nI (c_un (c_W mm) c (m + 1)), f_X4_before k fr mm ma ml (c m)) ∧
      ((t_X4_joinRing_35 k fr mm ma ml s (mm s, f_X4_before k fr mm ma ml s) i).1 = false → m = i) ∧ ((t_X4_joinRing_35 k fr mm ma ml s (mm s, f_X4_before k fr mm ma ml s) i).1 = true → f_X4_before k fr mm ma ml (c m) < 0 ∨ f_X4_before k fr mm ma ml (c m) = nI s) := by
  have hmm : ∀ p, p < k → mm p = nI (c_W mm p) ∧ c_W mm p < 2 ^ 24 := fun p hp => (C.2.1 p hp).1
  intro i
  induction i with
  | zero =>
    refine ⟨0, fun _ => s, ⟨rfl, fun j _ => hs, fun j hj => absurd hj (by omega), fun j h1 h2 => absurd h1 (by omega)⟩, ?_, fun _ => rfl, fun h => absurd h Bool.false_ne_true⟩
    show (mm s, f_X4_before k fr mm ma ml s) = (nI (0 ||| c_W mm s), f_X4_before k fr mm ma ml s)
    rw [Nat.zero_or, ← (hmm s hs.1).1]
  | succ i ih =>
    obtain ⟨m, c, hc, e1, h1, h2⟩ := ih
    rcases hq : t_X4_joinRing_35 k fr mm ma ml s (mm s, f_X4_before k fr mm ma ml s) i with ⟨fl, all, p⟩
    rw [hq] at e1 h1 h2
    have e1 : (all, p) = (nI (c_un (c_W mm) c (m + 1)), f_X4_before k fr mm ma ml (c m)) := e1
    have ea : all = nI (c_un (c_W mm) c (m + 1)) := congrArg Prod.fst e1
    have ep : p = f_X4_before k fr mm ma ml (c m) := congrArg Prod.snd e1
    cases fl
    · have e2 : t_X4_joinRing_35 k fr mm ma ml s (mm s, f_X4_before k fr mm ma ml s) (i + 1) = b_X4_joinRing_35 k fr mm ma ml s i all p := tq_br_go hq
      have hm : m = i := h1 rfl
      subst hm
      rw [e2]
      unfold b_X4_joinRing_35
      by_cases c1 : p < 0
      · rw [if_pos c1]
        exact ⟨m, c, hc, e1, fun h => absurd h.symm Bool.false_ne_true, fun _ => Or.inl (by rw [← ep]; exact c1)⟩
      · rw [if_neg c1]
        by_cases c2 : p = nI s
        · rw [if_pos c2]
          exact ⟨m, c, hc, e1, fun h => absurd h.symm Bool.false_ne_true, fun _ => Or.inr (by rw [← ep]; exact c2)⟩
        · rw [if_neg c2]
          rcases r_before hnk hak hfr hfr2 C hk (hc.2.1 m (Nat.le_refl _)).1 with ⟨g1, -⟩ | ⟨h, g1, g2, g3⟩
          · exact absurd (by rw [ep, g1]; decide) c1
          · have hpe : p = nI h := ep.trans g1
            have hh := g2.1
            have hun : c_un (c_W mm) c (m + 1) < 2 ^ 24 := c_un_lt _ (fun j hj => (hmm _ (hc.2.1 j (by omega)).1).2)
            refine ⟨m + 1, fun j => if j = m + 1 then h else c j, ⟨?_, fun j hj => ?_, fun j hj => ?_, fun j h3 h4 => ?_⟩, ?_, fun _ => rfl, fun h => absurd h Bool.false_ne_true⟩
            · show (if 0 = m + 1 then h else c 0) = s
              rw [if_neg (by omega)]; exact hc.1
            · show fm_live (gm (c_W mm)) k (if j = m + 1 then h else c j)
              split
              · exact g2
              · exact hc.2.1 j (by omega)
            · show gm (c_W mm) (if j + 1 = m + 1 then h else c (j + 1)) (tq_x (fr (tq_x (ma (if j = m + 1 then h else c j)))))
              rw [if_neg (show ¬ j = m + 1 by omega)]
              by_cases c3 : j = m
              · rw [if_pos (by omega), c3]; exact g3
              · rw [if_neg (by omega)]; exact hc.2.2.1 j (by omega)
            · show (if j = m + 1 then h else c j) ≠ s
              by_cases c3 : j = m + 1
              · rw [if_pos c3]
                intro e9
                exact c2 (by rw [hpe, e9])
              · rw [if_neg c3]; exact hc.2.2.2 j h3 (by omega)
            · show (all ||| mm (tq_x p), f_X4_before k fr mm ma ml (tq_x p)) = (nI (c_un (c_W mm) (fun j => if j = m + 1 then h else c j) (m + 1) ||| c_W mm (if m + 1 = m + 1 then h else c (m + 1))), f_X4_before k fr mm ma ml (if m + 1 = m + 1 then h else c (m + 1)))
              rw [if_pos rfl, ← c_un_congr (c := c) (m + 1) (fun j hj => by show c j = if j = m + 1 then h else c j; rw [if_neg (by omega)]), hpe, tq_x_nI (by omega), ea, (hmm h hh).1, tb_or (by omega) (by have := (hmm h hh).2; omega)]
    · have e2 : t_X4_joinRing_35 k fr mm ma ml s (mm s, f_X4_before k fr mm ma ml s) (i + 1) = (true, all, p) := tq_br_end hq 1
      rw [e2]
      exact ⟨m, c, hc, e1, fun h => absurd h.symm Bool.false_ne_true, fun _ => h2 rfl⟩
