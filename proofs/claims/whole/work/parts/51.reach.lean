theorem k_round {ak : Nat} {fr to op : Nat → Int32} {w : Nat} (hw : w < 2 ^ 24) (hak : ak ≤ 60) (hfr : ∀ j, j < 60 → tq_r 24 (fr j)) (hto : ∀ j, j < 60 → tq_r 24 (to j)) :
    f_X1_oneRoundFurther ak fr to op (nI w) = nI (fb_rd (fun j => tq_x (fr j)) (fun j => tq_x (to j)) (fun j => ¬ op j = 0) w ak) ∧ fb_rd (fun j => tq_x (fr j)) (fun j => tq_x (to j)) (fun j => ¬ op j = 0) w ak < 2 ^ 24 := by
  unfold f_X1_oneRoundFurther
  refine tq_it_inv (N := ak) (fun j (x : Int32) => x = nI (fb_rd (fun j => tq_x (fr j)) (fun j => tq_x (to j)) (fun j => ¬ op j = 0) w j) ∧ fb_rd (fun j => tq_x (fr j)) (fun j => tq_x (to j)) (fun j => ¬ op j = 0) w j < 2 ^ 24) ⟨rfl, hw⟩ (fun j x hj h => ?_) ak (Nat.le_refl _)
  obtain ⟨rfl, hlt⟩ := h
  generalize hy : fb_rd (fun j => tq_x (fr j)) (fun j => tq_x (to j)) (fun j => ¬ op j = 0) w j = y at hlt ⊢
  have e1 : fb_rd (fun j => tq_x (fr j)) (fun j => tq_x (to j)) (fun j => ¬ op j = 0) w (j + 1) = if (¬ op j = 0) ∧ y.testBit (tq_x (fr j)) = true then y ||| 2 ^ tq_x (to j) else y := by rw [← hy]; rfl
  rw [e1]
  show b_X1_oneRoundFurther_4 fr to op j (nI y) = nI (if (¬ op j = 0) ∧ y.testBit (tq_x (fr j)) = true then y ||| 2 ^ tq_x (to j) else y) ∧ (if (¬ op j = 0) ∧ y.testBit (tq_x (fr j)) = true then y ||| 2 ^ tq_x (to j) else y) < 2 ^ 24
  unfold b_X1_oneRoundFurther_4
  by_cases c1 : op j = 0
  · rw [if_pos c1, if_neg (fun h => h.1 c1)]; exact ⟨rfl, hlt⟩
  · rw [if_neg c1]
    rcases hb : y.testBit (tq_x (fr j)) with _ | _
    · rw [if_pos ((fb_holds0 hlt (hfr j (by omega))).mpr hb), if_neg (fun h => Bool.false_ne_true h.2)]; exact ⟨rfl, hlt⟩
    · rw [if_neg (fun h => by rw [fb_holds0 hlt (hfr j (by omega)), hb] at h; exact Bool.false_ne_true h.symm), if_pos ⟨c1, rfl⟩, fb_or (n := 0) hlt (hto j (by omega))]
      exact ⟨rfl, fb_lt hlt (hto j (by omega)).2⟩
theorem k_reached {nk ak r : Nat} {fr to op : Nat → Int32} (hnk : nk ≤ 24) (hr : r < nk) (hak : ak ≤ 60) (hfr : ∀ j, j < 60 → tq_r 24 (fr j)) (hto : ∀ j, j < 60 → tq_r 24 (to j)) :
    f_X1_reachedNodes nk (nI r) ak fr to op = nI (fb_all (fun j => tq_x (fr j)) (fun j => tq_x (to j)) (fun j => ¬ op j = 0) ak (2 ^ r) nk) ∧ fb_all (fun j => tq_x (fr j)) (fun j => tq_x (to j)) (fun j => ¬ op j = 0) ak (2 ^ r) nk < 2 ^ 24 := by
  unfold f_X1_reachedNodes
  refine tq_it_inv (N := nk) (fun i (x : Int32) => x = nI (fb_all (fun j => tq_x (fr j)) (fun j => tq_x (to j)) (fun j => ¬ op j = 0) ak (2 ^ r) i) ∧ fb_all (fun j => tq_x (fr j)) (fun j => tq_x (to j)) (fun j => ¬ op j = 0) ak (2 ^ r) i < 2 ^ 24) ⟨tb_one r (by omega), Nat.pow_lt_pow_right (by decide) (by omega)⟩ (fun i x hi h => ?_) nk (Nat.le_refl _)
  obtain ⟨rfl, hlt⟩ := h
  exact k_round hlt hak hfr hto
/-- the reference's row: 0 and 1 alone, the root in it, nothing in it that can't be reached -/
def fb_J (F T : Nat → Nat) (o : Nat → Prop) (nk ak r : Nat) (y : Nat → Int32) : Prop := (∀ v, v < 24 → y v = 0 ∨ y v = 1) ∧ ¬ y r = 0 ∧ ∀ v, v < nk → ¬ y v = 0 → fb_R F T o ak r v
def fb_c (nk : Nat) (y : Nat → Int32) : Nat := fc (fun v => decide (¬ y v = 0)) nk
theorem fb_upd {y : Nat → Int32} {t v : Nat} : upd y t 1 v = if v = t then 1 else y v := rfl
theorem k_inner {nk ak r : Nat} {fr to op zz : Nat → Int32} (hnk : nk ≤ 24) (hto : ∀ j, j < ak → tq_x (to j) < nk) (hfr : ∀ j, j < ak → tq_x (fr j) < nk) (hJ : fb_J (fun j => tq_x (fr j)) (fun j => tq_x (to j)) (fun j => ¬ op j = 0) nk ak r zz) : ∀ j, j ≤ ak →
    fb_J (fun j => tq_x (fr j)) (fun j => tq_x (to j)) (fun j => ¬ op j = 0) nk ak r (t_X4_reach_45 fr to op (0, zz) j).2 ∧ fb_c nk zz ≤ fb_c nk (t_X4_reach_45 fr to op (0, zz) j).2 ∧ (¬ (t_X4_reach_45 fr to op (0, zz) j).1 = 0 → fb_c nk zz < fb_c nk (t_X4_reach_45 fr to op (0, zz) j).2) ∧
    ((t_X4_reach_45 fr to op (0, zz) j).1 = 0 → (t_X4_reach_45 fr to op (0, zz) j).2 = zz ∧ ∀ i, i < j → ¬ op i = 0 → ¬ zz (tq_x (fr i)) = 0 → ¬ zz (tq_x (to i)) = 0) := by
  unfold t_X4_reach_45
  refine tq_it_inv (N := ak) (fun j (x : Int32 × (Nat → Int32)) => fb_J (fun j => tq_x (fr j)) (fun j => tq_x (to j)) (fun j => ¬ op j = 0) nk ak r x.2 ∧ fb_c nk zz ≤ fb_c nk x.2 ∧ (¬ x.1 = 0 → fb_c nk zz < fb_c nk x.2) ∧ (x.1 = 0 → x.2 = zz ∧ ∀ i, i < j → ¬ op i = 0 → ¬ zz (tq_x (fr i)) = 0 → ¬ zz (tq_x (to i)) = 0)) ⟨hJ, Nat.le_refl _, fun h => absurd rfl h, fun _ => ⟨rfl, fun i hi => absurd hi (by omega)⟩⟩ (fun j x hj h => ?_)
  obtain ⟨mo, y⟩ := x
  obtain ⟨h1, h2, h3, h4⟩ := h
  have h4 : mo = 0 → y = zz ∧ ∀ i, i < j → ¬ op i = 0 → ¬ zz (tq_x (fr i)) = 0 → ¬ zz (tq_x (to i)) = 0 := h4
  have keep : (op j = 0 ∨ y (tq_x (fr j)) = 0 ∨ ¬ y (tq_x (to j)) = 0) → (mo = 0 → y = zz ∧ ∀ i, i < j + 1 → ¬ op i = 0 → ¬ zz (tq_x (fr i)) = 0 → ¬ zz (tq_x (to i)) = 0) := fun hc hm => by
    obtain ⟨rfl, h5⟩ := h4 hm
    refine ⟨rfl, fun i hi g1 g2 => ?_⟩
    by_cases c1 : i = j
    · subst c1
      rcases hc with q | q | q
      · exact absurd q g1
      · exact absurd q g2
      · exact q
    · exact h5 i (by omega) g1 g2
  show fb_J _ _ _ nk ak r (b_X4_reach_45 fr to op j mo y).2 ∧ fb_c nk zz ≤ fb_c nk (b_X4_reach_45 fr to op j mo y).2 ∧ (¬ (b_X4_reach_45 fr to op j mo y).1 = 0 → fb_c nk zz < fb_c nk (b_X4_reach_45 fr to op j mo y).2) ∧ ((b_X4_reach_45 fr to op j mo y).1 = 0 → (b_X4_reach_45 fr to op j mo y).2 = zz ∧ ∀ i, i < j + 1 → ¬ op i = 0 → ¬ zz (tq_x (fr i)) = 0 → ¬ zz (tq_x (to i)) = 0)
  unfold b_X4_reach_45
  by_cases c1 : op j = 0
  · rw [if_pos c1]; exact ⟨h1, h2, h3, keep (Or.inl c1)⟩
  · rw [if_neg c1]
    by_cases c2 : y (tq_x (fr j)) = 0
    · rw [if_pos c2]; exact ⟨h1, h2, h3, keep (Or.inr (Or.inl c2))⟩
    · rw [if_neg c2]
      by_cases c3 : y (tq_x (to j)) = 0
      · rw [if_pos c3]
        have hlt : fb_c nk y < fb_c nk (upd y (tq_x (to j)) 1) := by
          refine fc_lt (u := tq_x (to j)) nk (fun v _ hv => ?_) (hto j hj) (decide_eq_false (fun h => h c3)) ?_
          · have hv := of_decide_eq_true hv
            refine decide_eq_true ?_
            rw [fb_upd]
            split
            · decide
            · exact hv
          · refine decide_eq_true ?_
            rw [fb_upd, if_pos rfl]; decide
        have h2 : fb_c nk zz ≤ fb_c nk y := h2
        refine ⟨⟨fun v hv => ?_, ?_, fun v hv hz => ?_⟩, (show fb_c nk zz ≤ fb_c nk (upd y (tq_x (to j)) 1) by omega), fun _ => (show fb_c nk zz < fb_c nk (upd y (tq_x (to j)) 1) by omega), fun h => absurd (show (1 : Int32) = 0 from h) (by decide)⟩
        · show upd y (tq_x (to j)) 1 v = 0 ∨ upd y (tq_x (to j)) 1 v = 1
          rw [fb_upd]
          split
          · exact Or.inr rfl
          · exact h1.1 v hv
        · show ¬ upd y (tq_x (to j)) 1 r = 0
          rw [fb_upd]
          split
          · decide
          · exact h1.2.1
        · have hz : ¬ upd y (tq_x (to j)) 1 v = 0 := hz
          rw [fb_upd] at hz
          by_cases c4 : v = tq_x (to j)
          · rw [c4]; exact fb_Rs (F := fun j => tq_x (fr j)) (T := fun j => tq_x (to j)) hj c1 (h1.2.2 _ (hfr j hj) c2)
          · rw [if_neg c4] at hz; exact h1.2.2 v hv hz
      · rw [if_neg c3]; exact ⟨h1, h2, h3, keep (Or.inr (Or.inr c3))⟩
theorem k_outer {nk ak r : Nat} {fr to op z0 : Nat → Int32} (hnk : nk ≤ 24) (hr : r < nk) (hto : ∀ j, j < ak → tq_x (to j) < nk) (hfr : ∀ j, j < ak → tq_x (fr j) < nk) (hJ : fb_J (fun j => tq_x (fr j)) (fun j => tq_x (to j)) (fun j => ¬ op j = 0) nk ak r z0) : ∀ i,
    ((t_X4_reach_37 ak fr to op (1, z0) i).1 = false → fb_J (fun j => tq_x (fr j)) (fun j => tq_x (to j)) (fun j => ¬ op j = 0) nk ak r (t_X4_reach_37 ak fr to op (1, z0) i).2.2 ∧ i ≤ fb_c nk (t_X4_reach_37 ak fr to op (1, z0) i).2.2 ∧ (¬ (t_X4_reach_37 ak fr to op (1, z0) i).2.1 = 0 → i + 1 ≤ fb_c nk (t_X4_reach_37 ak fr to op (1, z0) i).2.2) ∧ ((t_X4_reach_37 ak fr to op (1, z0) i).2.1 = 0 → ∀ j, j < ak → ¬ op j = 0 → ¬ (t_X4_reach_37 ak fr to op (1, z0) i).2.2 (tq_x (fr j)) = 0 → ¬ (t_X4_reach_37 ak fr to op (1, z0) i).2.2 (tq_x (to j)) = 0)) ∧
    ((t_X4_reach_37 ak fr to op (1, z0) i).1 = true → fb_J (fun j => tq_x (fr j)) (fun j => tq_x (to j)) (fun j => ¬ op j = 0) nk ak r (t_X4_reach_37 ak fr to op (1, z0) i).2.2 ∧ ∀ j, j < ak → ¬ op j = 0 → ¬ (t_X4_reach_37 ak fr to op (1, z0) i).2.2 (tq_x (fr j)) = 0 → ¬ (t_X4_reach_37 ak fr to op (1, z0) i).2.2 (tq_x (to j)) = 0) := by
  intro i
  induction i with
  | zero =>
    refine ⟨fun _ => ⟨hJ, Nat.zero_le _, fun _ => fc_pos hr (decide_eq_true hJ.2.1), fun h => absurd (show (1 : Int32) = 0 from h) (by decide)⟩, fun h => absurd h Bool.false_ne_true⟩
  | succ i ih =>
    rcases hq : t_X4_reach_37 ak fr to op (1, z0) i with ⟨fl, more, z⟩
    rw [hq] at ih
    cases fl
    · have e1 : t_X4_reach_37 ak fr to op (1, z0) (i + 1) = b_X4_reach_37 ak fr to op i more z := tq_br_go hq
      obtain ⟨g1, g2, g3, g4⟩ := ih.1 rfl
      rw [e1]
      unfold b_X4_reach_37
      by_cases c1 : more = 0
      · rw [if_pos c1]
        exact ⟨fun h => absurd h.symm Bool.false_ne_true, fun _ => ⟨g1, g4 c1⟩⟩
      · rw [if_neg c1]
        have g3 : i + 1 ≤ fb_c nk z := g3 c1
        obtain ⟨k1, k2, k3, k4⟩ := k_inner hnk hto hfr g1 ak (Nat.le_refl _)
        refine ⟨fun _ => ⟨k1, Nat.le_trans g3 k2, fun h => ?_, fun h => ?_⟩, fun h => absurd h Bool.false_ne_true⟩
        · have := k3 h
          show i + 1 + 1 ≤ fb_c nk (t_X4_reach_45 fr to op (0, z) ak).2
          have h9 : fb_c nk z < fb_c nk (t_X4_reach_45 fr to op (0, z) ak).2 := this
          omega
        · obtain ⟨m1, m2⟩ := k4 h
          intro j hj ho
          show ¬ (t_X4_reach_45 fr to op (0, z) ak).2 (tq_x (fr j)) = 0 → ¬ (t_X4_reach_45 fr to op (0, z) ak).2 (tq_x (to j)) = 0
          rw [m1]
          exact m2 j hj ho
    · have e1 : t_X4_reach_37 ak fr to op (1, z0) (i + 1) = (true, more, z) := tq_br_end hq 1
      rw [e1]
      exact ⟨fun h => absurd h.symm Bool.false_ne_true, fun _ => ih.2 rfl⟩
theorem k_start {nk r : Nat} {re : Nat → Int32} (hnk : nk ≤ 24) (hr : r < nk) : ∀ i, i ≤ nk → ∀ v, t_X4_reach_2 (nI r) re i v = if v < i then (if v = r then 1 else 0) else re v := by
  unfold t_X4_reach_2
  refine tq_it_inv (N := nk) (fun i (x : Nat → Int32) => ∀ v, x v = if v < i then (if v = r then 1 else 0) else re v) (fun v => by rw [if_neg (by omega)]) (fun i x hi h v => ?_)
  show (if nI i = nI r then upd x i 1 else upd x i 0) v = _
  have e1 : (if nI i = nI r then upd x i 1 else upd x i 0) v = if v = i then (if i = r then 1 else 0) else x v := by
    by_cases c1 : i = r
    · rw [if_pos (by rw [c1]), if_pos c1]; rfl
    · rw [if_neg (fun h => c1 ((nI_eq (by omega) (by omega)).mp h)), if_neg c1]; rfl
  rw [e1]
  by_cases c1 : v = i
  · rw [if_pos c1, if_pos (show v < i + 1 by omega), c1]
  · rw [if_neg c1, h v]
    by_cases c2 : v < i
    · rw [if_pos c2, if_pos (show v < i + 1 by omega)]
    · rw [if_neg c2, if_neg (show ¬ v < i + 1 by omega)]
theorem k_left {z : Nat → Int32} : ∀ n, t_X4_reach_117 z 0 n = nI (n - fc (fun v => decide (¬ z v = 0)) n) := by
  intro n
  have h1 : ∀ i, i ≤ n → t_X4_reach_117 z 0 i = nI (i - fc (fun v => decide (¬ z v = 0)) i) := by
    unfold t_X4_reach_117
    refine tq_it_inv (N := n) (fun i (x : Int32) => x = nI (i - fc (fun v => decide (¬ z v = 0)) i)) rfl (fun i x hi h => ?_)
    subst h
    have h2 := fc_le (fun v => decide (¬ z v = 0)) i
    show b_X4_reach_117 z i _ = nI (i + 1 - (fc (fun v => decide (¬ z v = 0)) i + (if decide (¬ z i = 0) = true then 1 else 0)))
    unfold b_X4_reach_117
    by_cases c1 : z i = 0
    · rw [if_pos c1, if_neg (by rw [decide_eq_false (fun h => h c1)]; exact Bool.false_ne_true), nI_1]
      congr 1; omega
    · rw [if_neg c1, if_pos (decide_eq_true c1), Int32.add_zero]
      congr 1; omega
  exact h1 n (Nat.le_refl _)
/-- what the reference's row says of the nodes -/
theorem k_reach {nk ak r : Nat} {fr to op re : Nat → Int32} (hnk : nk ≤ 24) (hr : r < nk) (hto : ∀ j, j < ak → tq_x (to j) < nk) (hfr : ∀ j, j < ak → tq_x (fr j) < nk) (hre : ∀ v, v < 24 → re v = 0 ∨ re v = 1) :
    q_reach nk ak (nI r) fr to op re ∧ (∀ v, v < 24 → (f_X4_reach nk (nI r) ak fr to op re).2 v = 0 ∨ (f_X4_reach nk (nI r) ak fr to op re).2 v = 1) ∧
    (∀ v, v < nk → (¬ (f_X4_reach nk (nI r) ak fr to op re).2 v = 0 ↔ fb_R (fun j => tq_x (fr j)) (fun j => tq_x (to j)) (fun j => ¬ op j = 0) ak r v)) ∧
    (f_X4_reach nk (nI r) ak fr to op re).1 = nI (nk - fc (fun v => decide (¬ (f_X4_reach nk (nI r) ak fr to op re).2 v = 0)) nk) := by
  have hs := k_start (re := re) hnk hr nk (Nat.le_refl _)
  have hJ : fb_J (fun j => tq_x (fr j)) (fun j => tq_x (to j)) (fun j => ¬ op j = 0) nk ak r (t_X4_reach_2 (nI r) re nk) := by
    refine ⟨fun v hv => ?_, ?_, fun v hv hz => ?_⟩
    · rw [hs v]
      split
      · split
        · exact Or.inr rfl
        · exact Or.inl rfl
      · exact hre v hv
    · rw [hs r, if_pos hr, if_pos rfl]; decide
    · rw [hs v, if_pos hv] at hz
      by_cases c1 : v = r
      · rw [c1]; exact fb_R0
      · rw [if_neg c1] at hz; exact absurd rfl hz
  have ho := k_outer hnk hr hto hfr hJ 25
  have hst : (t_X4_reach_37 ak fr to op (1, t_X4_reach_2 (nI r) re nk) 25).1 = true := by
    rcases hq : (t_X4_reach_37 ak fr to op (1, t_X4_reach_2 (nI r) re nk) 25).1 with _ | _
    · have h1 := (ho.1 hq).2.1
      have h2 := fc_le (fun v => decide (¬ (t_X4_reach_37 ak fr to op (1, t_X4_reach_2 (nI r) re nk) 25).2.2 v = 0)) nk
      have h3 : 25 ≤ nk := Nat.le_trans h1 h2
      omega
    · rfl
  obtain ⟨g1, g2⟩ := ho.2 hst
  refine ⟨hst, ?_⟩
  unfold f_X4_reach
  generalize (t_X4_reach_37 ak fr to op (1, t_X4_reach_2 (nI r) re nk) 25).2.2 = z at g1 g2 ⊢
  exact ⟨g1.1, fun v hv => ⟨g1.2.2 v hv, fun h => h (fun v => ¬ z v = 0) g1.2.1 (fun j hj h1 h2 => g2 j hj h1 h2)⟩, k_left nk⟩
/-- class and reference agree on the nodes that are reached -/
theorem k_agree {nk ak r : Nat} {fr to op re : Nat → Int32} (hnk : nk ≤ 24) (hr : r < nk) (hak : ak ≤ 60) (hfr : ∀ j, j < 60 → tq_r 24 (fr j)) (hto : ∀ j, j < 60 → tq_r 24 (to j)) (hto2 : ∀ j, j < ak → tq_x (to j) < nk) (hfr2 : ∀ j, j < ak → tq_x (fr j) < nk) (hre : ∀ v, v < 24 → re v = 0 ∨ re v = 1) :
    (∀ v, v < nk → f_X3_holds (f_X1_reachedNodes nk (nI r) ak fr to op) (nI v) = (f_X4_reach nk (nI r) ak fr to op re).2 v) ∧ nI nk - f_J6_bitCount_0f7a4 (f_X1_reachedNodes nk (nI r) ak fr to op) = (f_X4_reach nk (nI r) ak fr to op re).1 := by
  obtain ⟨-, h2, h3, h4⟩ := k_reach (op := op) hnk hr hto2 hfr2 hre
  obtain ⟨e1, e2⟩ := k_reached (op := op) hnk hr hak hfr hto
  have hb := fb_all_iff (F := fun j => tq_x (fr j)) (T := fun j => tq_x (to j)) (o := fun j => ¬ op j = 0) (a := ak) hnk hr hto2
  have hl : ∀ v, (fb_all (fun j => tq_x (fr j)) (fun j => tq_x (to j)) (fun j => ¬ op j = 0) ak (2 ^ r) nk).testBit v = true → v < nk := fun v hv => fb_R_lt hr hto2 ((hb v).mp hv)
  rw [e1]
  generalize fb_all (fun j => tq_x (fr j)) (fun j => tq_x (to j)) (fun j => ¬ op j = 0) ak (2 ^ r) nk = w at e2 hb hl ⊢
  have hpt : ∀ v, v < nk → w.testBit v = decide (¬ (f_X4_reach nk (nI r) ak fr to op re).2 v = 0) := fun v hv => by
    rcases hq : w.testBit v with _ | _
    · refine (decide_eq_false (fun h => ?_)).symm
      have h5 := (hb v).mpr ((h3 v hv).mp h)
      rw [hq] at h5
      exact Bool.false_ne_true h5
    · exact (decide_eq_true ((h3 v hv).mpr ((hb v).mp hq))).symm
  refine ⟨fun v hv => ?_, ?_⟩
  · rw [fb_holds e2 (tq_r_nI (by omega) (by decide)), tq_x_nI (by omega), hpt v hv]
    rcases h2 v (by omega) with q | q
    · rw [q]; rfl
    · rw [q]; rfl
  · rw [tb_bitCount e2, h4, tb_pc_fc, fc_bits hnk hl, ← fc_congr nk hpt, tb_sub (fc_le _ _)]
