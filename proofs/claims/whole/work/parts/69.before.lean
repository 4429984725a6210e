/-! The reference's way back: the live set that an arc comes from. -/
theorem r_live {N : Nat → Prop} {ak k : Nat} {fr to : Nat → Int32} {wt : Nat → Int64} {op mm ma mv ml : Nat → Int32} {du dh dl : Nat → Int64} (C : ri N ak fr to wt op k mm ma mv ml du dh dl) {s : Nat} (hs : s < k) : (¬ ml s = 0 ↔ fm_live (gm (c_W mm)) k s) ∧ (ml s = 0 ∨ ml s = 1) := by
  rcases C.2.2 s hs with ⟨h1, -, h2⟩ | ⟨h1, u, -, h2, h3, h4, -⟩
  · exact ⟨⟨fun _ => h2, fun _ => by rw [h1]; decide⟩, Or.inr h1⟩
  · refine ⟨⟨fun h => absurd h1 h, fun h => ?_⟩, Or.inl h1⟩
    obtain ⟨v, hv⟩ := C.1.1.1 s hs
    exact absurd (h4 v hv) (fun h5 => h.2 u h2 h3 v hv h5)
theorem r_before {nk ak r k : Nat} {fr to : Nat → Int32} {wt : Nat → Int64} {op mm ma mv ml : Nat → Int32} {du dh dl : Nat → Int64} (hnk : nk ≤ 24) (hak : ak ≤ 60) (hfr : ∀ j, j < 60 → tq_r 24 (fr j)) (hfr2 : ∀ j, j < ak → tq_x (fr j) < nk) (C : ri (c_N nk r) ak fr to wt op k mm ma mv ml du dh dl) (hk : k ≤ 48) {t : Nat} (ht : t < k) :
    (f_X4_before k fr mm ma ml t = -1 ∧ tq_x (fr (tq_x (ma t))) = r) ∨ ∃ h, f_X4_before k fr mm ma ml t = nI h ∧ fm_live (gm (c_W mm)) k h ∧ gm (c_W mm) h (tq_x (fr (tq_x (ma t)))) := by
  have h1 := (C.2.1 t ht).2.1
  have h2 := hfr2 _ h1.2
  have hF := hfr (tq_x (ma t)) (by have := h1.2; omega)
  have hgm : ∀ p, p < k → (f_X4_has mm p (fr (tq_x (ma t))) = 0 ↔ ¬ gm (c_W mm) p (tq_x (fr (tq_x (ma t))))) := fun p hp => by
    have e1 : f_X4_has mm p (fr (tq_x (ma t))) = f_X3_holds (nI (c_W mm p)) (fr (tq_x (ma t))) := by
      have e2 : mm p = nI (c_W mm p) := (C.2.1 p hp).1.1
      rw [← e2]; rfl
    have e3 : f_X3_holds (nI (c_W mm p)) (fr (tq_x (ma t))) = 0 ↔ (c_W mm p).testBit (tq_x (fr (tq_x (ma t)))) = false := fb_holds0 (C.2.1 p hp).1.2 hF
    rw [e1, e3]
    unfold gm
    cases (c_W mm p).testBit (tq_x (fr (tq_x (ma t))))
    · exact ⟨fun _ h => Bool.false_ne_true h, fun _ => rfl⟩
    · exact ⟨fun h => absurd h.symm Bool.false_ne_true, fun h => absurd rfl h⟩
  -- the search
  have key : ∀ i, i ≤ k → ((t_X4_before_2 fr mm ma ml t (-1) i).1 = false → (t_X4_before_2 fr mm ma ml t (-1) i).2 = -1 ∧ ∀ p, p < i → ¬ (fm_live (gm (c_W mm)) k p ∧ gm (c_W mm) p (tq_x (fr (tq_x (ma t)))))) ∧ ((t_X4_before_2 fr mm ma ml t (-1) i).1 = true → ∃ h, (t_X4_before_2 fr mm ma ml t (-1) i).2 = nI h ∧ fm_live (gm (c_W mm)) k h ∧ gm (c_W mm) h (tq_x (fr (tq_x (ma t))))) := by
    intro i
    induction i with
    | zero => intro _; exact ⟨fun _ => ⟨rfl, fun p hp => absurd hp (by omega)⟩, fun h => absurd h Bool.false_ne_true⟩
    | succ i ih =>
      intro hi
      have ih := ih (by omega)
      rcases hq : t_X4_before_2 fr mm ma ml t (-1) i with ⟨fl, rv⟩
      rw [hq] at ih
      cases fl
      · have e1 : t_X4_before_2 fr mm ma ml t (-1) (i + 1) = b_X4_before_2 fr mm ma ml t i rv := tq_br_go hq
        obtain ⟨g1, g2⟩ := ih.1 rfl
        rw [e1]
        unfold b_X4_before_2
        have next : ¬ (fm_live (gm (c_W mm)) k i ∧ gm (c_W mm) i (tq_x (fr (tq_x (ma t))))) → ∀ p, p < i + 1 → ¬ (fm_live (gm (c_W mm)) k p ∧ gm (c_W mm) p (tq_x (fr (tq_x (ma t))))) := fun hn p hp => by
          by_cases c1 : p = i
          · rw [c1]; exact hn
          · exact g2 p (by omega)
        by_cases c1 : ml i = 0
        · rw [if_pos c1]
          exact ⟨fun _ => ⟨g1, next (fun h => ((r_live C (by omega)).1.mpr h.1) c1)⟩, fun h => absurd h Bool.false_ne_true⟩
        · rw [if_neg c1]
          by_cases c2 : f_X4_has mm i (fr (tq_x (ma t))) = 0
          · rw [if_pos c2]
            exact ⟨fun _ => ⟨g1, next (fun h => (hgm i (by omega)).mp c2 h.2)⟩, fun h => absurd h Bool.false_ne_true⟩
          · rw [if_neg c2]
            exact ⟨fun h => absurd h.symm Bool.false_ne_true, fun _ => ⟨i, rfl, (r_live C (by omega)).1.mp c1, Classical.not_not.mp (fun h => c2 ((hgm i (by omega)).mpr h))⟩⟩
      · have e1 : t_X4_before_2 fr mm ma ml t (-1) (i + 1) = (true, rv) := tq_br_end hq 1
        rw [e1]
        exact ⟨fun h => absurd h.symm Bool.false_ne_true, fun _ => ih.2 rfl⟩
  have hk1 := key k (Nat.le_refl _)
  unfold f_X4_before
  by_cases c1 : (t_X4_before_2 fr mm ma ml t (-1) k).1 = true
  · rw [if_pos c1]; exact Or.inr (hk1.2 c1)
  · rw [if_neg c1]
    have c2 : (t_X4_before_2 fr mm ma ml t (-1) k).1 = false := by
      cases hq : (t_X4_before_2 fr mm ma ml t (-1) k).1
      · rfl
      · exact absurd hq c1
    refine Or.inl ⟨rfl, Classical.byContradiction fun hne => ?_⟩
    obtain ⟨s, hs, h3⟩ := C.1.1.2.2.1 _ ⟨h2, hne⟩
    obtain ⟨L, l1, l2⟩ := fm_top C.1.1 (Nat.le_refl _) hs ((h3 _).mpr rfl)
    exact (hk1.1 c2).2 L l1.1 ⟨l1, l2⟩
