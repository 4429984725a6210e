/-! What joinRing finds, and what it marks. -/
theorem k_mark {md : Nat} {mm ml mv : Nat → Int32} {al : Int32} : ∀ s, (t_X4_joinRing_86 md mm al (ml, mv) md).1 s = (if s < md ∧ (¬ ml s = 0) ∧ (mm s &&& (al ^^^ (-1))) = 0 then 0 else ml s) ∧ (t_X4_joinRing_86 md mm al (ml, mv) md).2 s = (if s < md ∧ (¬ ml s = 0) ∧ (mm s &&& (al ^^^ (-1))) = 0 then nI md else mv s) := by
  have h1 : ∀ i, i ≤ md → ∀ s, (t_X4_joinRing_86 md mm al (ml, mv) i).1 s = (if s < i ∧ (¬ ml s = 0) ∧ (mm s &&& (al ^^^ (-1))) = 0 then 0 else ml s) ∧ (t_X4_joinRing_86 md mm al (ml, mv) i).2 s = (if s < i ∧ (¬ ml s = 0) ∧ (mm s &&& (al ^^^ (-1))) = 0 then nI md else mv s) := by
    unfold t_X4_joinRing_86
    refine tq_it_inv (N := md) (fun i (x : (Nat → Int32) × (Nat → Int32)) => ∀ s, x.1 s = (if s < i ∧ (¬ ml s = 0) ∧ (mm s &&& (al ^^^ (-1))) = 0 then 0 else ml s) ∧ x.2 s = (if s < i ∧ (¬ ml s = 0) ∧ (mm s &&& (al ^^^ (-1))) = 0 then nI md else mv s)) (fun s => by
      rw [if_neg (fun h => absurd h.1 (by omega)), if_neg (fun h => absurd h.1 (by omega))]; exact ⟨rfl, rfl⟩) (fun i x hi h s => ?_)
    obtain ⟨yl, yv⟩ := x
    have h : ∀ s, yl s = (if s < i ∧ (¬ ml s = 0) ∧ (mm s &&& (al ^^^ (-1))) = 0 then 0 else ml s) ∧ yv s = (if s < i ∧ (¬ ml s = 0) ∧ (mm s &&& (al ^^^ (-1))) = 0 then nI md else mv s) := h
    have hi0 := h i
    rw [if_neg (fun h => absurd h.1 (by omega)), if_neg (fun h => absurd h.1 (by omega))] at hi0
    show (b_X4_joinRing_86 md mm al i yl yv).1 s = _ ∧ (b_X4_joinRing_86 md mm al i yl yv).2 s = _
    unfold b_X4_joinRing_86
    rw [hi0.1]
    by_cases c0 : s = i
    · subst c0
      by_cases c1 : ml s = 0
      · rw [if_pos c1, if_neg (fun h => h.2.1 c1), if_neg (fun h => h.2.1 c1)]; exact hi0
      · rw [if_neg c1]
        by_cases c2 : (mm s &&& (al ^^^ (-1))) = 0
        · rw [if_pos c2, if_pos ⟨by omega, c1, c2⟩, if_pos ⟨by omega, c1, c2⟩]
          exact ⟨upd_eq, upd_eq⟩
        · rw [if_neg c2, if_neg (fun h => c2 h.2.2), if_neg (fun h => c2 h.2.2)]; exact hi0
    · have hiff : (s < i + 1 ∧ (¬ ml s = 0) ∧ (mm s &&& (al ^^^ (-1))) = 0) ↔ (s < i ∧ (¬ ml s = 0) ∧ (mm s &&& (al ^^^ (-1))) = 0) := ⟨fun h => ⟨by omega, h.2⟩, fun h => ⟨by omega, h.2⟩⟩
      have hg : yl s = (if s < i + 1 ∧ (¬ ml s = 0) ∧ (mm s &&& (al ^^^ (-1))) = 0 then 0 else ml s) ∧ yv s = (if s < i + 1 ∧ (¬ ml s = 0) ∧ (mm s &&& (al ^^^ (-1))) = 0 then nI md else mv s) := by
        rw [(h s).1, (h s).2]
        by_cases c1 : s < i ∧ (¬ ml s = 0) ∧ (mm s &&& (al ^^^ (-1))) = 0
        · rw [if_pos c1, if_pos c1, if_pos (hiff.mpr c1), if_pos (hiff.mpr c1)]; exact ⟨rfl, rfl⟩
        · rw [if_neg c1, if_neg c1, if_neg (fun h => c1 (hiff.mp h)), if_neg (fun h => c1 (hiff.mp h))]; exact ⟨rfl, rfl⟩
      split
      · exact hg
      · split
        · refine ⟨?_, ?_⟩
          · show upd yl i 0 s = _
            rw [upd_ne c0]; exact hg.1
          · show upd yv i (nI md) s = _
            rw [upd_ne c0]; exact hg.2
        · exact hg
  exact h1 md (Nat.le_refl _)
theorem k_search {md : Nat} {fr mm ma ml : Nat → Int32} : ∀ i,
    ((t_X4_joinRing_2 md fr mm ma ml 0 i).1 = true → ∃ s, s < i ∧ (¬ ml s = 0) ∧ (t_X4_joinRing_35 md fr mm ma ml s (mm s, f_X4_before md fr mm ma ml s) 48).2.2 = nI s ∧ (t_X4_joinRing_2 md fr mm ma ml 0 i).2 = (t_X4_joinRing_35 md fr mm ma ml s (mm s, f_X4_before md fr mm ma ml s) 48).2.1) ∧
    ((t_X4_joinRing_2 md fr mm ma ml 0 i).1 = false → ∀ s, s < i → (¬ ml s = 0) → ¬ (t_X4_joinRing_35 md fr mm ma ml s (mm s, f_X4_before md fr mm ma ml s) 48).2.2 = nI s) := by
  intro i
  induction i with
  | zero => exact ⟨fun h => absurd h Bool.false_ne_true, fun _ s hs => absurd hs (by omega)⟩
  | succ i ih =>
    rcases hq : t_X4_joinRing_2 md fr mm ma ml 0 i with ⟨fl, al⟩
    rw [hq] at ih
    cases fl
    · have e1 : t_X4_joinRing_2 md fr mm ma ml 0 (i + 1) = b_X4_joinRing_2 md fr mm ma ml i al := tq_br_go hq
      rw [e1]
      unfold b_X4_joinRing_2
      have next : (ml i = 0 ∨ ¬ (t_X4_joinRing_35 md fr mm ma ml i (mm i, f_X4_before md fr mm ma ml i) 48).2.2 = nI i) → ∀ s, s < i + 1 → (¬ ml s = 0) → ¬ (t_X4_joinRing_35 md fr mm ma ml s (mm s, f_X4_before md fr mm ma ml s) 48).2.2 = nI s := fun hn s hs hl => by
        by_cases c1 : s = i
        · subst c1
          exact hn.resolve_left hl
        · exact ih.2 rfl s (by omega) hl
      by_cases c1 : ml i = 0
      · rw [if_pos c1]; exact ⟨fun h => absurd h Bool.false_ne_true, fun _ => next (Or.inl c1)⟩
      · rw [if_neg c1]
        by_cases c2 : (t_X4_joinRing_35 md fr mm ma ml i (mm i, f_X4_before md fr mm ma ml i) 48).2.2 = nI i
        · rw [if_pos c2]; exact ⟨fun _ => ⟨i, by omega, c1, c2, by dsimp only⟩, fun h => absurd h.symm Bool.false_ne_true⟩
        · rw [if_neg c2]; exact ⟨fun h => absurd h Bool.false_ne_true, fun _ => next (Or.inr c2)⟩
    · have e1 : t_X4_joinRing_2 md fr mm ma ml 0 (i + 1) = (true, al) := tq_br_end hq 1
      rw [e1]
      refine ⟨fun _ => ?_, fun h => absurd h.symm Bool.false_ne_true⟩
      obtain ⟨s, h1, h2⟩ := ih.1 rfl
      exact ⟨s, by omega, h2⟩
