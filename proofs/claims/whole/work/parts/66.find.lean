/-! The reference's choice of an arc. -/
theorem fi_eq {x y : Int64} : x = y ↔ x.toInt = y.toInt := Int64.toInt_inj.symm
theorem fi_le {x y : Int64} : x ≤ y ↔ x.toInt ≤ y.toInt := Int64.le_iff_toInt_le
theorem k_isLess {r0 r1 r2 : Int64} {zu zh zl : Nat → Int64} {k : Nat} (h1 : 0 ≤ r2.toInt) (h2 : r2.toInt < 4611686018427387904) (h3 : 0 ≤ (zl k).toInt) (h4 : (zl k).toInt < 4611686018427387904) : f_X4_isLess r0 r1 r2 zu zh zl k = 0 ↔ ¬ fk_lt (r0, r_x r1 r2) (zu k, r_x (zh k) (zl k)) := by
  unfold f_X4_isLess fk_lt r_x
  simp only [lg_cmp_eq, lg_cmp_ge, fi_eq, fi_le]
  generalize r0.toInt = A
  generalize (zu k).toInt = B
  generalize r1.toInt = A1
  generalize (zh k).toInt = B1
  generalize r2.toInt = A2 at h1 h2 ⊢
  generalize (zl k).toInt = B2 at h3 h4 ⊢
  by_cases c1 : A = B
  · rw [if_pos c1]
    by_cases c2 : A1 = B1
    · rw [if_pos c2]
      by_cases c3 : B2 ≤ A2
      · rw [if_pos c3]; exact ⟨fun _ => by omega, fun _ => rfl⟩
      · rw [if_neg c3]; exact ⟨fun h => absurd h (by decide), fun h => absurd (by omega) h⟩
    · rw [if_neg c2]
      by_cases c3 : B1 ≤ A1
      · rw [if_pos c3]; exact ⟨fun _ => by omega, fun _ => rfl⟩
      · rw [if_neg c3]; exact ⟨fun h => absurd h (by decide), fun h => absurd (by omega) h⟩
  · rw [if_neg c1]
    by_cases c3 : B ≤ A
    · rw [if_pos c3]; exact ⟨fun _ => by omega, fun _ => rfl⟩
    · rw [if_neg c3]; exact ⟨fun h => absurd h (by decide), fun h => absurd (by omega) h⟩
theorem fs_self {α : Type} [Add α] {z : α} {g : Nat → Bool} {f : Nat → α} (k : Nat) : fs z (fun p => decide (p ≠ k) && g p) f (k + 1) = fs z g f k := by
  show (if (decide (k ≠ k) && g k) = true then _ else fs z (fun p => decide (p ≠ k) && g p) f k) = _
  rw [if_neg (by rw [decide_eq_false (fun h => h rfl), Bool.false_and]; exact Bool.false_ne_true)]
  exact fs_congr k (fun t ht => by rw [decide_eq_true (show t ≠ k by omega), Bool.true_and]) (fun _ _ _ => rfl)
/-- the reference takes the first of the least -/
theorem k_find {ak k : Nat} {fr to mm ma : Nat → Int32} {wt : Nat → Int64} {op : Nat → Int32} {du dh dl : Nat → Int64} {r0 r1 r2 : Int64} {W : Nat → Nat} (hak : ak ≤ 60) (hk : k < 48) (hfr : ∀ j, j < 60 → tq_r 24 (fr j)) (hto : ∀ j, j < 60 → tq_r 24 (to j)) (hW : ∀ p, p < k + 1 → mm p = nI (W p) ∧ W p < 2 ^ 24) (hok : ∀ p, p < k → r_ok (dh p) (dl p)) : ∀ i, i ≤ ak →
    ∃ (za : Nat → Int32) (zu zh zl : Nat → Int64) (q0 q1 q2 : Int64), t_X4_findArc_9 (k + 1) fr to wt op mm k ((upd ma k (-1)), du, dh, dl, r0, r1, r2) i = (za, zu, zh, zl, q0, q1, q2) ∧ (∀ p, p ≠ k → za p = ma p ∧ zu p = du p ∧ zh p = dh p ∧ zl p = dl p) ∧
      ((za k = -1 ∧ ∀ j, j < i → ¬ ((¬ op j = 0) ∧ (W k).testBit (tq_x (to j)) = true ∧ (W k).testBit (tq_x (fr j)) = false)) ∨
       ∃ b, za k = nI b ∧ fk_min (fun j => (¬ op j = 0) ∧ (W k).testBit (tq_x (to j)) = true ∧ (W k).testBit (tq_x (fr j)) = false) (fun j => (wt j - fs 0 (gr_in W k (tq_x (to j))) du k, 2 ^ j - fs 0 (gr_in W k (tq_x (to j))) (fun p => r_x (dh p) (dl p)) k)) i b ∧
         (wt b - fs 0 (gr_in W k (tq_x (to b))) du k, 2 ^ b - fs 0 (gr_in W k (tq_x (to b))) (fun p => r_x (dh p) (dl p)) k) = (zu k, r_x (zh k) (zl k)) ∧ 0 ≤ (zl k).toInt ∧ (zl k).toInt < 4611686018427387904) := by
  intro i
  induction i with
  | zero => intro _; exact ⟨_, _, _, _, _, _, _, rfl, fun p hp => ⟨upd_ne hp, rfl, rfl, rfl⟩, Or.inl ⟨upd_eq, fun j hj => absurd hj (by omega)⟩⟩
  | succ i ih =>
    intro hi
    obtain ⟨za, zu, zh, zl, q0, q1, q2, e1, hsame, hcase⟩ := ih (by omega)
    have e2 : t_X4_findArc_9 (k + 1) fr to wt op mm k ((upd ma k (-1)), du, dh, dl, r0, r1, r2) (i + 1) = b_X4_findArc_9 (k + 1) fr to wt op mm k i za zu zh zl q0 q1 q2 := by
      unfold t_X4_findArc_9 at e1 ⊢
      rw [tq_it_succ, e1]
    rw [e2]
    have hi60 : i < 60 := by omega
    have hht : f_X4_has mm k (to i) = f_X3_holds (nI (W k)) (to i) := by rw [← (hW k (by omega)).1]; rfl
    have hhf : f_X4_has mm k (fr i) = f_X3_holds (nI (W k)) (fr i) := by rw [← (hW k (by omega)).1]; rfl
    have bt := fb_holds0 (hW k (by omega)).2 (hto i hi60)
    have bf := fb_holds0 (hW k (by omega)).2 (hfr i hi60)
    -- the rest of this arc
    obtain ⟨s1, s2, s3, s4, -, -⟩ := k_restOf (md := k + 1) (a := i) (k := k) (to := to) (mm := mm) (wt := wt) (du := zu) (dh := zh) (dl := zl) (W := W) (by omega) hi60 (hto i hi60) hW (by omega) (fun p hp hne => by
      obtain ⟨-, -, g3, g4⟩ := hsame p hne
      rw [g3, g4]; exact hok p (by omega))
    rw [fs_self] at s1 s2
    rw [fs_congr (f := zu) (g := du) k (fun _ _ => rfl) (fun t ht _ => (hsame t (by omega)).2.1)] at s1
    rw [fs_congr (f := fun p => r_x (zh p) (zl p)) (g := fun p => r_x (dh p) (dl p)) k (fun _ _ => rfl) (fun t ht _ => by obtain ⟨-, -, g3, g4⟩ := hsame t (by omega); show r_x (zh t) (zl t) = r_x (dh t) (dl t); rw [g3, g4])] at s2
    unfold b_X4_findArc_9
    rw [hht, hhf]
    generalize (f_X4_restOf (k + 1) to wt mm zu zh zl i k) = z at s1 s2 s3 s4 ⊢
    obtain ⟨x0, x1, x2⟩ := z
    have s1 : x0 = wt i - fs 0 (gr_in W k (tq_x (to i))) du k := s1
    have s2 : r_x x1 x2 = 2 ^ i - fs 0 (gr_in W k (tq_x (to i))) (fun p => r_x (dh p) (dl p)) k := s2
    have s3 : 0 ≤ x2.toInt := s3
    have s4 : x2.toInt < 4611686018427387904 := s4
    have skip : ∀ (y0 y1 y2 : Int64), ¬ ((¬ op i = 0) ∧ (W k).testBit (tq_x (to i)) = true ∧ (W k).testBit (tq_x (fr i)) = false) → ∃ (za' : Nat → Int32) (zu' zh' zl' : Nat → Int64) (q0' q1' q2' : Int64), (za, zu, zh, zl, y0, y1, y2) = (za', zu', zh', zl', q0', q1', q2') ∧ (∀ p, p ≠ k → za' p = ma p ∧ zu' p = du p ∧ zh' p = dh p ∧ zl' p = dl p) ∧
      ((za' k = -1 ∧ ∀ j, j < i + 1 → ¬ ((¬ op j = 0) ∧ (W k).testBit (tq_x (to j)) = true ∧ (W k).testBit (tq_x (fr j)) = false)) ∨
       ∃ b, za' k = nI b ∧ fk_min (fun j => (¬ op j = 0) ∧ (W k).testBit (tq_x (to j)) = true ∧ (W k).testBit (tq_x (fr j)) = false) (fun j => (wt j - fs 0 (gr_in W k (tq_x (to j))) du k, 2 ^ j - fs 0 (gr_in W k (tq_x (to j))) (fun p => r_x (dh p) (dl p)) k)) (i + 1) b ∧
         (wt b - fs 0 (gr_in W k (tq_x (to b))) du k, 2 ^ b - fs 0 (gr_in W k (tq_x (to b))) (fun p => r_x (dh p) (dl p)) k) = (zu' k, r_x (zh' k) (zl' k)) ∧ 0 ≤ (zl' k).toInt ∧ (zl' k).toInt < 4611686018427387904) := fun y0 y1 y2 hn => by
      refine ⟨za, zu, zh, zl, y0, y1, y2, rfl, hsame, ?_⟩
      rcases hcase with ⟨g1, g2⟩ | ⟨b, g1, g2, g3⟩
      · refine Or.inl ⟨g1, fun j hj => ?_⟩
        by_cases c1 : j = i
        · rw [c1]; exact hn
        · exact g2 j (by omega)
      · exact Or.inr ⟨b, g1, fk_skip g2 (fun h => absurd h hn), g3⟩
    have take : ∀ (y0 y1 y2 : Int64), fk_min (fun j => (¬ op j = 0) ∧ (W k).testBit (tq_x (to j)) = true ∧ (W k).testBit (tq_x (fr j)) = false) (fun j => (wt j - fs 0 (gr_in W k (tq_x (to j))) du k, 2 ^ j - fs 0 (gr_in W k (tq_x (to j))) (fun p => r_x (dh p) (dl p)) k)) (i + 1) i → ∃ (za' : Nat → Int32) (zu' zh' zl' : Nat → Int64) (q0' q1' q2' : Int64), (upd za k (nI i), vp_updL zu k x0, vp_updL zh k x1, vp_updL zl k x2, y0, y1, y2) = (za', zu', zh', zl', q0', q1', q2') ∧ (∀ p, p ≠ k → za' p = ma p ∧ zu' p = du p ∧ zh' p = dh p ∧ zl' p = dl p) ∧
      ((za' k = -1 ∧ ∀ j, j < i + 1 → ¬ ((¬ op j = 0) ∧ (W k).testBit (tq_x (to j)) = true ∧ (W k).testBit (tq_x (fr j)) = false)) ∨
       ∃ b, za' k = nI b ∧ fk_min (fun j => (¬ op j = 0) ∧ (W k).testBit (tq_x (to j)) = true ∧ (W k).testBit (tq_x (fr j)) = false) (fun j => (wt j - fs 0 (gr_in W k (tq_x (to j))) du k, 2 ^ j - fs 0 (gr_in W k (tq_x (to j))) (fun p => r_x (dh p) (dl p)) k)) (i + 1) b ∧
         (wt b - fs 0 (gr_in W k (tq_x (to b))) du k, 2 ^ b - fs 0 (gr_in W k (tq_x (to b))) (fun p => r_x (dh p) (dl p)) k) = (zu' k, r_x (zh' k) (zl' k)) ∧ 0 ≤ (zl' k).toInt ∧ (zl' k).toInt < 4611686018427387904) := fun y0 y1 y2 hm => by
      refine ⟨_, _, _, _, _, _, _, rfl, fun p hp => ?_, Or.inr ⟨i, upd_eq, hm, ?_, ?_, ?_⟩⟩
      · rw [upd_ne hp, updL_ne hp, updL_ne hp, updL_ne hp]; exact hsame p hp
      · rw [updL_eq, updL_eq, updL_eq, s1, s2]
      · rw [updL_eq]; exact s3
      · rw [updL_eq]; exact s4
    by_cases c1 : op i = 0
    · rw [if_pos c1]; exact skip _ _ _ (fun h => h.1 c1)
    · rw [if_neg c1]
      by_cases c2 : f_X3_holds (nI (W k)) (to i) = 0
      · rw [if_pos c2]
        exact skip _ _ _ (fun h => by rw [bt.mp c2] at h; exact Bool.false_ne_true h.2.1)
      · rw [if_neg c2]
        by_cases c3 : f_X3_holds (nI (W k)) (fr i) = 0
        · rw [if_pos c3]
          have hei : (¬ op i = 0) ∧ (W k).testBit (tq_x (to i)) = true ∧ (W k).testBit (tq_x (fr i)) = false := ⟨c1, by
            cases ht : (W k).testBit (tq_x (to i))
            · exact absurd (bt.mpr ht) c2
            · rfl, bf.mp c3⟩
          rcases hcase with ⟨g1, g2⟩ | ⟨b, g1, g2, g3, g4, g5⟩
          · rw [if_pos (by rw [g1]; decide)]
            exact take _ _ _ (fk_first g2 hei)
          · have hnn : ¬ za k < 0 := by rw [g1]; exact nI_pos (by have := g2.2.1; omega)
            rw [if_neg hnn]
            have hl := k_isLess (r0 := x0) (r1 := x1) (r2 := x2) (zu := zu) (zh := zh) (zl := zl) (k := k) s3 s4 g4 g5
            rw [s1, s2, ← g3] at hl
            by_cases c4 : f_X4_isLess x0 x1 x2 zu zh zl k = 0
            · rw [if_pos c4]
              refine ⟨za, zu, zh, zl, _, _, _, rfl, hsame, Or.inr ⟨b, g1, fk_skip g2 (fun _ => hl.mp (by rw [← s1]; exact c4)), g3, g4, g5⟩⟩
            · rw [if_neg c4]
              exact take _ _ _ (fk_take g2 hei (Classical.not_not.mp (fun h => c4 (by rw [s1]; exact hl.mpr h))))
        · rw [if_neg c3]
          exact skip _ _ _ (fun h => c3 (bf.mpr h.2.2))
