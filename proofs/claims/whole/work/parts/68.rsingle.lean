/-! The reference's single nodes. -/
theorem r_singles {nk ak r : Nat} {fr to : Nat → Int32} {wt : Nat → Int64} {op mi mm ma mv ml : Nat → Int32} {du dh dl : Nat → Int64} {r0 r1 r2 : Int64} (hnk : nk ≤ 24) (hr : r < nk) (hak : ak ≤ 60) (hfr : ∀ j, j < 60 → tq_r 24 (fr j)) (hto : ∀ j, j < 60 → tq_r 24 (to j))
    (hR : ∀ v, v < nk → fb_R (fun j => tq_x (fr j)) (fun j => tq_x (to j)) (fun j => ¬ op j = 0) ak r v) : ∀ i, i ≤ nk →
    ∃ (zi : Nat → Int32) (zd : Nat) (zm zv zl za : Nat → Int32) (zu zh zw : Nat → Int64) (q0 q1 q2 : Int64), t_X4_solve_32 (nI r) ak fr to wt op (mi, 0, mm, mv, ml, ma, du, dh, dl, r0, r1, r2) i = (zi, zd, zm, zv, zl, za, zu, zh, zw, q0, q1, q2) ∧
      ri (c_N i r) ak fr to wt op zd zm za zv zl zu zh zw ∧ zd = (if r < i then i - 1 else i) ∧ (∀ s, s < zd → zl s = 1) ∧ (∀ v, zi v = if v < i then -1 else mi v) := by
  intro i
  induction i with
  | zero =>
    intro _
    refine ⟨mi, 0, mm, mv, ml, ma, du, dh, dl, r0, r1, r2, rfl, ⟨⟨⟨fun s hs => absurd hs (by omega), fun s hs => absurd hs (by omega), fun v hv => absurd hv.1 (by omega), fun s hs => absurd hs (by omega), fun s hs => absurd hs (by omega)⟩, fun s hs => absurd hs (by omega)⟩, fun s hs => absurd hs (by omega), fun s hs => absurd hs (by omega)⟩, by rw [if_neg (by omega)], fun s hs => absurd hs (by omega), fun v => by rw [if_neg (by omega)]⟩
  | succ i ih =>
    intro hi
    obtain ⟨zi, zd, zm, zv, zl, za, zu, zh, zw, q0, q1, q2, e1, C, hzd, hzl, hzi⟩ := ih (by omega)
    have e2 : t_X4_solve_32 (nI r) ak fr to wt op (mi, 0, mm, mv, ml, ma, du, dh, dl, r0, r1, r2) (i + 1) = b_X4_solve_32 (nI r) ak fr to wt op i zi zd zm zv zl za zu zh zw q0 q1 q2 := by
      unfold t_X4_solve_32 at e1 ⊢
      rw [tq_it_succ, e1]
    have hzi2 : ∀ v, upd zi i (-1) v = if v < i + 1 then -1 else mi v := fun v => by
      by_cases c1 : v = i
      · rw [c1, upd_eq, if_pos (by omega)]
      · rw [upd_ne c1, hzi v]
        by_cases c2 : v < i
        · rw [if_pos c2, if_pos (by omega)]
        · rw [if_neg c2, if_neg (by omega)]
    rw [e2]
    unfold b_X4_solve_32
    by_cases c1 : i = r
    · subst c1
      rw [if_pos rfl]
      have hNN : c_N (i + 1) i = c_N i i := by
        funext v
        exact propext ⟨fun h => ⟨by have := h.1; have := h.2; omega, h.2⟩, fun h => ⟨by have := h.1; omega, h.2⟩⟩
      rw [hNN]
      refine ⟨_, zd, zm, zv, zl, za, zu, zh, zw, q0, q1, q2, rfl, C, ?_, hzl, hzi2⟩
      rw [hzd, if_neg (by omega), if_pos (by omega)]; rfl
    · rw [if_neg (fun h => c1 ((nI_eq (by omega) (by omega)).mp h))]
      have hzd2 : zd ≤ i := by rw [hzd]; split <;> omega
      have hone : (1 : Int32) <<< ((nI i) &&& 31) = nI (2 ^ i) := tb_one i (by omega)
      have hbit : ∀ v, (2 ^ i).testBit v = true ↔ v = i := fun v => by
        rw [Nat.testBit_two_pow, decide_eq_true_eq]; exact ⟨fun h => h.symm, fun h => h.symm⟩
      have hnm : ∀ s, s < zd → ∀ v, gm (c_W zm) s v → ¬ (2 ^ i).testBit v = true := fun s hs v h1 h2 => by
        rw [(hbit v).mp h2] at h1
        exact absurd (C.1.1.2.1 s hs i h1).1 (by omega)
      obtain ⟨ma2, du2, dh2, dl2, x0, x1, x2, f1, f2, f3⟩ := r_add (N' := c_N (i + 1) r) (nk := nk) (w := 2 ^ i) (mv1 := zv) (ml1 := zl) (r0 := q0) (r1 := q1) (r2 := q2) hnk hak hfr hto C (by omega) (Nat.pow_lt_pow_right (by decide) (by omega)) (Or.inl ⟨i, rfl, fun s hs h => absurd (C.1.1.2.1 s hs i h).1 (by omega)⟩) (fun v hv => ⟨by have := hv.1; omega, hv.2⟩)
        (fun v hv => by rw [(hbit v).mp hv]; exact ⟨by omega, c1⟩) (fun v hv => by
          by_cases c2 : v = i
          · refine Or.inr (fun x => ?_)
            rw [c2]; exact hbit x
          · exact Or.inl ⟨by have := hv.1; omega, hv.2⟩)
        (fb_ent (F := fun j => tq_x (fr j)) (T := fun j => tq_x (to j)) (o := fun j => ¬ op j = 0) (r := r) (by
          rcases hq : (2 ^ i).testBit r with _ | _
          · first | rfl | exact hq
          · exact absurd ((hbit r).mp hq).symm c1) ⟨i, (hbit i).mpr rfl, hR i (by omega)⟩)
        (fun s hs => ⟨fun _ ⟨v, v1, v2⟩ => absurd v2 (hnm s hs v v1), fun _ _ => ⟨rfl, rfl⟩, fun _ => ⟨rfl, rfl⟩⟩)
      rw [hone, f1]
      refine ⟨_, zd + 1, upd zm zd (nI (2 ^ i)), upd zv zd (-1), upd zl zd 1, ma2, du2, dh2, dl2, x0, x1, x2, rfl, f2, ?_, fun s hs => ?_, hzi2⟩
      · rw [hzd]; split
        · rw [if_pos (by omega)]; omega
        · rw [if_neg (by omega)]
      · by_cases c2 : s = zd
        · rw [c2, upd_eq]
        · rw [upd_ne c2]; exact hzl s (by omega)
