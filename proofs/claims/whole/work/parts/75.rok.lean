theorem k_nz {w v : Nat} (hw : w < 2 ^ 24) (hv : v < 24) (h : w.testBit v = true) : q_nz (nI w) := by
  have key : ∀ i, i ≤ 24 → ((t_X4_leastOf_2 (nI w) 0 i).1 = false → (t_X4_leastOf_2 (nI w) 0 i).2 = nI i ∧ ∀ u, u < i → w.testBit u = false) := by
    intro i
    induction i with
    | zero => intro _ _; exact ⟨rfl, fun u hu => absurd hu (by omega)⟩
    | succ i ih =>
      intro hi
      rcases hq : t_X4_leastOf_2 (nI w) 0 i with ⟨fl, x⟩
      have ih := ih (by omega)
      rw [hq] at ih
      cases fl
      · obtain ⟨g1, g2⟩ := ih rfl
        have g1 : x = nI i := g1
        subst g1
        have e1 : t_X4_leastOf_2 (nI w) 0 (i + 1) = b_X4_leastOf_2 (nI w) i (nI i) := tq_br_go hq
        rw [e1]
        unfold b_X4_leastOf_2
        rw [tb_bit hw (by omega)]
        by_cases c1 : nI (w / 2 ^ i % 2) = 0
        · rw [if_pos c1]
          intro _
          refine ⟨nI_1 i, fun u hu => ?_⟩
          by_cases c2 : u = i
          · rw [c2, tb_test]
            refine decide_eq_false (fun h9 => ?_)
            rw [h9] at c1
            exact absurd c1 (by decide)
          · exact g2 u (by omega)
        · rw [if_neg c1]
          intro h9
          exact absurd h9.symm Bool.false_ne_true
      · have e1 : t_X4_leastOf_2 (nI w) 0 (i + 1) = (true, x) := tq_br_end hq 1
        rw [e1]
        intro h9
        exact absurd h9.symm Bool.false_ne_true
  unfold q_nz
  rcases hq : (t_X4_leastOf_2 (nI w) 0 24).1 with _ | _
  · have h1 := (key 24 (Nat.le_refl _) hq).2 v hv
    rw [h] at h1
    exact absurd h1.symm Bool.false_ne_true
  · rfl
/-- the reference's solve runs through, and ends with a run without a ring -/
theorem r_all {nk ak r : Nat} {fr to : Nat → Int32} {wt : Nat → Int64} {op mi mm ma mv ml : Nat → Int32} {du dh dl : Nat → Int64} {r0 r1 r2 : Int64} (hnk : nk ≤ 24) (hr : r < nk) (hak : ak ≤ 60) (hfr : ∀ j, j < 60 → tq_r 24 (fr j)) (hto : ∀ j, j < 60 → tq_r 24 (to j)) (hfr2 : ∀ j, j < ak → tq_x (fr j) < nk)
    (hR : ∀ v, v < nk → fb_R (fun j => tq_x (fr j)) (fun j => tq_x (to j)) (fun j => ¬ op j = 0) ak r v) :
    q_solve nk (nI r) ak fr to wt op mi mm ma mv ml du dh dl r0 r1 r2 ∧ ∃ (more : Int32) (zd : Nat) (zm zv zl za : Nat → Int32) (zu zh zw : Nat → Int64) (q0 q1 q2 : Int64), u_join nk (nI r) ak fr to wt op mi mm ma mv ml du dh dl r0 r1 r2 25 = (true, more, zd, zm, zv, zl, za, zu, zh, zw, q0, q1, q2) ∧
      ri (c_N nk r) ak fr to wt op zd zm za zv zl zu zh zw ∧ zd ≤ 45 ∧ fm_end zd (gm (c_W zm)) (fun t => tq_x (fr (tq_x (za t)))) := by
  obtain ⟨zi, zd0, zm0, zv0, zl0, za0, zu0, zh0, zw0, p0, p1, p2, e0, C0, h0, hl0, -⟩ := r_singles (wt := wt) (mi := mi) (mm := mm) (ma := ma) (mv := mv) (ml := ml) (du := du) (dh := dh) (dl := dl) (r0 := r0) (r1 := r1) (r2 := r2) hnk hr hak hfr hto hR nk (Nat.le_refl _)
  rw [if_pos hr] at h0
  have hu : ∀ i, u_join nk (nI r) ak fr to wt op mi mm ma mv ml du dh dl r0 r1 r2 i = t_X4_solve_70 ak fr to wt op (1, zd0, zm0, zv0, zl0, za0, zu0, zh0, zw0, p0, p1, p2) i := fun i => by
    unfold u_join
    rw [e0]
  have key := r_solve (p0 := p0) (p1 := p1) (p2 := p2) hnk hr hak hfr hto hfr2 hR C0 h0 hl0
  have hsize : ∀ (zd : Nat) (zm zv zl za : Nat → Int32) (zu zh zw : Nat → Int64), ri (c_N nk r) ak fr to wt op zd zm za zv zl zu zh zw → zd + r_cnt zd zl ≤ 2 * (nk - 1) → zd ≤ 45 ∧ (0 < zd → zd + 1 ≤ 2 * (nk - 1)) := fun zd zm zv zl za zu zh zw C hc => by
    rcases Nat.eq_zero_or_pos zd with q | q
    · exact ⟨by omega, fun h => absurd h (by omega)⟩
    · have := r_cnt_pos C q
      exact ⟨by omega, fun _ => by omega⟩
  obtain ⟨fl, more, zd, zm, zv, zl, za, zu, zh, zw, q0, q1, q2, e1, C, hcnt, hlow, hfl, hend⟩ := key 25
  have hs := hsize _ _ _ _ _ _ _ _ C hcnt
  have hfl2 : fl = true := by
    cases fl
    · have h1 := (hfl rfl).1
      have h2 := hs.2
      exfalso
      rcases Nat.eq_zero_or_pos zd with q | q
      · omega
      · have := h2 q; omega
    · rfl
  subst hfl2
  refine ⟨⟨?_, fun i x hx hm => ?_, ?_⟩, more, zd, zm, zv, zl, za, zu, zh, zw, q0, q1, q2, (hu 25).trans e1, C, hs.1, hend (Or.inl rfl)⟩
  · rw [hu, e1]
  · obtain ⟨fl', more', zd', zm', zv', zl', za', zu', zh', zw', x0, x1, x2, e2, C', hcnt', -⟩ := key i
    rw [hu, e2] at hx
    have e3 := congrArg Prod.snd hx
    have e3 : (more', zd', zm', zv', zl', za', zu', zh', zw', x0, x1, x2) = x := e3
    subst e3
    have hs' := hsize _ _ _ _ _ _ _ _ C' hcnt'
    exact ⟨(show zd' < 48 by omega), fun j hj => tq_r_mono (C'.2.1 j hj).2.1 hak⟩
  · rw [hu, e1]
    refine ⟨(show zd ≤ 48 by omega), fun j hj => tq_r_mono (C.2.1 j hj).2.1 hak, fun j hj => ?_, fun j hj => ?_⟩
    · show zv j < 0 ∨ (tq_r zd (zv j) ∧ j < tq_x (zv j))
      rcases C.2.2 j hj with ⟨-, h1, -⟩ | ⟨-, u, h1, h2, h3, -⟩
      · rw [h1]; exact Or.inl (by decide)
      · rw [h1, tq_x_nI (by omega)]; exact Or.inr ⟨tq_r_nI h3 (by omega), h2⟩
    · show q_nz (zm j)
      obtain ⟨v, hv⟩ := C.1.1.1 j hj
      have h1 := (C.2.1 j hj).1
      rw [h1.1]
      exact k_nz h1.2 (by have := (C.1.1.2.1 j hj v hv).1; omega) hv
