def r_cnt (k : Nat) (ml : Nat → Int32) : Nat := fc (fun s => decide (¬ ml s = 0)) k
/-- joinRing, where it finds a ring -/
theorem r_join {nk ak r md : Nat} {fr to : Nat → Int32} {wt : Nat → Int64} {op mm ma mv ml : Nat → Int32} {du dh dl : Nat → Int64} {r0 r1 r2 : Int64} (hnk : nk ≤ 24) (hak : ak ≤ 60) (hfr : ∀ j, j < 60 → tq_r 24 (fr j)) (hto : ∀ j, j < 60 → tq_r 24 (to j)) (hfr2 : ∀ j, j < ak → tq_x (fr j) < nk)
    (hR : ∀ v, v < nk → fb_R (fun j => tq_x (fr j)) (fun j => tq_x (to j)) (fun j => ¬ op j = 0) ak r v) (C : ri (c_N nk r) ak fr to wt op md mm ma mv ml du dh dl) (hmd : md < 48) (hfl : (t_X4_joinRing_2 md fr mm ma ml 0 md).1 = true) :
    ∃ (w : Nat) (mv' ml' ma' : Nat → Int32) (du' dh' dl' : Nat → Int64) (q0 q1 q2 : Int64), f_X4_joinRing ak md r0 r1 r2 fr to wt op mm ma du dh dl mv ml = (1, md + 1, upd mm md (nI w), mv', ml', ma', du', dh', dl', q0, q1, q2) ∧
      ri (c_N nk r) ak fr to wt op (md + 1) (upd mm md (nI w)) ma' mv' ml' du' dh' dl' ∧ r_cnt (md + 1) ml' + 1 ≤ r_cnt md ml := by
  obtain ⟨s, hs, hl, hp, ha⟩ := (k_search md).1 hfl
  have hls := (r_live C hs).1.mp hl
  obtain ⟨m, c, ⟨c0, c1, c2, c3⟩, e1, -, -⟩ := r_trace hnk hak hfr hfr2 C (by omega) hls 48
  have ea : (t_X4_joinRing_35 md fr mm ma ml s (mm s, f_X4_before md fr mm ma ml s) 48).2.1 = nI (c_un (c_W mm) c (m + 1)) := congrArg Prod.fst e1
  have ep : (t_X4_joinRing_35 md fr mm ma ml s (mm s, f_X4_before md fr mm ma ml s) 48).2.2 = f_X4_before md fr mm ma ml (c m) := congrArg Prod.snd e1
  rw [hp] at ep
  rw [ea] at ha
  -- the ring closes
  have hcl : gm (c_W mm) s (tq_x (fr (tq_x (ma (c m))))) := by
    rcases r_before hnk hak hfr hfr2 C (by omega) (c1 m (Nat.le_refl _)).1 with ⟨g1, -⟩ | ⟨h, g1, g2, g3⟩
    · rw [g1] at ep; exact absurd ep (w_neg (by omega))
    · rw [g1] at ep
      have e2 : s = h := (nI_eq (by omega) (by have := g2.1; omega)).mp ep
      rw [e2]; exact g3
  have hm1 : 1 ≤ m := by
    rcases Nat.eq_zero_or_pos m with q | q
    · rw [q, c0] at hcl
      exact absurd hcl (C.1.1.2.2.2.1 s hs)
    · exact q
  have hbit : ∀ x, (c_un (c_W mm) c (m + 1)).testBit x = true ↔ ∃ j, j < m + 1 ∧ gm (c_W mm) (c j) x := fun x => c_un_bit (m + 1)
  have hw24 : c_un (c_W mm) c (m + 1) < 2 ^ 24 := c_un_lt _ (fun i hi => (C.2.1 _ (c1 i (by omega)).1).1.2)
  generalize c_un (c_W mm) c (m + 1) = w at ha hbit hw24
  have hNw : ∀ x, w.testBit x = true → c_N nk r x := fun x hx => by
    obtain ⟨j, hj, g⟩ := (hbit x).mp hx
    exact C.1.1.2.1 _ (c1 j (by omega)).1 x g
  obtain ⟨x0, hx0⟩ := C.1.1.1 s hs
  have hx0w : w.testBit x0 = true := (hbit x0).mpr ⟨0, by omega, by rw [c0]; exact hx0⟩
  have hadm : gr_adm (fun j => tq_x (fr j)) md (c_W mm) (r_V ma du dh dl) w := Or.inr ⟨fun j => c (j % (m + 1)), fun j => c1 _ (by have := Nat.mod_lt j (show m + 1 > 0 by omega); omega), fun j => by
      show gm (c_W mm) (c ((j + 1) % (m + 1))) (tq_x (fr (tq_x (ma (c (j % (m + 1)))))))
      have h1 := Nat.mod_lt j (show m + 1 > 0 by omega)
      by_cases d1 : j % (m + 1) + 1 < m + 1
      · have e2 : (j + 1) % (m + 1) = j % (m + 1) + 1 := by
          rw [Nat.add_mod, Nat.mod_eq_of_lt (show 1 < m + 1 by omega), Nat.mod_eq_of_lt d1]
        rw [e2]; exact c2 (j % (m + 1)) (by omega)
      · have e2 : (j + 1) % (m + 1) = 0 := by
          rw [Nat.add_mod, Nat.mod_eq_of_lt (show 1 < m + 1 by omega), show j % (m + 1) + 1 = m + 1 by omega, Nat.mod_self]
        rw [e2, c0, show j % (m + 1) = m by omega]; exact hcl, ⟨m + 1, by omega, fun j => by
      show c ((j + (m + 1)) % (m + 1)) = c (j % (m + 1))
      rw [Nat.add_mod_right]⟩, fun x => by
      rw [hbit x]
      constructor
      · rintro ⟨j, hj, g⟩
        refine ⟨j, ?_⟩
        show gm (c_W mm) (c (j % (m + 1))) x
        rw [Nat.mod_eq_of_lt hj]; exact g
      · rintro ⟨j, g⟩
        exact ⟨j % (m + 1), Nat.mod_lt j (show m + 1 > 0 by omega), g⟩⟩
  have hsubz : ∀ t, t < md → ((mm t &&& (nI w ^^^ (-1))) = 0 ↔ ∃ v, gm (c_W mm) t v ∧ w.testBit v = true) := fun t ht => by
    have e2 : mm t = nI (c_W mm t) := (C.2.1 t ht).1.1
    have e3 : (nI (c_W mm t) &&& (nI w ^^^ (-1))) = 0 ↔ c_W mm t &&& w = c_W mm t := fb_subset (C.2.1 t ht).1.2
    rw [e2, e3]
    constructor
    · intro h
      obtain ⟨v, hv⟩ := C.1.1.1 t ht
      have h3 : (c_W mm t &&& w).testBit v = true := by
        have h4 : (c_W mm t).testBit v = true := hv
        have h5 : c_W mm t &&& w = c_W mm t := h
        rw [h5]; exact h4
      rw [Nat.testBit_and, Bool.and_eq_true] at h3
      exact ⟨v, hv, h3.2⟩
    · rintro ⟨v, v1, v2⟩
      have h3 := gr_meet C.1 hadm ht v1 v2
      apply Nat.eq_of_testBit_eq
      intro x
      rw [Nat.testBit_and]
      cases hx : (c_W mm t).testBit x
      · rfl
      · rw [h3 x hx]; rfl
  have hmk := k_mark (md := md) (mm := mm) (ml := ml) (mv := mv) (al := nI w)
  obtain ⟨ma', du', dh', dl', q0, q1, q2, f1, f2, -⟩ := r_add (N' := c_N nk r) (nk := nk) (w := w) (mv1 := (t_X4_joinRing_86 md mm (nI w) (ml, mv) md).2) (ml1 := (t_X4_joinRing_86 md mm (nI w) (ml, mv) md).1) (r0 := r0) (r1 := r1) (r2 := r2) hnk hak hfr hto C hmd hw24 hadm (fun _ h => h) hNw (fun x h => Or.inl h)
    (fb_ent (F := fun j => tq_x (fr j)) (T := fun j => tq_x (to j)) (o := fun j => ¬ op j = 0) (r := r) (by
      rcases hq : w.testBit r with _ | _
      · first | rfl | exact hq
      · exact absurd rfl (hNw r hq).2) ⟨x0, hx0w, hR x0 (hNw x0 hx0w).1⟩)
    (fun t ht => ⟨fun h1 h2 => by
      have hc : t < md ∧ (¬ ml t = 0) ∧ (mm t &&& (nI w ^^^ (-1))) = 0 := ⟨ht, by rw [h1]; decide, (hsubz t ht).mpr h2⟩
      rw [(hmk t).1, (hmk t).2, if_pos hc, if_pos hc]; exact ⟨rfl, rfl⟩, fun h1 h2 => by
      have hc : ¬ (t < md ∧ (¬ ml t = 0) ∧ (mm t &&& (nI w ^^^ (-1))) = 0) := fun h => by
        obtain ⟨v, v1, v2⟩ := (hsubz t ht).mp h.2.2
        exact h2 v v1 v2
      rw [(hmk t).1, (hmk t).2, if_neg hc, if_neg hc]; exact ⟨rfl, rfl⟩, fun h1 => by
      have hc : ¬ (t < md ∧ (¬ ml t = 0) ∧ (mm t &&& (nI w ^^^ (-1))) = 0) := fun h => h.2.1 h1
      rw [(hmk t).1, (hmk t).2, if_neg hc, if_neg hc]; exact ⟨rfl, rfl⟩⟩)
  refine ⟨w, _, _, ma', du', dh', dl', q0, q1, q2, ?_, f2, ?_⟩
  · unfold f_X4_joinRing
    rw [if_pos hfl, ha, f1]
  · have hgone : ∀ j, j ≤ m → ¬ ¬ (t_X4_joinRing_86 md mm (nI w) (ml, mv) md).1 (c j) = 0 := fun j hj h => by
      have hlj := c1 j hj
      obtain ⟨x, hx⟩ := C.1.1.1 _ hlj.1
      rw [(hmk (c j)).1, if_pos ⟨hlj.1, (r_live C hlj.1).1.mpr hlj, (hsubz _ hlj.1).mpr ⟨x, hx, (hbit x).mpr ⟨j, by omega, hx⟩⟩⟩] at h
      exact h rfl
    have h2 := fc_two (p := fun t => decide (¬ (t_X4_joinRing_86 md mm (nI w) (ml, mv) md).1 t = 0)) (q := fun t => decide (¬ ml t = 0)) (a := c 0) (b := c 1) md (fun t ht hd => by
      have hd := of_decide_eq_true hd
      refine decide_eq_true (fun h => hd ?_)
      rw [(hmk t).1]
      split
      · rfl
      · exact h) (c1 0 (by omega)).1 (c1 1 hm1).1 (fun h => c3 1 (by omega) hm1 (by rw [← h, c0])) (decide_eq_false (hgone 0 (by omega))) (decide_eq_false (hgone 1 hm1)) (decide_eq_true ((r_live C (c1 0 (by omega)).1).1.mpr (c1 0 (by omega)))) (decide_eq_true ((r_live C (c1 1 hm1).1).1.mpr (c1 1 hm1)))
    have h3 : r_cnt (md + 1) (upd (t_X4_joinRing_86 md mm (nI w) (ml, mv) md).1 md 1) = fc (fun t => decide (¬ (t_X4_joinRing_86 md mm (nI w) (ml, mv) md).1 t = 0)) md + 1 := by
      show fc (fun t => decide (¬ upd (t_X4_joinRing_86 md mm (nI w) (ml, mv) md).1 md 1 t = 0)) md + (if decide (¬ upd (t_X4_joinRing_86 md mm (nI w) (ml, mv) md).1 md 1 md = 0) = true then 1 else 0) = _
      rw [if_pos (decide_eq_true (by rw [upd_eq]; decide)), fc_congr md (fun t ht => by rw [upd_ne (by omega)])]
    rw [h3]
    show fc (fun t => decide (¬ (t_X4_joinRing_86 md mm (nI w) (ml, mv) md).1 t = 0)) md + 1 + 1 ≤ fc (fun t => decide (¬ ml t = 0)) md
    omega
