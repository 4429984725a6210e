/-! The reference's joining, from the single nodes to the end. -/
theorem r_none {ak md : Nat} {fr to : Nat → Int32} {wt : Nat → Int64} {op mm ma mv ml : Nat → Int32} {du dh dl : Nat → Int64} {r0 r1 r2 : Int64} (hfl : (t_X4_joinRing_2 md fr mm ma ml 0 md).1 = false) : f_X4_joinRing ak md r0 r1 r2 fr to wt op mm ma du dh dl mv ml = (0, md, mm, mv, ml, ma, du, dh, dl, r0, r1, r2) := by
  unfold f_X4_joinRing
  rw [if_neg (by rw [hfl]; exact Bool.false_ne_true)]
theorem r_cnt_pos {N : Nat → Prop} {ak k : Nat} {fr to : Nat → Int32} {wt : Nat → Int64} {op mm ma mv ml : Nat → Int32} {du dh dl : Nat → Int64} (C : ri N ak fr to wt op k mm ma mv ml du dh dl) (hk : 0 < k) : 0 < r_cnt k ml := by
  refine fc_pos (u := k - 1) (by omega) (decide_eq_true ?_)
  rcases C.2.2 (k - 1) (by omega) with ⟨h1, -⟩ | ⟨-, u, -, h2, h3, -⟩
  · rw [h1]; decide
  · omega
def r_in (nk ak r : Nat) (fr to : Nat → Int32) (wt : Nat → Int64) (op : Nat → Int32) (i : Nat) (fl : Bool) (more : Int32) (zd : Nat) (zm zv zl za : Nat → Int32) (zu zh zw : Nat → Int64) : Prop :=
  ri (c_N nk r) ak fr to wt op zd zm za zv zl zu zh zw ∧ zd + r_cnt zd zl ≤ 2 * (nk - 1) ∧ nk - 1 ≤ zd ∧ (fl = false → i + (nk - 1) ≤ zd + 1 ∧ (¬ more = 0 → i + (nk - 1) ≤ zd)) ∧ ((fl = true ∨ more = 0) → fm_end zd (gm (c_W zm)) (fun t => tq_x (fr (tq_x (za t)))))
theorem r_solve {nk ak r : Nat} {fr to : Nat → Int32} {wt : Nat → Int64} {op : Nat → Int32} (hnk : nk ≤ 24) (hr : r < nk) (hak : ak ≤ 60) (hfr : ∀ j, j < 60 → tq_r 24 (fr j)) (hto : ∀ j, j < 60 → tq_r 24 (to j)) (hfr2 : ∀ j, j < ak → tq_x (fr j) < nk)
    (hR : ∀ v, v < nk → fb_R (fun j => tq_x (fr j)) (fun j => tq_x (to j)) (fun j => ¬ op j = 0) ak r v) {zd0 : Nat} {zm0 zv0 zl0 za0 : Nat → Int32} {zu0 zh0 zw0 : Nat → Int64} {p0 p1 p2 : Int64} (C0 : ri (c_N nk r) ak fr to wt op zd0 zm0 za0 zv0 zl0 zu0 zh0 zw0) (h0 : zd0 = nk - 1) (hl0 : ∀ s, s < zd0 → zl0 s = 1) : ∀ i,
    ∃ (fl : Bool) (more : Int32) (zd : Nat) (zm zv zl za : Nat → Int32) (zu zh zw : Nat → Int64) (q0 q1 q2 : Int64), t_X4_solve_70 ak fr to wt op (1, zd0, zm0, zv0, zl0, za0, zu0, zh0, zw0, p0, p1, p2) i = (fl, more, zd, zm, zv, zl, za, zu, zh, zw, q0, q1, q2) ∧ r_in nk ak r fr to wt op i fl more zd zm zv zl za zu zh zw := by
  intro i
  induction i with
  | zero =>
    have hc : r_cnt zd0 zl0 = zd0 := fc_all zd0 (fun s hs => decide_eq_true (by rw [hl0 s hs]; decide))
    exact ⟨false, 1, zd0, zm0, zv0, zl0, za0, zu0, zh0, zw0, p0, p1, p2, rfl, C0, by rw [hc]; omega, by omega, fun _ => ⟨by omega, fun _ => by omega⟩, fun h => by
      rcases h with h | h
      · exact absurd h Bool.false_ne_true
      · exact absurd h (by decide)⟩
  | succ i ih =>
    obtain ⟨fl, more, zd, zm, zv, zl, za, zu, zh, zw, q0, q1, q2, e1, C, hcnt, hlow, hfl, hend⟩ := ih
    cases fl
    · have e2 : t_X4_solve_70 ak fr to wt op (1, zd0, zm0, zv0, zl0, za0, zu0, zh0, zw0, p0, p1, p2) (i + 1) = b_X4_solve_70 ak fr to wt op i more zd zm zv zl za zu zh zw q0 q1 q2 := by
        unfold t_X4_solve_70 at e1 ⊢
        rw [tq_br_go e1]
      rw [e2]
      unfold b_X4_solve_70
      by_cases c1 : more = 0
      · rw [if_pos c1]
        exact ⟨true, more, zd, zm, zv, zl, za, zu, zh, zw, q0, q1, q2, rfl, C, hcnt, hlow, fun h => absurd h.symm Bool.false_ne_true, fun _ => hend (Or.inr c1)⟩
      · rw [if_neg c1]
        have hi := (hfl rfl).2 c1
        have hzd : zd < 48 := by omega
        rcases hq : (t_X4_joinRing_2 zd fr zm za zl 0 zd).1 with _ | _
        · rw [r_none hq]
          exact ⟨false, 0, zd, zm, zv, zl, za, zu, zh, zw, q0, q1, q2, rfl, C, hcnt, hlow, fun _ => ⟨by omega, fun h => absurd rfl h⟩, fun _ => r_end hnk hak hfr hfr2 C (by omega) hq⟩
        · obtain ⟨w, mv', ml', ma', du', dh', dl', x0, x1, x2, f1, f2, f3⟩ := r_join (r0 := q0) (r1 := q1) (r2 := q2) hnk hak hfr hto hfr2 hR C hzd hq
          rw [f1]
          exact ⟨false, 1, zd + 1, upd zm zd (nI w), mv', ml', ma', du', dh', dl', x0, x1, x2, rfl, f2, by omega, by omega, fun _ => ⟨by omega, fun _ => by omega⟩, fun h => by
            rcases h with h | h
            · exact absurd h Bool.false_ne_true
            · exact absurd h (by decide)⟩
    · refine ⟨true, more, zd, zm, zv, zl, za, zu, zh, zw, q0, q1, q2, ?_, C, hcnt, hlow, fun h => absurd h.symm Bool.false_ne_true, hend⟩
      unfold t_X4_solve_70 at e1 ⊢
      exact tq_br_end e1 1
