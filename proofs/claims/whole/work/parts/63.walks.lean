/-! All walks of the class: at the end no ring is left. -/
def w_all (nk ak r v : Nat) (fr to : Nat → Int32) (wt : Nat → Int64) (op : Nat → Int32) (ck : Nat) (sm sa so : Nat → Int32) (dw dp : Nat → Int64) (wk hm : Nat → Int32) (hw hp : Nat → Int64) : Prop :=
  ci (c_N nk r) ak fr to wt op ck sm sa so dw dp hm hw hp ∧ ck ≤ 45 ∧ ck + c_live ck so ≤ 2 * (nk - 1) ∧ nk - 1 ≤ ck ∧ (∀ t, t < ck → wk t = -1 ∨ c_mk v wk t) ∧ w_good r v ck (gm (c_W sm)) (fun t => tq_x (fr (tq_x (sa t)))) wk ∧ w_nodes r v ck (gm (c_W sm)) wk
def w_in (nk ak r v : Nat) (fr to : Nat → Int32) (wt : Nat → Int64) (op : Nat → Int32) (s : Int32) (ck : Nat) (sm sa so : Nat → Int32) (dw dp : Nat → Int64) (wk hm : Nat → Int32) (hw hp : Nat → Int64) : Prop :=
  ci (c_N nk r) ak fr to wt op ck sm sa so dw dp hm hw hp ∧ ck ≤ 45 ∧ ck + c_live ck so ≤ 2 * (nk - 1) ∧ nk - 1 ≤ ck ∧ (∀ t, t < ck → wk t = -1 ∨ c_mk (v + 1) wk t) ∧ w_good r v ck (gm (c_W sm)) (fun t => tq_x (fr (tq_x (sa t)))) wk ∧ w_nodes r v ck (gm (c_W sm)) wk ∧ w_path r v ck (gm (c_W sm)) (fun t => tq_x (fr (tq_x (sa t)))) wk s
def w_mu (ck : Nat) (wk : Nat → Int32) : Nat := fc (fun t => decide (¬ wk t = -1)) ck + ck
theorem w_step {nk ak r v : Nat} {fr to : Nat → Int32} {wt : Nat → Int64} {op : Nat → Int32} (hnk : nk ≤ 24) (hr : r < nk) (hak : ak ≤ 60) (hfr : ∀ j, j < 60 → tq_r 24 (fr j)) (hto : ∀ j, j < 60 → tq_r 24 (to j)) (hfr2 : ∀ j, j < ak → tq_x (fr j) < nk)
    (hR : ∀ v, v < nk → fb_R (fun j => tq_x (fr j)) (fun j => tq_x (to j)) (fun j => ¬ op j = 0) ak r v) (hv : v < nk) {i : Nat} {s : Int32} {ck : Nat} {sm sa so : Nat → Int32} {dw dp : Nat → Int64} {wk hm : Nat → Int32} {hw hp : Nat → Int64} (I : w_in nk ak r v fr to wt op s ck sm sa so dw dp wk hm hw hp) :
    (∃ (s' : Int32) (ck' : Nat) (sm' sa' so' : Nat → Int32) (dw' dp' : Nat → Int64) (wk' hm' : Nat → Int32) (hw' hp' : Nat → Int64), b_X0_walkBackFrom_9 nk ak fr to wt op v i s ck sm sa so dw dp wk hm hw hp = (false, s', ck', sm', sa', so', dw', dp', wk', hm', hw', hp') ∧ w_in nk ak r v fr to wt op s' ck' sm' sa' so' dw' dp' wk' hm' hw' hp' ∧ w_mu ck wk + 1 ≤ w_mu ck' wk') ∨
    (b_X0_walkBackFrom_9 nk ak fr to wt op v i s ck sm sa so dw dp wk hm hw hp = (true, s, ck, sm, sa, so, dw, dp, wk, hm, hw, hp) ∧ w_all nk ak r (v + 1) fr to wt op ck sm sa so dw dp wk hm hw hp) := by
  obtain ⟨C, hck, hcnt, hlow, hmk, hg, hnd, hpath⟩ := I
  have hMr : ∀ t, t < ck → ¬ gm (c_W sm) t r := fun t ht h1 => (C.1.1.2.1 t ht r h1).2 rfl
  have stop : (s = -1 ∨ ∃ h, s = nI h ∧ h < 2 ^ 30 ∧ ¬ wk h = -1 ∧ ¬ wk h = nI v) → w_all nk ak r (v + 1) fr to wt op ck sm sa so dw dp wk hm hw hp := fun hs => by
    obtain ⟨g1, g2⟩ := w_fin (by omega) (by omega) hMr hmk hg hnd hpath hs
    exact ⟨C, hck, hcnt, hlow, hmk, g1, g2⟩
  have hcur : s = -1 ∨ ∃ h, s = nI h ∧ fm_live (gm (c_W sm)) ck h := by
    obtain ⟨π, n, -, -, -, -, -, p6⟩ := hpath
    rcases p6 with ⟨e1, -⟩ | ⟨h, e1, l1, -⟩
    · exact Or.inl e1
    · exact Or.inr ⟨h, e1, l1⟩
  unfold b_X0_walkBackFrom_9
  rcases hcur with e1 | ⟨h, e1, l1⟩
  · rw [if_pos e1]; exact Or.inr ⟨rfl, stop (Or.inl e1)⟩
  · have hh := l1.1
    subst e1
    rw [if_neg (w_neg (by omega)), tq_x_nI (by omega)]
    by_cases c1 : wk h = -1
    · rw [if_pos c1]
      obtain ⟨m1, m2, m3, m4⟩ := w_mark (by omega) (by omega) c1 hmk hg hnd l1 hpath (c_before hnk hak hfr2 C hck hh)
      refine Or.inl ⟨_, _, _, _, _, _, _, _, _, _, _, rfl, ⟨C, hck, hcnt, hlow, m1, m2, m3, m4⟩, ?_⟩
      have h1 := fc_lt (p := fun t => decide (¬ wk t = -1)) (q := fun t => decide (¬ upd wk h (nI v) t = -1)) (u := h) ck (fun t _ ht => by
        have ht := of_decide_eq_true ht
        refine decide_eq_true ?_
        by_cases c2 : t = h
        · rw [c2, upd_eq]; exact w_neg (by omega)
        · rw [upd_ne c2]; exact ht) hh (decide_eq_false (fun h9 => h9 c1)) (decide_eq_true (by rw [upd_eq]; exact w_neg (by omega)))
      show fc (fun t => decide (¬ wk t = -1)) ck + ck + 1 ≤ fc (fun t => decide (¬ upd wk h (nI v) t = -1)) ck + ck
      omega
    · rw [if_neg c1]
      by_cases c2 : wk h = nI v
      · rw [if_pos c2]
        obtain ⟨w, sa', so', dw', dp', hm', hw', hp', f1, f2, f3, f4, f5, f6, f7⟩ := w_join hnk hr hak hfr hto hfr2 hR (by omega) C hck hcnt hmk hg hnd hpath l1 c2
        rw [f1]
        have hso : so' ck = -1 := by
          rcases f2.2.2.2.2 ck (by omega) with ⟨g, -⟩ | ⟨u, -, g1, g2, -⟩
          · exact g
          · omega
        have hl1 : 0 < c_live (ck + 1) so' := fc_pos (u := ck) (by omega) (decide_eq_true hso)
        refine Or.inl ⟨_, _, _, _, _, _, _, _, _, _, _, rfl, ⟨f2, (show ck + 1 ≤ 45 by omega), f3, (show nk - 1 ≤ ck + 1 by omega), f4, f5, f6, f7⟩, ?_⟩
        have e2 : fc (fun t => decide (¬ upd wk ck (-1) t = -1)) (ck + 1) = fc (fun t => decide (¬ wk t = -1)) ck := by
          show fc (fun t => decide (¬ upd wk ck (-1) t = -1)) ck + (if decide (¬ upd wk ck (-1) ck = -1) = true then 1 else 0) = _
          rw [if_neg (by rw [upd_eq]; decide), fc_congr ck (fun t ht => by rw [upd_ne (by omega)])]; rfl
        show fc (fun t => decide (¬ wk t = -1)) ck + ck + 1 ≤ fc (fun t => decide (¬ upd wk ck (-1) t = -1)) (ck + 1) + (ck + 1)
        omega
      · rw [if_neg c2]; exact Or.inr ⟨rfl, stop (Or.inr ⟨h, rfl, by omega, c1, c2⟩)⟩
theorem w_walk {nk ak r v : Nat} {fr to : Nat → Int32} {wt : Nat → Int64} {op : Nat → Int32} (hnk : nk ≤ 24) (hr : r < nk) (hak : ak ≤ 60) (hfr : ∀ j, j < 60 → tq_r 24 (fr j)) (hto : ∀ j, j < 60 → tq_r 24 (to j)) (hfr2 : ∀ j, j < ak → tq_x (fr j) < nk)
    (hR : ∀ v, v < nk → fb_R (fun j => tq_x (fr j)) (fun j => tq_x (to j)) (fun j => ¬ op j = 0) ak r v) (hv : v < nk) {ck : Nat} {sm sa so : Nat → Int32} {dw dp : Nat → Int64} {wk hm : Nat → Int32} {hw hp : Nat → Int64} (I : w_all nk ak r v fr to wt op ck sm sa so dw dp wk hm hw hp) :
    ∃ (ck' : Nat) (sm' sa' so' : Nat → Int32) (dw' dp' : Nat → Int64) (wk' hm' : Nat → Int32) (hw' hp' : Nat → Int64), f_X0_walkBackFrom nk ak ck fr to wt op sm sa so dw dp wk hm hw hp v = (ck', sm', sa', so', dw', dp', wk', hm', hw', hp') ∧ w_all nk ak r (v + 1) fr to wt op ck' sm' sa' so' dw' dp' wk' hm' hw' hp' := by
  obtain ⟨C, hck, hcnt, hlow, hmk, hg, hnd⟩ := I
  have key : ∀ i, (∃ (s' : Int32) (ck' : Nat) (sm' sa' so' : Nat → Int32) (dw' dp' : Nat → Int64) (wk' hm' : Nat → Int32) (hw' hp' : Nat → Int64), t_X0_walkBackFrom_9 nk ak fr to wt op v (hm v, ck, sm, sa, so, dw, dp, wk, hm, hw, hp) i = (false, s', ck', sm', sa', so', dw', dp', wk', hm', hw', hp') ∧ w_in nk ak r v fr to wt op s' ck' sm' sa' so' dw' dp' wk' hm' hw' hp' ∧ i + w_mu ck wk ≤ w_mu ck' wk') ∨
      (∃ (s' : Int32) (ck' : Nat) (sm' sa' so' : Nat → Int32) (dw' dp' : Nat → Int64) (wk' hm' : Nat → Int32) (hw' hp' : Nat → Int64), t_X0_walkBackFrom_9 nk ak fr to wt op v (hm v, ck, sm, sa, so, dw, dp, wk, hm, hw, hp) i = (true, s', ck', sm', sa', so', dw', dp', wk', hm', hw', hp') ∧ w_all nk ak r (v + 1) fr to wt op ck' sm' sa' so' dw' dp' wk' hm' hw' hp') := by
    intro i
    induction i with
    | zero =>
      refine Or.inl ⟨_, _, _, _, _, _, _, _, _, _, _, rfl, ⟨C, hck, hcnt, hlow, fun t ht => (hmk t ht).imp id (fun h => c_mk_succ.mpr (Or.inl h)), hg, hnd, fun _ => 0, 0, fun i hi => absurd hi (by omega), fun i j hi => absurd hi (by omega), fun i hi => absurd hi (by omega), fun t ht e1 => ?_, fun h => absurd h (by omega), ?_⟩, by omega⟩
      · rcases hmk t ht.1 with q | q
        · rw [q] at e1; exact absurd e1.symm (w_neg (by omega))
        · exact absurd e1 (c_mk_ne (by omega) q)
      · unfold w_at
        rw [if_pos rfl]
        obtain ⟨k1, k2⟩ := C.2.2.2.1 v (by omega)
        by_cases c1 : v = r
        · exact Or.inl ⟨k2 (fun h => h.2 c1), c1⟩
        · exact Or.inr (k1 ⟨hv, c1⟩)
    | succ i ih =>
      rcases ih with ⟨s', ck', sm', sa', so', dw', dp', wk', hm', hw', hp', e1, I', hmu⟩ | ⟨s', ck', sm', sa', so', dw', dp', wk', hm', hw', hp', e1, I'⟩
      · have e2 : t_X0_walkBackFrom_9 nk ak fr to wt op v (hm v, ck, sm, sa, so, dw, dp, wk, hm, hw, hp) (i + 1) = b_X0_walkBackFrom_9 nk ak fr to wt op v i s' ck' sm' sa' so' dw' dp' wk' hm' hw' hp' := by
          unfold t_X0_walkBackFrom_9 at e1 ⊢
          rw [tq_br_go e1]
        rw [e2]
        rcases w_step (i := i) hnk hr hak hfr hto hfr2 hR hv I' with ⟨s2, ck2, sm2, sa2, so2, dw2, dp2, wk2, hm2, hw2, hp2, g1, g2, g3⟩ | ⟨g1, g2⟩
        · exact Or.inl ⟨s2, ck2, sm2, sa2, so2, dw2, dp2, wk2, hm2, hw2, hp2, g1, g2, by omega⟩
        · exact Or.inr ⟨s', ck', sm', sa', so', dw', dp', wk', hm', hw', hp', g1, g2⟩
      · refine Or.inr ⟨s', ck', sm', sa', so', dw', dp', wk', hm', hw', hp', ?_, I'⟩
        unfold t_X0_walkBackFrom_9 at e1 ⊢
        exact tq_br_end e1 1
  rcases key 90 with ⟨s', ck', sm', sa', so', dw', dp', wk', hm', hw', hp', e1, I', hmu⟩ | ⟨s', ck', sm', sa', so', dw', dp', wk', hm', hw', hp', e1, I'⟩
  · exfalso
    have h1 := fc_le (fun t => decide (¬ wk' t = -1)) ck'
    have h2 := I'.2.1
    have h3 := I'.2.2.1
    unfold w_mu at hmu
    omega
  · refine ⟨ck', sm', sa', so', dw', dp', wk', hm', hw', hp', ?_, I'⟩
    unfold f_X0_walkBackFrom
    rw [e1]
