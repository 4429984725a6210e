/-! The single nodes, and how many sets are live. -/
theorem fb_ent {F T : Nat → Nat} {o : Nat → Prop} {a r w : Nat} (hr : w.testBit r = false) (hne : ∃ v, w.testBit v = true ∧ fb_R F T o a r v) : ∃ j, j < a ∧ o j ∧ w.testBit (T j) = true ∧ w.testBit (F j) = false := by
  refine Classical.byContradiction fun hno => ?_
  obtain ⟨v, hv1, hv2⟩ := hne
  have h1 := hv2 (fun v => w.testBit v = false) hr (fun j hj ho hF => by
    rcases hq : w.testBit (T j) with _ | _
    · rfl
    · exact absurd ⟨j, hj, ho, hq, hF⟩ hno)
  rw [hv1] at h1
  exact Bool.false_ne_true h1.symm
def c_N (nk r : Nat) : Nat → Prop := fun v => v < nk ∧ v ≠ r
def c_live (k : Nat) (so : Nat → Int32) : Nat := fc (fun s => decide (so s = -1)) k
theorem c_live_iff {N : Nat → Prop} {ak k : Nat} {fr to : Nat → Int32} {wt : Nat → Int64} {op sm sa so : Nat → Int32} {dw dp : Nat → Int64} {hm : Nat → Int32} {hw hp : Nat → Int64} (C : ci N ak fr to wt op k sm sa so dw dp hm hw hp) (hk : k ≤ 45) {s : Nat} (hs : s < k) : so s = -1 ↔ fm_live (gm (c_W sm)) k s := by
  rcases C.2.2.2.2 s hs with ⟨h1, h2⟩ | ⟨u, h1, h2, h3, h4, -⟩
  · exact ⟨fun _ => h2, fun _ => h1⟩
  · refine ⟨fun h => absurd h (by rw [h1]; exact tq_r_ne (n := 60) (tq_r_nI (by omega) (by decide)) (by decide)), fun h => ?_⟩
    obtain ⟨v, hv⟩ := C.1.1.1 s hs
    exact absurd (h4 v hv) (fun h5 => h.2 u h2 h3 v hv h5)
theorem ci_zero {N : Nat → Prop} (hN : ∀ v, ¬ N v) {ak : Nat} {fr to : Nat → Int32} {wt : Nat → Int64} {op sm sa so : Nat → Int32} {dw dp : Nat → Int64} {hm : Nat → Int32} {hw hp : Nat → Int64} (h1 : ∀ v, v < 24 → hm v = -1) (h2 : ∀ v, v < 24 → hw v = 0) (h3 : ∀ v, v < 24 → hp v = 0) : ci N ak fr to wt op 0 sm sa so dw dp hm hw hp :=
  ⟨⟨⟨fun s hs => absurd hs (by omega), fun s hs => absurd hs (by omega), fun v hv => absurd hv (hN v), fun s hs => absurd hs (by omega), fun s hs => absurd hs (by omega)⟩, fun s hs => absurd hs (by omega)⟩, fun s hs => absurd hs (by omega), fun v hv => ⟨h2 v hv, by rw [h3 v hv]; rfl⟩, fun v hv => ⟨fun h => absurd h (hN v), fun _ => h1 v hv⟩, fun s hs => absurd hs (by omega)⟩
theorem fc_all {p : Nat → Bool} : ∀ n, (∀ v, v < n → p v = true) → fc p n = n := by
  intro n
  induction n with
  | zero => intro _; rfl
  | succ n ih =>
    intro h
    show fc p n + (if p n = true then 1 else 0) = n + 1
    rw [ih (fun v hv => h v (by omega)), if_pos (h n (by omega))]
/-- after i nodes: a set for each of them but the root, all live, none walked to -/
theorem c_singles {nk ak r : Nat} {fr to : Nat → Int32} {wt : Nat → Int64} {op sm sa so : Nat → Int32} {dw dp : Nat → Int64} {wk hm : Nat → Int32} {hw hp : Nat → Int64} (hnk : nk ≤ 24) (hr : r < nk) (hak : ak ≤ 60) (hfr : ∀ j, j < 60 → tq_r 24 (fr j)) (hto : ∀ j, j < 60 → tq_r 24 (to j))
    (hR : ∀ v, v < nk → fb_R (fun j => tq_x (fr j)) (fun j => tq_x (to j)) (fun j => ¬ op j = 0) ak r v) (h1 : ∀ v, v < 24 → hm v = -1) (h2 : ∀ v, v < 24 → hw v = 0) (h3 : ∀ v, v < 24 → hp v = 0) : ∀ i, i ≤ nk →
    ∃ (ck : Nat) (sm' sa' so' : Nat → Int32) (dw' dp' : Nat → Int64) (wk' hm' : Nat → Int32) (hw' hp' : Nat → Int64), t_X0_grow_31 nk (nI r) ak fr to wt op (0, sm, sa, so, dw, dp, wk, hm, hw, hp) i = (ck, sm', sa', so', dw', dp', wk', hm', hw', hp') ∧
      ci (c_N i r) ak fr to wt op ck sm' sa' so' dw' dp' hm' hw' hp' ∧ ck = (if r < i then i - 1 else i) ∧ (∀ s, s < ck → wk' s = -1) ∧ ∀ s, s < ck → so' s = -1 := by
  intro i
  induction i with
  | zero => intro _; exact ⟨0, sm, sa, so, dw, dp, wk, hm, hw, hp, rfl, ci_zero (fun v hv => absurd hv.1 (by omega)) h1 h2 h3, by rw [if_neg (by omega)], fun s hs => absurd hs (by omega), fun s hs => absurd hs (by omega)⟩
  | succ i ih =>
    intro hi
    obtain ⟨ck, sm', sa', so', dw', dp', wk', hm', hw', hp', e1, C, hck, hwk, hso⟩ := ih (by omega)
    have e2 : t_X0_grow_31 nk (nI r) ak fr to wt op (0, sm, sa, so, dw, dp, wk, hm, hw, hp) (i + 1) = b_X0_grow_31 nk (nI r) ak fr to wt op i ck sm' sa' so' dw' dp' wk' hm' hw' hp' := by
      unfold t_X0_grow_31 at e1 ⊢
      rw [tq_it_succ, e1]
    rw [e2]
    unfold b_X0_grow_31
    by_cases c1 : i = r
    · subst c1
      rw [if_pos rfl]
      have hNN : c_N (i + 1) i = c_N i i := by
        funext v
        exact propext ⟨fun h => ⟨by have := h.1; have := h.2; omega, h.2⟩, fun h => ⟨by have := h.1; omega, h.2⟩⟩
      rw [hNN]
      refine ⟨ck, sm', sa', so', dw', dp', wk', hm', hw', hp', rfl, C, ?_, hwk, hso⟩
      rw [hck, if_neg (by omega), if_pos (by omega)]; rfl
    · rw [if_neg (fun h => c1 ((nI_eq (by omega) (by omega)).mp h))]
      have hck2 : ck ≤ i := by rw [hck]; split <;> omega
      have hone : (1 : Int32) <<< ((nI i) &&& 31) = nI (2 ^ i) := tb_one i (by omega)
      have hbit : ∀ v, (2 ^ i).testBit v = true ↔ v = i := fun v => by
        rw [Nat.testBit_two_pow, decide_eq_true_eq]; exact ⟨fun h => h.symm, fun h => h.symm⟩
      obtain ⟨sa2, so2, dw2, dp2, hm2, hw2, hp2, f1, f2, f3, f4, f5, f6⟩ := c_add (N' := c_N (i + 1) r) (nk := nk) (w := 2 ^ i) (wk := wk') hnk hak hfr hto C (by omega) (Nat.pow_lt_pow_right (by decide) (by omega)) (Or.inl ⟨i, rfl, fun s hs h => absurd (C.1.1.2.1 s hs i h).1 (by omega)⟩) (fun v hv => ⟨by have := hv.1; omega, hv.2⟩) (fun v hv => by have := hv.1; omega)
        (fun v hv => by rw [(hbit v).mp hv]; exact ⟨by omega, c1⟩) (fun v hv => by
          by_cases c2 : v = i
          · refine Or.inr (fun x => ?_)
            rw [c2]; exact hbit x
          · exact Or.inl ⟨by have := hv.1; omega, hv.2⟩)
        (fb_ent (F := fun j => tq_x (fr j)) (T := fun j => tq_x (to j)) (o := fun j => ¬ op j = 0) (r := r) (by
          rcases hq : (2 ^ i).testBit r with _ | _
          · exact hq
          · exact absurd ((hbit r).mp hq).symm c1) ⟨i, (hbit i).mpr rfl, hR i (by omega)⟩)
      rw [hone, f1]
      refine ⟨ck + 1, upd sm' ck (nI (2 ^ i)), sa2, so2, dw2, dp2, upd wk' ck (-1), hm2, hw2, hp2, rfl, f2, ?_, fun s hs => ?_, fun s hs => ?_⟩
      · rw [hck]; split
        · rw [if_pos (by omega)]; omega
        · rw [if_neg (by omega)]
      · by_cases c2 : s = ck
        · rw [c2, upd_eq]
        · rw [upd_ne c2]; exact hwk s (by omega)
      · by_cases c2 : s = ck
        · rw [c2]; exact f5
        · rw [f6 s (by omega), if_neg (fun h => ?_)]
          · exact hso s (by omega)
          · have hm9 := fb_meet (C.2.1 s (by omega)).1.2 (show 2 ^ i < 2 ^ 24 from Nat.pow_lt_pow_right (by decide) (by omega))
            rw [← (C.2.1 s (by omega)).1.1] at hm9
            obtain ⟨v, g1, g2⟩ := hm9.mp h.2
            have g3 := C.1.1.2.1 s (by omega) v g1
            rw [(hbit v).mp g2] at g3
            exact absurd g3.1 (by omega)
