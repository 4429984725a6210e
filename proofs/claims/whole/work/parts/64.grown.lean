/-- the class's nest, grown: a run over all nodes but the root that ends without a ring -/
theorem c_grown {nk ak r : Nat} {fr to : Nat → Int32} {wt : Nat → Int64} {op sm sa so : Nat → Int32} {dw dp : Nat → Int64} {wk hm : Nat → Int32} {hw hp : Nat → Int64} {nu by_ : Nat → Int32} (hnk : nk ≤ 24) (hr : r < nk) (hak : ak ≤ 60) (hfr : ∀ j, j < 60 → tq_r 24 (fr j)) (hto : ∀ j, j < 60 → tq_r 24 (to j)) (hfr2 : ∀ j, j < ak → tq_x (fr j) < nk)
    (hR : ∀ v, v < nk → fb_R (fun j => tq_x (fr j)) (fun j => tq_x (to j)) (fun j => ¬ op j = 0) ak r v) :
    ∃ (ck : Nat) (sm' sa' so' : Nat → Int32) (dw' dp' : Nat → Int64) (wk' hm' : Nat → Int32) (hw' hp' : Nat → Int64), f_X0_grow nk (nI r) ak fr to wt op sm sa so dw dp wk hm hw hp nu by_ = (ck, sm', sa', so', dw', dp', wk', hm', hw', hp', (f_X0_numberSets ck sm' nu by_).1, (f_X0_numberSets ck sm' nu by_).2) ∧
      ci (c_N nk r) ak fr to wt op ck sm' sa' so' dw' dp' hm' hw' hp' ∧ ck ≤ 45 ∧ fm_end ck (gm (c_W sm')) (fun t => tq_x (fr (tq_x (sa' t)))) := by
  obtain ⟨ck0, sm0, sa0, so0, dw0, dp0, wk0, hm0, hw0, hp0, e0, C0, hck0, hwk0, hso0⟩ := c_singles (sm := sm) (sa := sa) (so := so) (dw := dw) (dp := dp) (wk := wk) (hm := f_J7_fill_53178 hm 24 (-1)) (hw := f_J7_fill_d0a16 hw 24 0) (hp := f_J7_fill_d0a16 hp 24 0) (wt := wt) hnk hr hak hfr hto hR k_fillI k_fillJ k_fillJ nk (Nat.le_refl _)
  rw [if_pos hr] at hck0
  have hl0 : c_live ck0 so0 = ck0 := fc_all ck0 (fun s hs => decide_eq_true (hso0 s hs))
  have hno : ∀ t, ¬ c_mk 0 wk0 t := fun t ⟨q, hq, _⟩ => absurd hq (by omega)
  have W0 : w_all nk ak r 0 fr to wt op ck0 sm0 sa0 so0 dw0 dp0 wk0 hm0 hw0 hp0 := ⟨C0, by omega, by rw [hl0]; omega, by omega, fun t ht => Or.inl (hwk0 t ht), ⟨fun t _ h => absurd h (hno t), fun ⟨b, hb, _⟩ => hno _ (hb 0).2⟩, fun u hu => absurd hu (by omega)⟩
  have key : ∀ v, v ≤ nk → ∃ (ck : Nat) (sm' sa' so' : Nat → Int32) (dw' dp' : Nat → Int64) (wk' hm' : Nat → Int32) (hw' hp' : Nat → Int64), t_X0_grow_69 nk ak fr to wt op (ck0, sm0, sa0, so0, dw0, dp0, wk0, hm0, hw0, hp0) v = (ck, sm', sa', so', dw', dp', wk', hm', hw', hp') ∧ w_all nk ak r v fr to wt op ck sm' sa' so' dw' dp' wk' hm' hw' hp' := by
    intro v
    induction v with
    | zero => intro _; exact ⟨_, _, _, _, _, _, _, _, _, _, rfl, W0⟩
    | succ v ih =>
      intro hv
      obtain ⟨ck, sm', sa', so', dw', dp', wk', hm', hw', hp', e1, I⟩ := ih (by omega)
      have e2 : t_X0_grow_69 nk ak fr to wt op (ck0, sm0, sa0, so0, dw0, dp0, wk0, hm0, hw0, hp0) (v + 1) = b_X0_grow_69 nk ak fr to wt op v ck sm' sa' so' dw' dp' wk' hm' hw' hp' := by
        unfold t_X0_grow_69 at e1 ⊢
        rw [tq_it_succ, e1]
      obtain ⟨ck2, sm2, sa2, so2, dw2, dp2, wk2, hm2, hw2, hp2, f1, f2⟩ := w_walk hnk hr hak hfr hto hfr2 hR (by omega) I
      refine ⟨ck2, sm2, sa2, so2, dw2, dp2, wk2, hm2, hw2, hp2, ?_, f2⟩
      rw [e2]
      unfold b_X0_grow_69
      rw [f1]
  obtain ⟨ck, sm', sa', so', dw', dp', wk', hm', hw', hp', e1, I⟩ := key nk (Nat.le_refl _)
  refine ⟨ck, sm', sa', so', dw', dp', wk', hm', hw', hp', ?_, I.1, I.2.1, fun ⟨b, hb, hbn⟩ => ?_⟩
  · unfold f_X0_grow
    rw [e0]
    dsimp only
    rw [e1]
  · refine I.2.2.2.2.2.1.2 ⟨b, fun i => ⟨hb i, ?_⟩, hbn⟩
    obtain ⟨u, hu⟩ := I.1.1.1.1 (b i) (hb i).1
    have h1 := I.1.1.1.2.1 (b i) (hb i).1 u hu
    exact I.2.2.2.2.2.2 u h1.1 h1.2 (b i) (hb i) hu
