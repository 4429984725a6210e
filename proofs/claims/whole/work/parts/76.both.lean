/-! The class's sets and the reference's are the same. -/
theorem cr_same {N : Nat → Prop} {ak ck md : Nat} {fr to : Nat → Int32} {wt : Nat → Int64} {op sm sa so : Nat → Int32} {dw dp : Nat → Int64} {hm : Nat → Int32} {hw hp : Nat → Int64} {mm ma mv ml : Nat → Int32} {du dh dl : Nat → Int64} (C : ci N ak fr to wt op ck sm sa so dw dp hm hw hp) (R : ri N ak fr to wt op md mm ma mv ml du dh dl)
    (E : fm_end ck (gm (c_W sm)) (fun t => tq_x (fr (tq_x (sa t))))) (E' : fm_end md (gm (c_W mm)) (fun t => tq_x (fr (tq_x (ma t))))) :
    (∀ s, s < ck → ∃ s', s' < md ∧ sm s = mm s' ∧ sa s = ma s' ∧ dw s = du s') ∧ ∀ s', s' < md → ∃ s, s < ck ∧ sm s = mm s' ∧ sa s = ma s' ∧ dw s = du s' := by
  have fin : ∀ s s', s < ck → s' < md → c_W sm s = c_W mm s' → c_V sa dw dp s = r_V ma du dh dl s' → sm s = mm s' ∧ sa s = ma s' ∧ dw s = du s' := fun s s' hs hs' e1 e2 => by
    have e3 : tq_x (sa s) = tq_x (ma s') := congrArg Prod.fst e2
    have e4 : dw s = du s' := congrArg (fun x => x.2.1) e2
    have e5 : tq_x (sm s) = tq_x (mm s') := e1
    refine ⟨?_, ?_, e4⟩
    · rw [(C.2.1 s hs).1.1, (R.2.1 s' hs').1.1, e5]
    · rw [(C.2.1 s hs).2.1, (R.2.1 s' hs').2.1.1, e3]
  refine ⟨fun s hs => ?_, fun s' hs' => ?_⟩
  · obtain ⟨s', h1, h2, h3⟩ := gr_same C.1 R.1 E' s hs
    exact ⟨s', h1, fin s s' hs h1 h2 h3⟩
  · obtain ⟨s, h1, h2, h3⟩ := gr_same R.1 C.1 E s' hs'
    exact ⟨s, h1, fin s s' h1 hs' h2.symm h3.symm⟩
theorem cr_size {N : Nat → Prop} {ak ck md : Nat} {fr to : Nat → Int32} {wt : Nat → Int64} {op sm sa so : Nat → Int32} {dw dp : Nat → Int64} {hm : Nat → Int32} {hw hp : Nat → Int64} {mm ma mv ml : Nat → Int32} {du dh dl : Nat → Int64} (C : ci N ak fr to wt op ck sm sa so dw dp hm hw hp) (R : ri N ak fr to wt op md mm ma mv ml du dh dl)
    (E : fm_end ck (gm (c_W sm)) (fun t => tq_x (fr (tq_x (sa t))))) (E' : fm_end md (gm (c_W mm)) (fun t => tq_x (fr (tq_x (ma t))))) :
    ck = md ∧ ∃ π : Nat → Nat, (∀ s, s < ck → π s < md ∧ sm s = mm (π s) ∧ sa s = ma (π s) ∧ dw s = du (π s)) ∧ (∀ s, s < ck → ∀ t, t < ck → π s = π t → s = t) ∧ ∀ s', s' < md → ∃ s, s < ck ∧ π s = s' := by
  obtain ⟨h1, h2⟩ := cr_same C R E E'
  have hc : ∀ s, ∃ s', s < ck → s' < md ∧ sm s = mm s' ∧ sa s = ma s' ∧ dw s = du s' := fun s => by
    by_cases q : s < ck
    · obtain ⟨s', h⟩ := h1 s q
      exact ⟨s', fun _ => h⟩
    · exact ⟨0, fun h => absurd h q⟩
  obtain ⟨π, hπ⟩ : ∃ π : Nat → Nat, ∀ s, s < ck → π s < md ∧ sm s = mm (π s) ∧ sa s = ma (π s) ∧ dw s = du (π s) := ⟨fun s => Classical.choose (hc s), fun s => Classical.choose_spec (hc s)⟩
  have hd : ∀ s', ∃ s, s' < md → s < ck ∧ sm s = mm s' := fun s' => by
    by_cases q : s' < md
    · obtain ⟨s, h3, h4, -⟩ := h2 s' q
      exact ⟨s, fun _ => ⟨h3, h4⟩⟩
    · exact ⟨0, fun h => absurd h q⟩
  obtain ⟨ρ, hρ⟩ : ∃ ρ : Nat → Nat, ∀ s', s' < md → ρ s' < ck ∧ sm (ρ s') = mm s' := ⟨fun s => Classical.choose (hd s), fun s => Classical.choose_spec (hd s)⟩
  have injS : ∀ s, s < ck → ∀ t, t < ck → sm s = sm t → s = t := fun s hs t ht e1 => fm_inj C.1.1 hs ht (fun v => by unfold gm c_W; rw [e1])
  have injM : ∀ s, s < md → ∀ t, t < md → mm s = mm t → s = t := fun s hs t ht e1 => fm_inj R.1.1 hs ht (fun v => by unfold gm c_W; rw [e1])
  have pinj : ∀ s, s < ck → ∀ t, t < ck → π s = π t → s = t := fun s hs t ht e1 => injS s hs t ht (by rw [(hπ s hs).2.1, (hπ t ht).2.1, e1])
  have rinj : ∀ s, s < md → ∀ t, t < md → ρ s = ρ t → s = t := fun s hs t ht e1 => injM s hs t ht (by rw [← (hρ s hs).2, ← (hρ t ht).2, e1])
  have k1 := fs_inj (n := ck) (m := md) (g := π) (fun s hs => (hπ s hs).1) pinj
  have k2 := fs_inj (n := md) (m := ck) (g := ρ) (fun s hs => (hρ s hs).1) rinj
  refine ⟨by omega, π, hπ, pinj, fun s' hs' => ⟨ρ s', (hρ s' hs').1, injM _ (hπ _ (hρ s' hs').1).1 s' hs' ?_⟩⟩
  rw [← (hπ _ (hρ s' hs').1).2.1, (hρ s' hs').2]
