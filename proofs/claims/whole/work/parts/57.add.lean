/-! The class's sets so far are a run, and addSet makes it grow. -/
def c_W (sm : Nat → Int32) : Nat → Nat := fun s => tq_x (sm s)
def c_V (sa : Nat → Int32) (dw dp : Nat → Int64) : Nat → Nat × Int64 × Int := fun s => (tq_x (sa s), dw s, (dp s).toInt)
def c_par (W : Nat → Nat) (k : Nat) (so : Nat → Int32) (s : Nat) : Prop := (so s = -1 ∧ fm_live (gm W) k s) ∨ ∃ u, so s = nI u ∧ s < u ∧ u < k ∧ fm_sub (gm W s) (gm W u) ∧ ∀ t, s < t → t < u → fm_dis (gm W s) (gm W t)
/-- what holds of the class's rows when k sets are made -/
def ci (N : Nat → Prop) (ak : Nat) (fr to : Nat → Int32) (wt : Nat → Int64) (op : Nat → Int32) (k : Nat) (sm sa so : Nat → Int32) (dw dp : Nat → Int64) (hm : Nat → Int32) (hw hp : Nat → Int64) : Prop :=
  gr N (fun j => tq_x (fr j)) (fun j => tq_x (to j)) (fun j => ¬ op j = 0) wt ak k (c_W sm) (c_V sa dw dp) ∧ (∀ s, s < k → tq_r (2 ^ 24) (sm s) ∧ tq_r ak (sa s)) ∧
  (∀ v, v < 24 → hw v = gr_hw (c_W sm) (c_V sa dw dp) k v ∧ (hp v).toInt = gr_h (c_W sm) (c_V sa dw dp) k v) ∧
  (∀ v, v < 24 → (N v → ∃ h, hm v = nI h ∧ fm_live (gm (c_W sm)) k h ∧ gm (c_W sm) h v) ∧ (¬ N v → hm v = -1)) ∧ ∀ s, s < k → c_par (c_W sm) k so s
theorem k_parts {ck : Nat} {sm so : Nat → Int32} {p0 p1 : Int32} (s : Nat) : f_X0_takeInParts ck sm so p0 p1 s = if s < ck ∧ so s = -1 ∧ ¬ (sm s &&& p0) = 0 then p1 else so s := by
  have h1 : ∀ i, i ≤ ck → ∀ s, t_X0_takeInParts_2 sm p0 p1 so i s = if s < i ∧ so s = -1 ∧ ¬ (sm s &&& p0) = 0 then p1 else so s := by
    unfold t_X0_takeInParts_2
    refine tq_it_inv (N := ck) (fun i (x : Nat → Int32) => ∀ s, x s = if s < i ∧ so s = -1 ∧ ¬ (sm s &&& p0) = 0 then p1 else so s) (fun s => by rw [if_neg (fun h => absurd h.1 (by omega))]) (fun i x hi h s => ?_)
    have hi0 : x i = so i := by rw [h i, if_neg (fun h => absurd h.1 (by omega))]
    have hs : ¬ s = i → (if s < i + 1 ∧ so s = -1 ∧ ¬ (sm s &&& p0) = 0 then p1 else so s) = x s := fun hn => by
      rw [h s]
      by_cases c1 : s < i ∧ so s = -1 ∧ ¬ (sm s &&& p0) = 0
      · rw [if_pos c1, if_pos ⟨by omega, c1.2⟩]
      · rw [if_neg c1, if_neg (fun h => c1 ⟨by omega, h.2⟩)]
    show b_X0_takeInParts_2 sm p0 p1 i x s = _
    unfold b_X0_takeInParts_2
    by_cases c0 : s = i
    · subst c0
      rw [hi0]
      by_cases c1 : so s = -1
      · rw [if_pos c1]
        by_cases c2 : (sm s &&& p0) = 0
        · rw [if_pos c2, if_neg (fun h => h.2.2 c2), hi0]
        · rw [if_neg c2, if_pos ⟨by omega, c1, c2⟩]
          show (if s = s then p1 else x s) = p1
          rw [if_pos rfl]
      · rw [if_neg c1, if_neg (fun h => c1 h.2.1), hi0]
    · rw [hs c0]
      split
      · split
        · rfl
        · show (if s = i then p1 else x s) = x s
          rw [if_neg c0]
      · rfl
  exact h1 ck (Nat.le_refl _) s
theorem k_dual {nk : Nat} {sm : Nat → Int32} {dw dp : Nat → Int64} {hm : Nat → Int32} {hw hp : Nat → Int64} {k w : Nat} (hnk : nk ≤ 24) (hw24 : w < 2 ^ 24) (hsm : sm k = nI w) (v : Nat) :
    (f_X0_addDualToNodes nk sm dw dp hm hw hp k).1 v = (if v < nk ∧ w.testBit v = true then nI k else hm v) ∧ (f_X0_addDualToNodes nk sm dw dp hm hw hp k).2.1 v = (if v < nk ∧ w.testBit v = true then hw v + dw k else hw v) ∧ (f_X0_addDualToNodes nk sm dw dp hm hw hp k).2.2 v = (if v < nk ∧ w.testBit v = true then hp v + dp k else hp v) := by
  have h1 : ∀ i, i ≤ nk → ∀ v, (t_X0_addDualToNodes_2 sm dw dp k (hm, hw, hp) i).1 v = (if v < i ∧ w.testBit v = true then nI k else hm v) ∧ (t_X0_addDualToNodes_2 sm dw dp k (hm, hw, hp) i).2.1 v = (if v < i ∧ w.testBit v = true then hw v + dw k else hw v) ∧ (t_X0_addDualToNodes_2 sm dw dp k (hm, hw, hp) i).2.2 v = (if v < i ∧ w.testBit v = true then hp v + dp k else hp v) := by
    unfold t_X0_addDualToNodes_2
    refine tq_it_inv (N := nk) (fun i (x : (Nat → Int32) × (Nat → Int64) × (Nat → Int64)) => ∀ v, x.1 v = (if v < i ∧ w.testBit v = true then nI k else hm v) ∧ x.2.1 v = (if v < i ∧ w.testBit v = true then hw v + dw k else hw v) ∧ x.2.2 v = (if v < i ∧ w.testBit v = true then hp v + dp k else hp v)) (fun v => by
      rw [if_neg (fun h => absurd h.1 (by omega)), if_neg (fun h => absurd h.1 (by omega)), if_neg (fun h => absurd h.1 (by omega))]; exact ⟨rfl, rfl, rfl⟩) (fun i x hi h v => ?_)
    obtain ⟨xm, xw, xp⟩ := x
    have h : ∀ v, xm v = (if v < i ∧ w.testBit v = true then nI k else hm v) ∧ xw v = (if v < i ∧ w.testBit v = true then hw v + dw k else hw v) ∧ xp v = (if v < i ∧ w.testBit v = true then hp v + dp k else hp v) := h
    have hv := h v
    have hi0 := h i
    rw [if_neg (fun h => absurd h.1 (by omega)), if_neg (fun h => absurd h.1 (by omega)), if_neg (fun h => absurd h.1 (by omega))] at hi0
    have hhold := fb_holds0 (w := w) (v := nI i) hw24 (tq_r_nI (by omega) (by decide))
    rw [tq_x_nI (by omega)] at hhold
    show (b_X0_addDualToNodes_2 sm dw dp k i xm xw xp).1 v = _ ∧ (b_X0_addDualToNodes_2 sm dw dp k i xm xw xp).2.1 v = _ ∧ (b_X0_addDualToNodes_2 sm dw dp k i xm xw xp).2.2 v = _
    unfold b_X0_addDualToNodes_2
    rw [hsm]
    by_cases c0 : v = i
    · subst c0
      rcases hb : w.testBit v with _ | _
      · rw [if_pos (hhold.mpr hb)]
        have hn : ¬ (v < v + 1 ∧ false = true) := fun h => Bool.false_ne_true h.2
        rw [if_neg hn, if_neg hn, if_neg hn]
        exact hi0
      · rw [if_neg (fun h => by rw [hhold, hb] at h; exact Bool.false_ne_true h.symm)]
        have hp9 : v < v + 1 ∧ true = true := ⟨by omega, rfl⟩
        rw [if_pos hp9, if_pos hp9, if_pos hp9]
        refine ⟨?_, ?_, ?_⟩
        · show (if v = v then nI k else xm v) = nI k
          rw [if_pos rfl]
        · show (if v = v then xw v + dw k else xw v) = _
          rw [if_pos rfl, hi0.2.1]
        · show (if v = v then xp v + dp k else xp v) = _
          rw [if_pos rfl, hi0.2.2]
    · have hiff : (v < i + 1 ∧ w.testBit v = true) ↔ (v < i ∧ w.testBit v = true) := ⟨fun h => ⟨by omega, h.2⟩, fun h => ⟨by omega, h.2⟩⟩
      simp only [hiff]
      split
      · exact hv
      · refine ⟨?_, ?_, ?_⟩
        · show (if v = i then nI k else xm v) = _
          rw [if_neg c0]; exact hv.1
        · show (if v = i then xw i + dw k else xw v) = _
          rw [if_neg c0]; exact hv.2.1
        · show (if v = i then xp i + dp k else xp v) = _
          rw [if_neg c0]; exact hv.2.2
  exact h1 nk (Nat.le_refl _) v
theorem fb_meet {a w : Nat} (ha : a < 2 ^ 24) (hw : w < 2 ^ 24) : ¬ (nI a &&& nI w) = 0 ↔ ∃ v, a.testBit v = true ∧ w.testBit v = true := by
  have h3 : a &&& w < 2 ^ 24 := Nat.and_lt_two_pow _ hw
  rw [tb_and (by omega) (by omega), show (0 : Int32) = nI 0 from rfl, nI_eq (by omega) (by decide)]
  constructor
  · intro h
    refine Classical.byContradiction fun hno => h ?_
    apply Nat.eq_of_testBit_eq
    intro v
    rw [Nat.testBit_and, Nat.zero_testBit]
    rcases h1 : a.testBit v with _ | _
    · rfl
    · rcases h2 : w.testBit v with _ | _
      · rfl
      · exact absurd ⟨v, h1, h2⟩ hno
  · rintro ⟨v, h1, h2⟩ h
    have h4 : (a &&& w).testBit v = true := by rw [Nat.testBit_and, h1, h2]; rfl
    rw [h, Nat.zero_testBit] at h4
    exact Bool.false_ne_true h4
