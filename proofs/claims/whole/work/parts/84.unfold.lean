/-- the class's tree: the arc into a node is the one by which its own set is entered -/
theorem c_unfold {nk r ak ck : Nat} {fr to : Nat → Int32} {wt : Nat → Int64} {op sm sa so : Nat → Int32} {dw dp : Nat → Int64} {hm : Nat → Int32} {hw hp : Nat → Int64} {ri0 : Nat → Int32} {e : Nat → Nat} (hnk : nk ≤ 24) (hak : ak ≤ 60) (hto : ∀ j, j < 60 → tq_r 24 (to j)) (C : ci (c_N nk r) ak fr to wt op ck sm sa so dw dp hm hw hp) (hck : ck ≤ 45)
    (hE : en_e ck (gm (c_W sm)) (fun j => tq_x (to j)) (fun s => tq_x (sa s)) e) (he : ∀ s, s < ck → e s < ak) :
    (∀ v s, s < ck → (∀ w, gm (c_W sm) s w ↔ w = v) → f_X2_unfold ck to sm sa ri0 v = nI (e s)) ∧ (∀ v, v < 24 → ¬ c_N nk r v → f_X2_unfold ck to sm sa ri0 v = -1) ∧ ∀ v, v < 24 → f_X2_unfold ck to sm sa ri0 v = -1 ∨ tq_r 60 (f_X2_unfold ck to sm sa ri0 v) := by
  have hN : ∀ v, c_N nk r v → v < 24 := fun v hv => Nat.lt_of_lt_of_le hv.1 hnk
  have hWs : ∀ s, s < ck → sm s = nI (c_W sm s) ∧ c_W sm s < 2 ^ 24 := fun s hs => ⟨(C.2.1 s hs).1.1, (C.2.1 s hs).1.2⟩
  have hT : ∀ s, s < ck → tq_x (to (e s)) < 24 := fun s hs => (hto _ (Nat.lt_of_lt_of_le (he s hs) hak)).2
  have P : ∀ s, s < ck → fm_live (gm (c_W sm)) ck s ∨ ∃ p, s < p ∧ fm_around ck (gm (c_W sm)) s p := fun s hs => by
    rcases C.2.2.2.2 s hs with ⟨-, c2⟩ | ⟨u, c1, c2, c3, c4, c5⟩
    · exact Or.inl c2
    · exact Or.inr ⟨u, c2, fm_around_of C.1.1 c2 c3 c4 c5⟩
  have hdown := en_down C.1.1 P hE
  obtain ⟨f0, hf0⟩ : ∃ f0, f_J7_fill_53178 ri0 24 (-1) = f0 := ⟨_, rfl⟩
  have hfill : ∀ v, v < 24 → f0 v = -1 := fun v hv => by rw [← hf0]; exact k_fillI v hv
  have key : ∀ i, i ≤ ck → ∃ (yr : Nat → Int32) (w : Nat), t_X2_unfold_20 ck to sm sa (f0, 0) i = (yr, nI w) ∧ w < 2 ^ 24 ∧ (∀ v, w.testBit v = true ↔ ∃ s, ck ≤ s + i ∧ s < ck ∧ tq_x (to (e s)) = v) ∧ (∀ s, ck ≤ s + i → s < ck → yr (tq_x (to (e s))) = nI (e s)) ∧ ∀ v, v < 24 → ¬ w.testBit v = true → yr v = -1 := by
    intro i
    induction i with
    | zero =>
      intro _
      refine ⟨f0, 0, rfl, by decide, fun v => ⟨fun h => ?_, fun h => ?_⟩, fun s h1 h2 => absurd h1 (by omega), fun v hv _ => hfill v hv⟩
      · rw [Nat.zero_testBit] at h; exact absurd h (by decide)
      · obtain ⟨s, h1, h2, -⟩ := h; omega
    | succ i ih =>
      intro hi
      obtain ⟨yr, w, e1, hw24, h1, h2, h3⟩ := ih (by omega)
      obtain ⟨s, hs⟩ : ∃ s, ck - i - 1 = s := ⟨_, rfl⟩
      have hs1 : s < ck := by omega
      have e2 : t_X2_unfold_20 ck to sm sa (f0, 0) (i + 1) = b_X2_unfold_20 ck to sm sa i yr (nI w) := by
        unfold t_X2_unfold_20 at e1 ⊢
        rw [tq_it_succ, e1]
      have hsa := (C.2.1 s hs1).2
      have hta : tq_r 24 (to (tq_x (sa s))) := hto _ (Nat.lt_of_lt_of_le hsa.2 hak)
      rw [e2]
      unfold b_X2_unfold_20
      rw [hs, if_neg (tq_r_ne hsa (by omega))]
      have hmeet := fb_meet (hWs s hs1).2 hw24
      rw [← (hWs s hs1).1] at hmeet
      by_cases c : (sm s &&& nI w) = 0
      · rw [if_pos c]
        have hno : ∀ v, gm (c_W sm) s v → ¬ w.testBit v = true := fun v hv hx => (hmeet.mpr ⟨v, hv, hx⟩) c
        have hes : e s = tq_x (sa s) := by
          rcases P s hs1 with hl | ⟨p, hp, ha⟩
          · exact (hE s hs1).2.1 hl
          · exact ((hE s hs1).2.2 p ha).2 (fun hm => hno _ hm ((h1 _).mpr ⟨p, by omega, ha.1, rfl⟩))
        have hnt : ¬ w.testBit (tq_x (to (e s))) = true := hno _ (hE s hs1).1
        refine ⟨upd yr (tq_x (to (tq_x (sa s)))) (sa s), w ||| 2 ^ tq_x (to (tq_x (sa s))), by rw [fb_or (n := 0) hw24 hta], Nat.or_lt_two_pow hw24 (Nat.pow_lt_pow_right (by decide) hta.2), fun v => ?_, fun u hu1 hu2 => ?_, fun v hv hx => ?_⟩
        · rw [fb_tb, h1 v]
          refine ⟨fun h => ?_, fun h => ?_⟩
          · rcases h with ⟨u, g1, g2, g3⟩ | h
            · exact ⟨u, by omega, g2, g3⟩
            · exact ⟨s, by omega, hs1, by rw [hes, h]⟩
          · obtain ⟨u, g1, g2, g3⟩ := h
            by_cases d : u = s
            · subst d; right; rw [← g3, hes]
            · left; exact ⟨u, by omega, g2, g3⟩
        · rw [← hes]
          by_cases d : u = s
          · subst d; rw [upd_eq, hes]; exact hsa.1
          · rw [upd_ne (fun h => hnt (by rw [← h]; exact (h1 _).mpr ⟨u, by omega, hu2, rfl⟩))]
            exact h2 u (by omega) hu2
        · rw [fb_tb] at hx
          rw [upd_ne (fun h => hx (Or.inr h))]
          exact h3 v hv (fun h => hx (Or.inl h))
      · rw [if_neg c]
        obtain ⟨v0, hv1, hv2⟩ := hmeet.mp c
        obtain ⟨u, g1, g2, g3⟩ := (h1 v0).mp hv2
        have hsub := fm_abs C.1.1 u s v0 (by omega) g2 hv1 (by rw [← g3]; exact (hE u g2).1)
        have hes : e s = e u := hdown (ck - s) s u (by omega) hs1 g2 hsub (by show gm (c_W sm) s (tq_x (to (e u))); rw [g3]; exact hv1)
        refine ⟨yr, w, rfl, hw24, fun v => ?_, fun t ht1 ht2 => ?_, h3⟩
        · rw [h1 v]
          refine ⟨fun h => ?_, fun h => ?_⟩
          · obtain ⟨t, k1, k2, k3⟩ := h; exact ⟨t, by omega, k2, k3⟩
          · obtain ⟨t, k1, k2, k3⟩ := h
            by_cases d : t = s
            · subst d; exact ⟨u, g1, g2, by rw [← hes]; exact k3⟩
            · exact ⟨t, by omega, k2, k3⟩
        · by_cases d : t = s
          · subst d; rw [hes]; exact h2 u g1 g2
          · exact h2 t (by omega) ht2
  obtain ⟨yr, w, e1, hw24, h1, h2, h3⟩ := key ck (Nat.le_refl _)
  have ef : f_X2_unfold ck to sm sa ri0 = yr := by
    unfold f_X2_unfold
    rw [hf0, e1]
  rw [ef]
  have hNT : ∀ s, s < ck → c_N nk r (tq_x (to (e s))) := fun s hs => C.1.1.2.1 s hs _ (hE s hs).1
  refine ⟨fun v s hs hv => ?_, fun v hv hn => ?_, fun v hv => ?_⟩
  · have e3 : tq_x (to (e s)) = v := (hv _).mp (hE s hs).1
    rw [← e3]; exact h2 s (by omega) hs
  · refine h3 v hv (fun h => hn ?_)
    obtain ⟨s, g1, g2, g3⟩ := (h1 v).mp h
    rw [← g3]; exact hNT s g2
  · by_cases c : w.testBit v = true
    · obtain ⟨s, g1, g2, g3⟩ := (h1 v).mp c
      right
      rw [← g3, h2 s g1 g2]
      exact tq_r_nI (Nat.lt_of_lt_of_le (he s g2) hak) (by decide)
    · left; exact h3 v hv c
