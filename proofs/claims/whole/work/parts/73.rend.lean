/-- where joinRing finds no ring, there is none -/
theorem r_end {nk ak r md : Nat} {fr to : Nat → Int32} {wt : Nat → Int64} {op mm ma mv ml : Nat → Int32} {du dh dl : Nat → Int64} (hnk : nk ≤ 24) (hak : ak ≤ 60) (hfr : ∀ j, j < 60 → tq_r 24 (fr j)) (hfr2 : ∀ j, j < ak → tq_x (fr j) < nk) (C : ri (c_N nk r) ak fr to wt op md mm ma mv ml du dh dl) (hmd : md ≤ 48) (hfl : (t_X4_joinRing_2 md fr mm ma ml 0 md).1 = false) :
    fm_end md (gm (c_W mm)) (fun t => tq_x (fr (tq_x (ma t)))) := by
  rintro ⟨b, hb, hbn⟩
  obtain ⟨i, j, hij, hj, e0⟩ : ∃ i j, i < j ∧ j < 49 ∧ b i = b j := by
    refine Classical.byContradiction fun hno => ?_
    have h1 := fs_inj (n := 49) (m := md) (g := b) (fun t _ => (hb t).1) (fun t ht u hu e1 => by
      rcases Nat.lt_trichotomy t u with q | q | q
      · exact absurd ⟨t, u, q, hu, e1⟩ hno
      · exact q
      · exact absurd ⟨u, t, q, ht, e1.symm⟩ hno)
    omega
  have hs := (hb i).1
  obtain ⟨m, c, ⟨c0, c1, c2, c3⟩, e1, h1, h2⟩ := r_trace hnk hak hfr hfr2 C hmd (hb i) 48
  have hcb : ∀ t, t ≤ m → c t = b (i + t) := by
    intro t
    induction t with
    | zero => intro _; exact c0
    | succ t ih =>
      intro ht
      have h3 := c2 t (by omega)
      rw [ih (by omega)] at h3
      exact fm_live_eq (c1 (t + 1) ht) (hb (i + t + 1)) h3 (hbn (i + t))
  have hm : m < j - i := by
    rcases Nat.lt_or_ge m (j - i) with q | q
    · exact q
    · have h3 := hcb (j - i) q
      rw [show i + (j - i) = j by omega, ← e0] at h3
      exact absurd h3 (c3 (j - i) (by omega) q)
  have hfin : f_X4_before md fr mm ma ml (c m) = nI (b i) := by
    have hflag : (t_X4_joinRing_35 md fr mm ma ml (b i) (mm (b i), f_X4_before md fr mm ma ml (b i)) 48).1 = true := by
      rcases hq : (t_X4_joinRing_35 md fr mm ma ml (b i) (mm (b i), f_X4_before md fr mm ma ml (b i)) 48).1 with _ | _
      · have h3 := h1 hq; omega
      · rfl
    rcases h2 hflag with h3 | h3
    · exfalso
      rcases r_before hnk hak hfr hfr2 C hmd (c1 m (Nat.le_refl _)).1 with ⟨-, g2⟩ | ⟨h, g1, g2, -⟩
      · have h4 := hbn (i + m)
        have h5 : gm (c_W mm) (b (i + m + 1)) (tq_x (fr (tq_x (ma (b (i + m)))))) := h4
        rw [← hcb m (Nat.le_refl _), g2] at h5
        exact (C.1.1.2.1 _ (hb (i + m + 1)).1 r h5).2 rfl
      · rw [g1] at h3
        exact nI_pos (by have := g2.1; omega) h3
    · exact h3
  have ep : (t_X4_joinRing_35 md fr mm ma ml (b i) (mm (b i), f_X4_before md fr mm ma ml (b i)) 48).2.2 = f_X4_before md fr mm ma ml (c m) := congrArg Prod.snd e1
  exact (k_search md).2 hfl (b i) hs ((r_live C hs).1.mpr (hb i)) (ep.trans hfin)
