/-! A run grows by a set. -/
theorem fm_live_congr {M M' : Nat → Nat → Prop} {t s : Nat} (h : ∀ s, s < t → ∀ v, M s v ↔ M' s v) (hl : fm_live M t s) : fm_live M' t s :=
  ⟨hl.1, fun u h1 h2 v h3 h4 => hl.2 u h1 h2 v ((h s hl.1 v).mpr h3) ((h u h2 v).mpr h4)⟩
theorem fm_each_congr {M M' : Nat → Nat → Prop} {F F' : Nat → Nat} {u : Nat} (h : ∀ s, s ≤ u → ∀ v, M s v ↔ M' s v) (hF : ∀ s, s < u → F s = F' s) (he : fm_one M u ∨ ∃ b, fm_ring M F u b) : fm_one M' u ∨ ∃ b, fm_ring M' F' u b := by
  rcases he with ⟨⟨v, hv⟩, hd⟩ | ⟨b, hl, hn, hp, hm⟩
  · exact Or.inl ⟨⟨v, fun w => by rw [← h u (Nat.le_refl _) w]; exact hv w⟩, fun s hs w h1 h2 => hd s hs w ((h s (by omega) w).mpr h1) ((h u (Nat.le_refl _) w).mpr h2)⟩
  · refine Or.inr ⟨b, fun i => fm_live_congr (fun s hs => h s (by omega)) (hl i), fun i => ?_, hp, fun v => ?_⟩
    · rw [← hF _ (hl i).1]
      exact (h _ (by have := (hl (i + 1)).1; omega) _).mp (hn i)
    · rw [← h u (Nat.le_refl _) v, hm v]
      exact ⟨fun ⟨i, hi⟩ => ⟨i, (h _ (by have := (hl i).1; omega) _).mp hi⟩, fun ⟨i, hi⟩ => ⟨i, (h _ (by have := (hl i).1; omega) _).mpr hi⟩⟩
/-- what a new set may be: a node that no set holds, or a ring of live sets -/
def gr_adm (F : Nat → Nat) (k : Nat) (W : Nat → Nat) (val : Nat → Nat × Int64 × Int) (w : Nat) : Prop :=
  (∃ v, w = 2 ^ v ∧ ∀ s, s < k → ¬ gm W s v) ∨ ∃ b : Nat → Nat, (∀ i, fm_live (gm W) k (b i)) ∧ (∀ i, gm W (b (i + 1)) (F (val (b i)).1)) ∧ (∃ j, 0 < j ∧ ∀ i, b (i + j) = b i) ∧ ∀ v, w.testBit v = true ↔ ∃ i, gm W (b i) v
/-- the sums over the sets that hold v -/
theorem gr_meet {N : Nat → Prop} {F T : Nat → Nat} {o : Nat → Prop} {wt : Nat → Int64} {ak k : Nat} {W : Nat → Nat} {val : Nat → Nat × Int64 × Int} (G : gr N F T o wt ak k W val) {w : Nat} (hw : gr_adm F k W val w) {t v : Nat} (ht : t < k) (h1 : gm W t v) (h2 : w.testBit v = true) : ∀ x, gm W t x → w.testBit x = true := by
  rcases hw with ⟨u, rfl, hd⟩ | ⟨b, hl, hn, hp, hm⟩
  · rw [Nat.testBit_two_pow, decide_eq_true_eq] at h2
    subst h2
    exact absurd h1 (hd t ht)
  · obtain ⟨i, hi⟩ := (hm v).mp h2
    intro x hx
    refine (hm x).mpr ⟨i, ?_⟩
    rcases Nat.lt_trichotomy t (b i) with q | q | q
    · exact fm_abs G.1 (b i) t v q (by have := (hl i).1; omega) h1 hi x hx
    · rw [← q]; exact hx
    · exact absurd h1 (fun h1 => (hl i).2 t q ht v hi h1)
theorem gr_ext {N N' : Nat → Prop} {F T : Nat → Nat} {o : Nat → Prop} {wt : Nat → Int64} {ak k : Nat} {W W' : Nat → Nat} {val val' : Nat → Nat × Int64 × Int} (G : gr N F T o wt ak k W val) (hW : ∀ s, s < k → W' s = W s) (hV : ∀ s, s < k → val' s = val s)
    (hnew : gr_adm F k W val (W' k)) (hN : ∀ v, N v → N' v) (hin : ∀ v, (W' k).testBit v = true → N' v) (hsg : ∀ v, N' v → N v ∨ ∀ x, (W' k).testBit x = true ↔ x = v)
    (hmin : fk_min (fun i => o i ∧ (W' k).testBit (T i) = true ∧ (W' k).testBit (F i) = false) (fun i => (wt i - gr_hw W val k (T i), 2 ^ i - gr_h W val k (T i))) ak (val' k).1)
    (hval : (val' k).2 = (wt (val' k).1 - gr_hw W val k (T (val' k).1), 2 ^ (val' k).1 - gr_h W val k (T (val' k).1))) : gr N' F T o wt ak (k + 1) W' val' := by
  have hM : ∀ s, s < k → ∀ v, gm W s v ↔ gm W' s v := fun s hs v => by unfold gm; rw [hW s hs]
  have hin2 : ∀ (α : Type) [Add α] (z : α) (f : Nat → α) (v : Nat), (W' k).testBit v = true → fs z (gr_in W' k v) f k = fs z (fun t => (W t).testBit v) f k := by
    intro α _ z f v hv
    refine fs_congr k (fun t ht => ?_) (fun _ _ _ => rfl)
    rcases hq : (W t).testBit v with _ | _
    · unfold gr_in; rw [hW t ht, hq]; rfl
    · refine gr_in_iff.mpr ⟨by unfold gm; rw [hW t ht]; exact hq, fun x hx => ?_⟩
      exact gr_meet G hnew ht hq hv x ((hM t ht x).mpr hx)
  have hkey : ∀ i, (W' k).testBit (T i) = true → gr_key T wt W' val' k i = (wt i - gr_hw W val k (T i), 2 ^ i - gr_h W val k (T i)) := fun i hi => by
    unfold gr_key gr_hw gr_h
    rw [hin2 Int64 0 _ (T i) hi, hin2 Int 0 _ (T i) hi]
    rw [fs_congr (f := fun t => (val' t).2.1) (g := fun t => (val t).2.1) k (fun _ _ => rfl) (fun t ht _ => by rw [hV t ht]), fs_congr (f := fun t => (val' t).2.2) (g := fun t => (val t).2.2) k (fun _ _ => rfl) (fun t ht _ => by rw [hV t ht])]
  have hold : ∀ s, s < k → ∀ i, gr_key T wt W' val' s i = gr_key T wt W val s i := fun s hs i => by
    unfold gr_key
    have e1 : ∀ t, t < s → gr_in W' s (T i) t = gr_in W s (T i) t := fun t ht => by unfold gr_in; rw [hW t (by omega), hW s hs]
    rw [fs_congr (f := fun t => (val' t).2.1) (g := fun t => (val t).2.1) s e1 (fun t ht _ => by rw [hV t (by omega)]), fs_congr (f := fun t => (val' t).2.2) (g := fun t => (val t).2.2) s e1 (fun t ht _ => by rw [hV t (by omega)])]
  have hF : ∀ s, s < k → (fun s => F (val s).1) s = (fun s => F (val' s).1) s := fun s hs => by show F (val s).1 = F (val' s).1; rw [hV s hs]
  refine ⟨⟨fun s hs => ?_, fun s hs v hv => ?_, fun v hv => ?_, fun s hs h => ?_, fun u hu => ?_⟩, fun s hs => ?_⟩
  · by_cases c1 : s = k
    · subst c1
      exact ⟨T (val' s).1, hmin.1.2.1⟩
    · obtain ⟨v, hv⟩ := G.1.1 s (by omega)
      exact ⟨v, (hM s (by omega) v).mp hv⟩
  · by_cases c1 : s = k
    · subst c1; exact hin v hv
    · exact hN v (G.1.2.1 s (by omega) v ((hM s (by omega) v).mpr hv))
  · rcases hsg v hv with h | h
    · obtain ⟨s, hs, h1⟩ := G.1.2.2.1 v h
      exact ⟨s, by omega, fun w => by rw [← hM s hs w]; exact h1 w⟩
    · exact ⟨k, by omega, h⟩
  · by_cases c1 : s = k
    · subst c1
      have h1 := hmin.1.2.2
      have h2 : (W' s).testBit (F (val' s).1) = true := h
      rw [h1] at h2
      exact Bool.false_ne_true h2
    · have hs : s < k := by omega
      exact G.1.2.2.2.1 s hs ((hM s hs _).mpr (by rw [hF s hs]; exact h))
  · by_cases c1 : u = k
    · subst c1
      rcases hnew with ⟨v, he, hd⟩ | ⟨b, hl, hn, hp, hm⟩
      · refine Or.inl ⟨⟨v, fun x => ?_⟩, fun s hs x h1 h2 => ?_⟩
        · show (W' u).testBit x = true ↔ x = v
          rw [he, Nat.testBit_two_pow, decide_eq_true_eq]
          exact ⟨fun h => h.symm, fun h => h.symm⟩
        · have h2 : (W' u).testBit x = true := h2
          rw [he, Nat.testBit_two_pow, decide_eq_true_eq] at h2
          subst h2
          exact hd s hs ((hM s hs _).mpr h1)
      · refine Or.inr ⟨b, fun i => fm_live_congr hM (hl i), fun i => ?_, hp, fun v => ?_⟩
        · show gm W' (b (i + 1)) (F (val' (b i)).1)
          rw [hV _ (hl i).1]
          exact (hM _ (hl (i + 1)).1 _).mp (hn i)
        · show (W' u).testBit v = true ↔ _
          rw [hm v]
          exact ⟨fun ⟨i, hi⟩ => ⟨i, (hM _ (hl i).1 _).mp hi⟩, fun ⟨i, hi⟩ => ⟨i, (hM _ (hl i).1 _).mpr hi⟩⟩
    · exact fm_each_congr (fun s hs => hM s (by omega)) (fun s hs => hF s (by omega)) (G.1.2.2.2.2 u (by omega))
  · by_cases c1 : s = k
    · subst c1
      refine ⟨fk_congr (fun i _ => Iff.rfl) (fun i _ hi => (hkey i hi.2.1).symm) hmin, ?_⟩
      rw [hval, hkey _ hmin.1.2.1]
    · have hs : s < k := by omega
      obtain ⟨m1, m2⟩ := G.2 s hs
      rw [hV s hs]
      refine ⟨fk_congr (fun i _ => by unfold gr_en; rw [hW s hs]) (fun i _ _ => (hold s hs i).symm) m1, ?_⟩
      rw [m2, hold s hs]
theorem gr_hw_ext {W W' : Nat → Nat} {val val' : Nat → Nat × Int64 × Int} {k : Nat} (hW : ∀ s, s < k → W' s = W s) (hV : ∀ s, s < k → val' s = val s) (v : Nat) : gr_hw W' val' (k + 1) v = (if (W' k).testBit v = true then gr_hw W val k v + (val' k).2.1 else gr_hw W val k v) := by
  have e1 : gr_hw W' val' k v = gr_hw W val k v := fs_congr k (fun t ht => by rw [hW t ht]) (fun t ht _ => by rw [hV t ht])
  show (if (W' k).testBit v = true then gr_hw W' val' k v + (val' k).2.1 else gr_hw W' val' k v) = _
  rw [e1]
theorem gr_h_ext {W W' : Nat → Nat} {val val' : Nat → Nat × Int64 × Int} {k : Nat} (hW : ∀ s, s < k → W' s = W s) (hV : ∀ s, s < k → val' s = val s) (v : Nat) : gr_h W' val' (k + 1) v = (if (W' k).testBit v = true then gr_h W val k v + (val' k).2.2 else gr_h W val k v) := by
  have e1 : gr_h W' val' k v = gr_h W val k v := fs_congr k (fun t ht => by rw [hW t ht]) (fun t ht _ => by rw [hV t ht])
  show (if (W' k).testBit v = true then gr_h W' val' k v + (val' k).2.2 else gr_h W' val' k v) = _
  rw [e1]
