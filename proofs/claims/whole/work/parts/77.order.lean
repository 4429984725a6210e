/-! Live sets and the least sets around, told without the order of making. -/
theorem fm_live_max {N : Nat → Prop} {k : Nat} {M : Nat → Nat → Prop} {F : Nat → Nat} (R : fm_run N k M F) {s : Nat} (hs : s < k) : fm_live M k s ↔ ∀ u, u < k → fm_sub (M s) (M u) → u = s := by
  obtain ⟨v, hv⟩ := R.1 s hs
  constructor
  · intro h u hu hsub
    rcases Nat.lt_trichotomy u s with q | q | q
    · have h1 := fm_abs R s u v q hs (hsub v hv) hv
      exact fm_inj R hu hs (fun x => ⟨h1 x, hsub x⟩)
    · exact q
    · exact absurd (hsub v hv) (fun h2 => h.2 u q hu v hv h2)
  · intro h
    refine ⟨hs, fun u h1 h2 x h3 h4 => ?_⟩
    have := h u h2 (fm_abs R u s x h1 h2 h3 h4)
    omega
/-- u is the least set around s -/
def fm_around (k : Nat) (M : Nat → Nat → Prop) (s u : Nat) : Prop := u < k ∧ u ≠ s ∧ fm_sub (M s) (M u) ∧ ∀ t, t < k → t ≠ s → fm_sub (M s) (M t) → fm_sub (M u) (M t)
theorem fm_around_of {N : Nat → Prop} {k : Nat} {M : Nat → Nat → Prop} {F : Nat → Nat} (R : fm_run N k M F) {s u : Nat} (hs : s < u) (hu : u < k) (hsub : fm_sub (M s) (M u)) (hd : ∀ t, s < t → t < u → fm_dis (M s) (M t)) : fm_around k M s u := by
  obtain ⟨v, hv⟩ := R.1 s (by omega)
  refine ⟨hu, by omega, hsub, fun t ht hts h => ?_⟩
  rcases Nat.lt_trichotomy t u with q | q | q
  · rcases Nat.lt_trichotomy t s with q2 | q2 | q2
    · have h1 := fm_abs R s t v q2 (by omega) (h v hv) hv
      exact absurd (fm_inj R ht (by omega) (fun x => ⟨h1 x, h x⟩)) hts
    · exact absurd q2 hts
    · exact absurd (h v hv) (fun h2 => hd t q2 q v hv h2)
  · rw [q]; exact fun _ h => h
  · exact fm_abs R t u v q ht (hsub v hv) (h v hv)
theorem fm_around_one {N : Nat → Prop} {k : Nat} {M : Nat → Nat → Prop} {F : Nat → Nat} (R : fm_run N k M F) {s u w : Nat} (h1 : fm_around k M s u) (h2 : fm_around k M s w) : u = w :=
  fm_inj R h1.1 h2.1 (fun x => ⟨h1.2.2.2 w h2.1 h2.2.1 h2.2.2.1 x, h2.2.2.2 u h1.1 h1.2.1 h1.2.2.1 x⟩)
section Order
variable {N : Nat → Prop} {k k' : Nat} {M M' : Nat → Nat → Prop} {F F' : Nat → Nat} {π : Nat → Nat}
theorem fm_live_to (R : fm_run N k M F) (R' : fm_run N k' M' F') (h1 : ∀ s, s < k → π s < k' ∧ ∀ v, M s v ↔ M' (π s) v) (h2 : ∀ s', s' < k' → ∃ s, s < k ∧ π s = s') {s : Nat} (hs : s < k) : fm_live M k s ↔ fm_live M' k' (π s) := by
  rw [fm_live_max R hs, fm_live_max R' (h1 s hs).1]
  constructor
  · intro h u' hu' hsub
    obtain ⟨u, hu, rfl⟩ := h2 u' hu'
    rw [h u hu (fun v hv => ((h1 u hu).2 v).mpr (hsub v (((h1 s hs).2 v).mp hv)))]
  · intro h u hu hsub
    have h3 := h (π u) (h1 u hu).1 (fun v hv => ((h1 u hu).2 v).mp (hsub v (((h1 s hs).2 v).mpr hv)))
    exact fm_inj R hu hs (fun v => by rw [(h1 u hu).2 v, (h1 s hs).2 v, h3])
theorem fm_around_to (R : fm_run N k M F) (h1 : ∀ s, s < k → π s < k' ∧ ∀ v, M s v ↔ M' (π s) v) (h2 : ∀ s', s' < k' → ∃ s, s < k ∧ π s = s') {s u : Nat} (hs : s < k) (h : fm_around k M s u) : fm_around k' M' (π s) (π u) := by
  obtain ⟨g1, g2, g3, g4⟩ := h
  refine ⟨(h1 u g1).1, fun e1 => g2 (fm_inj R g1 hs (fun v => by rw [(h1 u g1).2 v, (h1 s hs).2 v, e1])), fun v hv => ((h1 u g1).2 v).mp (g3 v (((h1 s hs).2 v).mpr hv)), fun t' ht' hne hsub => ?_⟩
  obtain ⟨t, ht, rfl⟩ := h2 t' ht'
  exact fun v hv => ((h1 t ht).2 v).mp (g4 t ht (fun e1 => hne (by rw [e1])) (fun x hx => ((h1 t ht).2 x).mpr (hsub x (((h1 s hs).2 x).mp hx))) v (((h1 u g1).2 v).mpr hv))
end Order
