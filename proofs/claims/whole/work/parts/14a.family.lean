/-! Families of sets that are made one after the other, each new one a single node or a ring of live ones. Two such families that end without a ring are the same. -/
def fm_dis (X Y : Nat → Prop) : Prop := ∀ v, X v → Y v → False
def fm_sub (X Y : Nat → Prop) : Prop := ∀ v, X v → Y v
/-- s is live when t sets are made -/
def fm_live (M : Nat → Nat → Prop) (t s : Nat) : Prop := s < t ∧ ∀ u, s < u → u < t → fm_dis (M s) (M u)
def fm_ring (M : Nat → Nat → Prop) (F : Nat → Nat) (u : Nat) (b : Nat → Nat) : Prop := (∀ i, fm_live M u (b i)) ∧ (∀ i, M (b (i + 1)) (F (b i))) ∧ (∃ j, 0 < j ∧ ∀ i, b (i + j) = b i) ∧ ∀ v, M u v ↔ ∃ i, M (b i) v
def fm_one (M : Nat → Nat → Prop) (u : Nat) : Prop := (∃ v, ∀ w, M u w ↔ w = v) ∧ ∀ s, s < u → fm_dis (M s) (M u)
/-- k sets M, the arc of set s comes from the node F s; N says which nodes there are beside the root -/
def fm_run (N : Nat → Prop) (k : Nat) (M : Nat → Nat → Prop) (F : Nat → Nat) : Prop :=
  (∀ s, s < k → ∃ v, M s v) ∧ (∀ s, s < k → ∀ v, M s v → N v) ∧ (∀ v, N v → ∃ s, s < k ∧ ∀ w, M s w ↔ w = v) ∧ (∀ s, s < k → ¬ M s (F s)) ∧ ∀ u, u < k → fm_one M u ∨ ∃ b, fm_ring M F u b
def fm_end (k : Nat) (M : Nat → Nat → Prop) (F : Nat → Nat) : Prop := ¬ ∃ b : Nat → Nat, (∀ i, fm_live M k (b i)) ∧ ∀ i, M (b (i + 1)) (F (b i))
theorem fm_per {b : Nat → Nat} {j : Nat} (h : ∀ i, b (i + j) = b i) : ∀ n i, b (i + n * j) = b i := by
  intro n
  induction n with
  | zero => intro i; rw [Nat.zero_mul, Nat.add_zero]
  | succ n ih => intro i; rw [Nat.succ_mul, ← Nat.add_assoc, h, ih]
theorem fm_far {b : Nat → Nat} (h : ∃ j, 0 < j ∧ ∀ i, b (i + j) = b i) (x i : Nat) : ∃ m, b (x + m) = b i := by
  obtain ⟨j, hj, hp⟩ := h
  have h1 : x ≤ x * j := Nat.le_mul_of_pos_right x hj
  refine ⟨i + x * j - x, ?_⟩
  rw [show x + (i + x * j - x) = i + x * j by omega]
  exact fm_per hp x i
/-- a later set that meets an earlier one holds it -/
theorem fm_abs {N : Nat → Prop} {k : Nat} {M : Nat → Nat → Prop} {F : Nat → Nat} (R : fm_run N k M F) : ∀ u s v, s < u → u < k → M s v → M u v → fm_sub (M s) (M u) := by
  intro u
  induction u using Nat.strongRecOn with
  | ind u ih =>
    intro s v hs hu h1 h2
    rcases R.2.2.2.2 u hu with h | ⟨b, hl, hn, hp, hm⟩
    · exact absurd h2 (fun h2 => h.2 s hs v h1 h2)
    · obtain ⟨i, hi⟩ := (hm v).mp h2
      have hb : fm_sub (M (b i)) (M u) := fun w hw => (hm w).mpr ⟨i, hw⟩
      rcases Nat.lt_trichotomy s (b i) with q | q | q
      · exact fun w hw => hb w (ih (b i) (hl i).1 s v q (Nat.lt_trans (hl i).1 hu) h1 hi w hw)
      · rw [q]; exact hb
      · exact absurd h1 (fun h1 => (hl i).2 s q hs v hi h1)
/-- and has a node more -/
theorem fm_more {N : Nat → Prop} {k : Nat} {M : Nat → Nat → Prop} {F : Nat → Nat} (R : fm_run N k M F) {u s v : Nat} (hs : s < u) (hu : u < k) (h1 : M s v) (h2 : M u v) : ∃ w, M u w ∧ ¬ M s w := by
  rcases R.2.2.2.2 u hu with h | ⟨b, hl, hn, hp, hm⟩
  · exact absurd h2 (fun h2 => h.2 s hs v h1 h2)
  · obtain ⟨i, hi⟩ := (hm v).mp h2
    have hbk : b i < k := Nat.lt_trans (hl i).1 hu
    refine ⟨F (b i), (hm _).mpr ⟨i + 1, hn i⟩, fun h3 => R.2.2.2.1 (b i) hbk ?_⟩
    rcases Nat.lt_trichotomy s (b i) with q | q | q
    · exact fm_abs R (b i) s v q hbk h1 hi _ h3
    · rw [← q]; rw [← q] at h3; exact h3
    · exact absurd h1 (fun h1 => (hl i).2 s q hs v hi h1)
/-- two sets with a common node: the one with the smaller number lies in the other -/
theorem fm_lt {N : Nat → Prop} {k : Nat} {M : Nat → Nat → Prop} {F : Nat → Nat} (R : fm_run N k M F) {s u v : Nat} (hs : s < k) (hu : u < k) (h1 : M s v) (h2 : M u v) (h : fm_sub (M s) (M u)) (hne : ∃ w, M u w ∧ ¬ M s w) : s < u := by
  obtain ⟨w, hw1, hw2⟩ := hne
  rcases Nat.lt_trichotomy s u with q | q | q
  · exact q
  · rw [q] at hw2; exact absurd hw1 hw2
  · exact absurd (fm_abs R s u v q hs h2 h1 w hw1) hw2
theorem fm_inj {N : Nat → Prop} {k : Nat} {M : Nat → Nat → Prop} {F : Nat → Nat} (R : fm_run N k M F) {s u : Nat} (hs : s < k) (hu : u < k) (h : ∀ v, M s v ↔ M u v) : s = u := by
  obtain ⟨v, hv⟩ := R.1 s hs
  rcases Nat.lt_trichotomy s u with q | q | q
  · obtain ⟨w, h1, h2⟩ := fm_more R q hu hv ((h v).mp hv)
    exact absurd ((h w).mpr h1) h2
  · exact q
  · obtain ⟨w, h1, h2⟩ := fm_more R q hs ((h v).mp hv) hv
    exact absurd ((h w).mp h1) h2
/-- two live sets with a common node are one -/
theorem fm_live_eq {M : Nat → Nat → Prop} {t s u v : Nat} (hs : fm_live M t s) (hu : fm_live M t u) (h1 : M s v) (h2 : M u v) : s = u := by
  rcases Nat.lt_trichotomy s u with q | q | q
  · exact absurd h2 (fun h2 => hs.2 u q hu.1 v h1 h2)
  · exact q
  · exact absurd h1 (fun h1 => hu.2 s q hs.1 v h2 h1)
theorem fm_least {P : Nat → Prop} (h : ∃ n, P n) : ∃ n, P n ∧ ∀ m, m < n → ¬ P m := by
  obtain ⟨n, hn⟩ := h
  induction n using Nat.strongRecOn with
  | ind n ih =>
    by_cases q : ∃ m, m < n ∧ P m
    · obtain ⟨m, hm, hp⟩ := q
      exact ih m hm hp
    · exact ⟨n, hn, fun m hm hp => q ⟨m, hm, hp⟩⟩
/-- what goes over from one family to the other -/
def fm_to {V : Type} (M M' : Nat → Nat → Prop) (val val' : Nat → V) (s s' : Nat) : Prop := (∀ v, M s v ↔ M' s' v) ∧ val s = val' s'
def fm_det {V : Type} (k k' : Nat) (M M' : Nat → Nat → Prop) (val val' : Nat → V) : Prop := ∀ s s', s < k → s' < k' → (∀ v, M s v ↔ M' s' v) →
  (∀ t, t < s → fm_sub (M t) (M s) → ∃ t', t' < s' ∧ fm_to M M' val val' t t') → (∀ t', t' < s' → fm_sub (M' t') (M' s') → ∃ t, t < s ∧ fm_to M M' val val' t t') → val s = val' s'
theorem fm_same {V : Type} {N : Nat → Prop} {k k' : Nat} {M M' : Nat → Nat → Prop} {val val' : Nat → V} {fr : V → Nat} (R : fm_run N k M (fun s => fr (val s))) (R' : fm_run N k' M' (fun s => fr (val' s))) (E' : fm_end k' M' (fun s => fr (val' s)))
    (hd : fm_det k k' M M' val val') : ∀ s, s < k → ∃ s', s' < k' ∧ fm_to M M' val val' s s' ∧ ∀ t', t' < s' → fm_sub (M' t') (M' s') → ∃ t, t < s ∧ fm_to M M' val val' t t' := by
  intro s
  induction s using Nat.strongRecOn with
  | ind s ih =>
    intro hs
    rcases R.2.2.2.2 s hs with h | ⟨b, hl, hn, hp, hm⟩
    · obtain ⟨⟨v, hv⟩, hdis⟩ := h
      obtain ⟨s', hs', hv'⟩ := R'.2.2.1 v (R.2.1 s hs v ((hv v).mpr rfl))
      have hsub : ∀ t', t' < s' → fm_sub (M' t') (M' s') → False := fun t' ht h1 => by
        obtain ⟨w, hw⟩ := R'.1 t' (Nat.lt_trans ht hs')
        obtain ⟨x, hx1, hx2⟩ := fm_more R' ht hs' hw (h1 w hw)
        have e1 := (hv' w).mp (h1 w hw)
        have e2 := (hv' x).mp hx1
        rw [e2, ← e1] at hx2
        exact hx2 hw
      have hsm : ∀ w, M s w ↔ M' s' w := fun w => (hv w).trans (hv' w).symm
      refine ⟨s', hs', ⟨hsm, hd s s' hs hs' hsm (fun t ht h1 => ?_) (fun t' ht h1 => absurd (hsub t' ht h1) id)⟩, fun t' ht h1 => absurd (hsub t' ht h1) id⟩
      obtain ⟨w, hw⟩ := R.1 t (Nat.lt_trans ht hs)
      exact absurd (hdis t ht w hw (h1 w hw)) id
    · -- the members of the ring, in the other family
      have hbk : ∀ i, b i < k := fun i => Nat.lt_trans (hl i).1 hs
      have hch : ∀ i, ∃ g : Nat, g < k' ∧ fm_to M M' val val' (b i) g ∧ ∀ t', t' < g → fm_sub (M' t') (M' g) → ∃ t, t < b i ∧ fm_to M M' val val' t t' := fun i => ih (b i) (hl i).1 (hbk i)
      obtain ⟨b', hb'⟩ : ∃ b' : Nat → Nat, ∀ i, b' i < k' ∧ fm_to M M' val val' (b i) (b' i) ∧ ∀ t', t' < b' i → fm_sub (M' t') (M' (b' i)) → ∃ t, t < b i ∧ fm_to M M' val val' t t' := ⟨fun i => Classical.choose (hch i), fun i => Classical.choose_spec (hch i)⟩
      have hF : ∀ i, M' (b' (i + 1)) (fr (val' (b' i))) := fun i => by
        have h1 : M' (b' (i + 1)) (fr (val (b i))) := ((hb' (i + 1)).2.1.1 _).mp (hn i)
        rw [(hb' i).2.1.2] at h1
        exact h1
      -- two members with a common node
      have hone : ∀ i j v, M' (b' i) v → M' (b' j) v → ∀ w, M' (b' i) w ↔ M' (b' j) w := fun i j v h1 h2 w => by
        have e1 := fm_live_eq (hl i) (hl j) (((hb' i).2.1.1 v).mpr h1) (((hb' j).2.1.1 v).mpr h2)
        rw [← (hb' i).2.1.1 w, ← (hb' j).2.1.1 w, e1]
      by_cases hq : ∃ q, ∃ i, b' i < q ∧ q < k' ∧ ∃ v, M' (b' i) v ∧ M' q v
      · obtain ⟨q, ⟨i0, hq1, hq2, v0, hv1, hv2⟩, hmin⟩ := fm_least hq
        rcases R'.2.2.2.2 q hq2 with h | ⟨c, cl, cn, cp, cm⟩
        · exact absurd hv2 (fun h2 => h.2 _ hq1 v0 hv1 h2)
        · obtain ⟨x0, hx0⟩ := (cm v0).mp hv2
          have hck : ∀ y, c y < k' := fun y => Nat.lt_trans (cl y).1 hq2
          have hst : ∀ i, b' (i0 + i) = c (x0 + i) := by
            intro i
            induction i with
            | zero =>
              show b' i0 = c x0
              rcases Nat.lt_trichotomy (b' i0) (c x0) with z | z | z
              · exact absurd ⟨i0, z, hck x0, v0, hv1, hx0⟩ (hmin (c x0) (cl x0).1)
              · exact z
              · exact absurd hv1 (fun h1 => (cl x0).2 _ z hq1 v0 hx0 h1)
            | succ i ih2 =>
              have f1 := hF (i0 + i)
              have f2 : M' (c (x0 + i + 1)) (fr (val' (b' (i0 + i)))) := by rw [ih2]; exact cn (x0 + i)
              show b' (i0 + i + 1) = c (x0 + i + 1)
              rcases Nat.lt_trichotomy (b' (i0 + i + 1)) (c (x0 + i + 1)) with z | z | z
              · exact absurd ⟨i0 + i + 1, z, hck _, _, f1, f2⟩ (hmin _ (cl _).1)
              · exact z
              · rcases Nat.lt_trichotomy (b' (i0 + i + 1)) q with y | y | y
                · exact absurd f1 (fun h1 => (cl _).2 _ z y _ f2 h1)
                · -- it would be the set q itself
                  obtain ⟨w, w1, w2⟩ := fm_more R' hq1 hq2 hv1 hv2
                  have e1 := hone (i0 + i + 1) i0 v0 (by rw [y]; exact hv2) hv1 w
                  exact absurd (e1.mp (by rw [y]; exact w1)) w2
                · have f3 : M' q (fr (val' (b' (i0 + i)))) := (cm _).mpr ⟨_, f2⟩
                  have h1 := fm_abs R' _ q _ y (hb' _).1 f3 f1
                  obtain ⟨w, w1, w2⟩ := fm_more R' y (hb' _).1 f3 f1
                  have e1 := hone (i0 + i + 1) i0 v0 (h1 _ hv2) hv1 w
                  exact absurd (fm_abs R' q _ v0 hq1 hq2 hv1 hv2 w (e1.mp w1)) w2
          have hbc : ∀ i, ∃ y, ∀ w, M (b i) w ↔ M' (c y) w := fun i => by
            obtain ⟨m, hm1⟩ := fm_far hp i0 i
            refine ⟨x0 + m, fun w => ?_⟩
            rw [← hst m, ← hm1]
            exact (hb' (i0 + m)).2.1.1 w
          have hcb : ∀ y, ∃ m, b' (i0 + m) = c y := fun y => by
            obtain ⟨m, hm1⟩ := fm_far cp x0 y
            exact ⟨m, by rw [hst m, hm1]⟩
          have hsm : ∀ v, M s v ↔ M' q v := fun v => by
            rw [hm, cm]
            constructor
            · rintro ⟨i, hi⟩
              obtain ⟨y, hy⟩ := hbc i
              exact ⟨y, (hy v).mp hi⟩
            · rintro ⟨y, hy⟩
              obtain ⟨m, hm1⟩ := hcb y
              exact ⟨i0 + m, ((hb' (i0 + m)).2.1.1 v).mpr (by rw [hm1]; exact hy)⟩
          have hback : ∀ t', t' < q → fm_sub (M' t') (M' q) → ∃ t, t < s ∧ fm_to M M' val val' t t' := fun t' ht h1 => by
            obtain ⟨v, hv⟩ := R'.1 t' (Nat.lt_trans ht hq2)
            obtain ⟨y, hy⟩ := (cm v).mp (h1 v hv)
            obtain ⟨m, hm1⟩ := hcb y
            rcases Nat.lt_trichotomy t' (c y) with z | z | z
            · obtain ⟨t, t1, t2⟩ := (hb' (i0 + m)).2.2 t' (by rw [hm1]; exact z) (by rw [hm1]; exact fm_abs R' _ _ v z (hck y) hv hy)
              exact ⟨t, Nat.lt_trans t1 (hl _).1, t2⟩
            · exact ⟨b (i0 + m), (hl _).1, by rw [z, ← hm1]; exact (hb' (i0 + m)).2.1⟩
            · exact absurd hv (fun h2 => (cl y).2 t' z ht v hy h2)
          refine ⟨q, hq2, ⟨hsm, hd s q hs hq2 hsm (fun t ht h1 => ?_) hback⟩, hback⟩
          obtain ⟨t', t1, t2, -⟩ := ih t ht (Nat.lt_trans ht hs)
          obtain ⟨v, hv⟩ := R.1 t (Nat.lt_trans ht hs)
          obtain ⟨w, w1, w2⟩ := fm_more R ht hs hv (h1 v hv)
          exact ⟨t', fm_lt R' t1 hq2 ((t2.1 v).mp hv) ((hsm v).mp (h1 v hv)) (fun z hz => (hsm z).mp (h1 z ((t2.1 z).mpr hz))) ⟨w, (hsm w).mp w1, fun z => w2 ((t2.1 w).mpr z)⟩, t2⟩
      · -- no set of the other family around any member: a ring is left there
        refine absurd ⟨b', fun i => ⟨(hb' i).1, fun u h1 h2 v h3 h4 => hq ⟨u, i, h1, h2, v, h3, h4⟩⟩, hF⟩ E'
