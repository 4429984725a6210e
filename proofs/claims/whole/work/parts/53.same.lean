/-! Two runs over the same arcs that both end without a ring have the same sets, arcs and duals. -/
def gm (W : Nat → Nat) (s v : Nat) : Prop := (W s).testBit v = true
/-- the set t lies in the set s and holds the node v -/
def gr_in (W : Nat → Nat) (s v t : Nat) : Bool := (W t).testBit v && decide (W t &&& W s = W t)
def gr_key (T : Nat → Nat) (wt : Nat → Int64) (W : Nat → Nat) (val : Nat → Nat × Int64 × Int) (s i : Nat) : Int64 × Int :=
  (wt i - fs 0 (gr_in W s (T i)) (fun t => (val t).2.1) s, 2 ^ i - fs 0 (gr_in W s (T i)) (fun t => (val t).2.2) s)
def gr_en (F T : Nat → Nat) (o : Nat → Prop) (W : Nat → Nat) (s i : Nat) : Prop := o i ∧ (W s).testBit (T i) = true ∧ (W s).testBit (F i) = false
/-- a run: k sets W, each with its arc and its dual (a weight, a power) -/
def gr (N : Nat → Prop) (F T : Nat → Nat) (o : Nat → Prop) (wt : Nat → Int64) (ak k : Nat) (W : Nat → Nat) (val : Nat → Nat × Int64 × Int) : Prop :=
  fm_run N k (gm W) (fun s => F (val s).1) ∧ ∀ s, s < k → fk_min (gr_en F T o W s) (gr_key T wt W val s) ak (val s).1 ∧ (val s).2 = gr_key T wt W val s (val s).1
theorem gm_ext {W W' : Nat → Nat} {s s' : Nat} (h : ∀ v, gm W s v ↔ gm W' s' v) : W s = W' s' := by
  apply Nat.eq_of_testBit_eq
  intro v
  have h1 := h v
  unfold gm at h1
  rcases hq : (W s).testBit v with _ | _
  · rcases hq2 : (W' s').testBit v with _ | _
    · rfl
    · rw [hq] at h1; exact absurd (h1.mpr hq2) Bool.false_ne_true
  · exact (h1.mp hq).symm
theorem gm_sub {W : Nat → Nat} {t s : Nat} : fm_sub (gm W t) (gm W s) ↔ W t &&& W s = W t := by
  constructor
  · intro h
    apply Nat.eq_of_testBit_eq
    intro v
    rw [Nat.testBit_and]
    rcases hq : (W t).testBit v with _ | _
    · rfl
    · rw [show (W s).testBit v = true from h v hq]; rfl
  · intro h v hv
    have hv : (W t).testBit v = true := hv
    rw [← h, Nat.testBit_and, Bool.and_eq_true] at hv
    exact hv.2
theorem gr_in_iff {W : Nat → Nat} {s v t : Nat} : gr_in W s v t = true ↔ gm W t v ∧ fm_sub (gm W t) (gm W s) := by
  unfold gr_in
  rw [Bool.and_eq_true, decide_eq_true_eq, gm_sub]
  exact Iff.rfl
theorem gr_sum {V : Type} {N : Nat → Prop} {k k' : Nat} {W W' : Nat → Nat} {val val' : Nat → V} {F F' : Nat → Nat} (R : fm_run N k (gm W) F) (R' : fm_run N k' (gm W') F') {s s' : Nat} (hs : s < k) (hs' : s' < k') (hm : ∀ v, gm W s v ↔ gm W' s' v)
    (h1 : ∀ t, t < s → fm_sub (gm W t) (gm W s) → ∃ t', t' < s' ∧ fm_to (gm W) (gm W') val val' t t') (h2 : ∀ t', t' < s' → fm_sub (gm W' t') (gm W' s') → ∃ t, t < s ∧ fm_to (gm W) (gm W') val val' t t')
    {α : Type} [Add α] {z : α} (ha : ∀ a b c : α, a + b + c = a + (b + c)) (hc : ∀ a b : α, a + b = b + a) (pr : V → α) (v : Nat) : fs z (gr_in W s v) (fun t => pr (val t)) s = fs z (gr_in W' s' v) (fun t => pr (val' t)) s' := by
  have hch : ∀ t, ∃ t', t < s → fm_sub (gm W t) (gm W s) → t' < s' ∧ fm_to (gm W) (gm W') val val' t t' := fun t => by
    by_cases c1 : t < s ∧ fm_sub (gm W t) (gm W s)
    · obtain ⟨t', h⟩ := h1 t c1.1 c1.2
      exact ⟨t', fun _ _ => h⟩
    · exact ⟨0, fun a b => absurd ⟨a, b⟩ c1⟩
  obtain ⟨g, hg⟩ : ∃ g : Nat → Nat, ∀ t, t < s → fm_sub (gm W t) (gm W s) → g t < s' ∧ fm_to (gm W) (gm W') val val' t (g t) := ⟨fun t => Classical.choose (hch t), fun t => Classical.choose_spec (hch t)⟩
  refine fs_bij ha hc (g := g) s _ (fun t ht hp => ?_) (fun t ht hp u hu hq e1 => ?_) (fun u hu hq => ?_)
  · obtain ⟨p1, p2⟩ := gr_in_iff.mp hp
    obtain ⟨g1, g2, g3⟩ := hg t ht p2
    exact ⟨g1, gr_in_iff.mpr ⟨(g2 v).mp p1, fun w hw => (hm w).mp (p2 w ((g2 w).mpr hw))⟩, by show pr (val t) = pr (val' (g t)); rw [g3]⟩
  · obtain ⟨-, p2⟩ := gr_in_iff.mp hp
    obtain ⟨-, q2⟩ := gr_in_iff.mp hq
    obtain ⟨-, g2, -⟩ := hg t ht p2
    obtain ⟨-, k2, -⟩ := hg u hu q2
    refine fm_inj R (by omega) (by omega) (fun w => ?_)
    rw [g2 w, k2 w, e1]
  · obtain ⟨q1, q2⟩ := gr_in_iff.mp hq
    obtain ⟨t, ht, t2, t3⟩ := h2 u hu q2
    have hsub : fm_sub (gm W t) (gm W s) := fun w hw => (hm w).mpr (q2 w ((t2 w).mp hw))
    obtain ⟨g1, g2, -⟩ := hg t ht hsub
    refine ⟨t, ht, gr_in_iff.mpr ⟨(t2 v).mpr q1, hsub⟩, fm_inj R' (by omega) (by omega) (fun w => ?_)⟩
    rw [← g2 w, t2 w]
theorem gr_det {N : Nat → Prop} {F T : Nat → Nat} {o : Nat → Prop} {wt : Nat → Int64} {ak k k' : Nat} {W W' : Nat → Nat} {val val' : Nat → Nat × Int64 × Int} (G : gr N F T o wt ak k W val) (G' : gr N F T o wt ak k' W' val') : fm_det k k' (gm W) (gm W') val val' := by
  intro s s' hs hs' hm h1 h2
  have hW := gm_ext hm
  have hkey : ∀ i, gr_key T wt W val s i = gr_key T wt W' val' s' i := fun i => by
    unfold gr_key
    rw [gr_sum G.1 G'.1 hs hs' hm h1 h2 Int64.add_assoc Int64.add_comm (fun x => x.2.1) (T i), gr_sum G.1 G'.1 hs hs' hm h1 h2 Int.add_assoc Int.add_comm (fun x => x.2.2) (T i)]
  obtain ⟨m1, m2⟩ := G.2 s hs
  obtain ⟨m3, m4⟩ := G'.2 s' hs'
  have m5 := fk_congr (en' := gr_en F T o W' s') (key' := gr_key T wt W' val' s') (fun i _ => by unfold gr_en; rw [hW]) (fun i _ _ => hkey i) m1
  have e1 := fk_one m5 m3
  refine Prod.ext e1 ?_
  rw [m2, m4, hkey, e1]
/-- every set of the one is a set of the other, with the same arc and dual -/
theorem gr_same {N : Nat → Prop} {F T : Nat → Nat} {o : Nat → Prop} {wt : Nat → Int64} {ak k k' : Nat} {W W' : Nat → Nat} {val val' : Nat → Nat × Int64 × Int} (G : gr N F T o wt ak k W val) (G' : gr N F T o wt ak k' W' val') (E' : fm_end k' (gm W') (fun s => F (val' s).1)) : ∀ s, s < k → ∃ s', s' < k' ∧ W s = W' s' ∧ val s = val' s' := by
  intro s hs
  obtain ⟨s', h1, h2, -⟩ := fm_same (fr := fun x => F x.1) G.1 G'.1 E' (gr_det G G') s hs
  exact ⟨s', h1, gm_ext h2.1, h2.2⟩
