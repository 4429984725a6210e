/-! The powers of a run stay below 2^60. -/
theorem fm_fr {N : Nat → Prop} {k : Nat} {M : Nat → Nat → Prop} {F : Nat → Nat} (R : fm_run N k M F) : ∀ u s v, s < u → u < k → M s v → M u v → M u (F s) := by
  intro u
  induction u using Nat.strongRecOn with
  | ind u ih =>
    intro s v hs hu h1 h2
    rcases R.2.2.2.2 u hu with h | ⟨b, hl, hn, hp, hm⟩
    · exact absurd h2 (fun h2 => h.2 s hs v h1 h2)
    · obtain ⟨i, hi⟩ := (hm v).mp h2
      rcases Nat.lt_trichotomy s (b i) with q | q | q
      · exact (hm _).mpr ⟨i, ih (b i) (hl i).1 s v q (Nat.lt_trans (hl i).1 hu) h1 hi⟩
      · rw [q]; exact (hm _).mpr ⟨i + 1, hn i⟩
      · exact absurd h1 (fun h1 => (hl i).2 s q hs v hi h1)
theorem fm_last {P : Nat → Prop} : ∀ n, (∃ t, t < n ∧ P t) → ∃ L, L < n ∧ P L ∧ ∀ u, L < u → u < n → ¬ P u := by
  intro n
  induction n with
  | zero => rintro ⟨t, ht, _⟩; exact absurd ht (by omega)
  | succ n ih =>
    rintro ⟨t, ht, hp⟩
    by_cases c1 : P n
    · exact ⟨n, by omega, c1, fun u h1 h2 => absurd h2 (by omega)⟩
    · obtain ⟨L, h1, h2, h3⟩ := ih ⟨t, by
        by_cases c2 : t = n
        · rw [c2] at hp; exact absurd hp c1
        · omega, hp⟩
      refine ⟨L, by omega, h2, fun u hu1 hu2 => ?_⟩
      by_cases c2 : u = n
      · rw [c2]; exact c1
      · exact h3 u hu1 (by omega)
/-- a node of some set lies in a live one -/
theorem fm_top {N : Nat → Prop} {k : Nat} {M : Nat → Nat → Prop} {F : Nat → Nat} (R : fm_run N k M F) {n t v : Nat} (hn : n ≤ k) (ht : t < n) (h : M t v) : ∃ L, fm_live M n L ∧ M L v := by
  obtain ⟨L, h1, h2, h3⟩ := fm_last (P := fun t => M t v) n ⟨t, ht, h⟩
  exact ⟨L, ⟨h1, fun u hu1 hu2 w hw1 hw2 => h3 u hu1 hu2 (fm_abs R u L w hu1 (by omega) hw1 hw2 v h2)⟩, h2⟩
theorem gr_arc_inj {N : Nat → Prop} {F T : Nat → Nat} {o : Nat → Prop} {wt : Nat → Int64} {ak k : Nat} {W : Nat → Nat} {val : Nat → Nat × Int64 × Int} (G : gr N F T o wt ak k W val) {s u : Nat} (hs : s < u) (hu : u < k) : (val s).1 ≠ (val u).1 := by
  intro h
  have h1 := (G.2 s (by omega)).1.1
  have h2 := (G.2 u hu).1.1
  have h3 : gm W u (F (val s).1) := fm_fr G.1 u s (T (val s).1) hs hu h1.2.1 (by rw [h]; exact h2.2.1)
  rw [h] at h3
  have h4 : (W u).testBit (F (val u).1) = true := h3
  rw [h2.2.2] at h4
  exact Bool.false_ne_true h4
theorem pw_sum {a : Nat → Nat} : ∀ (B : Nat) (p : Nat → Bool) (n : Nat), (∀ t, t < n → p t = true → a t < B) → (∀ t, t < n → p t = true → ∀ u, u < n → p u = true → a t = a u → t = u) → fs 0 p (fun t => 2 ^ a t) n < 2 ^ B := by
  intro B
  induction B with
  | zero =>
    intro p n h1 _
    rw [fs_none n (fun t ht => by
      rcases hq : p t with _ | _
      · rfl
      · exact absurd (h1 t ht hq) (by omega))]
    decide
  | succ B ih =>
    intro p n h1 h2
    have e2 : 2 ^ (B + 1) = 2 ^ B + 2 ^ B := by rw [Nat.pow_succ]; omega
    by_cases c1 : ∃ t, t < n ∧ p t = true ∧ a t = B
    · obtain ⟨t, ht, hp, ha⟩ := c1
      have h3 := ih (fs_but p t) n (fun u hu hpu => by
        obtain ⟨k1, k2⟩ := fs_but_t hpu
        have k3 := h1 u hu k1
        have k4 : a u ≠ B := fun h => k2 (h2 u hu k1 t ht hp (by rw [h, ha]))
        omega) (fun u hu hpu w hw hpw => h2 u hu (fs_but_t hpu).1 w hw (fs_but_t hpw).1)
      have e1 := fs_out (z := 0) (f := fun t => 2 ^ a t) Nat.add_assoc Nat.add_comm n ht hp
      rw [e1, ha, e2]
      omega
    · have h3 := ih p n (fun u hu hpu => by
        have k3 := h1 u hu hpu
        have k4 : a u ≠ B := fun h => c1 ⟨u, hu, hpu, h⟩
        omega) h2
      omega
theorem fs_le {p q : Nat → Bool} {f : Nat → Nat} : ∀ n, (∀ t, t < n → p t = true → q t = true) → fs 0 p f n ≤ fs 0 q f n := by
  intro n
  induction n with
  | zero => intro _; exact Nat.le_refl _
  | succ n ih =>
    intro h
    have h1 := ih (fun t ht => h t (by omega))
    show (if p n = true then fs 0 p f n + f n else fs 0 p f n) ≤ (if q n = true then fs 0 q f n + f n else fs 0 q f n)
    by_cases c1 : p n = true
    · rw [if_pos c1, if_pos (h n (by omega) c1)]; omega
    · rw [if_neg c1]; split <;> omega
theorem fs_two {p q r : Nat → Bool} {f : Nat → Nat} : ∀ n, (∀ t, t < n → p t = true → r t = true) → (∀ t, t < n → q t = true → r t = true) → (∀ t, t < n → p t = true → q t = true → False) → fs 0 p f n + fs 0 q f n ≤ fs 0 r f n := by
  intro n
  induction n with
  | zero => intro _ _ _; exact Nat.le_refl _
  | succ n ih =>
    intro h1 h2 h3
    have h4 := ih (fun t ht => h1 t (by omega)) (fun t ht => h2 t (by omega)) (fun t ht => h3 t (by omega))
    show (if p n = true then fs 0 p f n + f n else fs 0 p f n) + (if q n = true then fs 0 q f n + f n else fs 0 q f n) ≤ (if r n = true then fs 0 r f n + f n else fs 0 r f n)
    by_cases c1 : p n = true
    · rw [if_pos c1, if_neg (fun c2 => h3 n (by omega) c1 c2), if_pos (h1 n (by omega) c1)]; omega
    · rw [if_neg c1]
      by_cases c2 : q n = true
      · rw [if_pos c2, if_pos (h2 n (by omega) c2)]; omega
      · rw [if_neg c2]; split <;> omega
/-- the powers held by the node v when n sets are made -/
def gr_h (W : Nat → Nat) (val : Nat → Nat × Int64 × Int) (n v : Nat) : Int := fs 0 (fun t => (W t).testBit v) (fun t => (val t).2.2) n
def gr_hw (W : Nat → Nat) (val : Nat → Nat × Int64 × Int) (n v : Nat) : Int64 := fs 0 (fun t => (W t).testBit v) (fun t => (val t).2.1) n
def gr_B (W : Nat → Nat) (val : Nat → Nat × Int64 × Int) (n L : Nat) : Nat := fs 0 (fun t => decide (W t &&& W L = W t)) (fun t => 2 ^ (val t).1) n
/-- the sets that hold a node of s and were made before s lie in s -/
theorem gr_in_eq {N : Nat → Prop} {k : Nat} {W : Nat → Nat} {F : Nat → Nat} (R : fm_run N k (gm W) F) {s v : Nat} (hs : s < k) (hv : gm W s v) {α : Type} [Add α] {z : α} {f : Nat → α} : fs z (gr_in W s v) f s = fs z (fun t => (W t).testBit v) f s := by
  refine fs_congr s (fun t ht => ?_) (fun _ _ _ => rfl)
  rcases hq : (W t).testBit v with _ | _
  · unfold gr_in; rw [hq]; rfl
  · exact gr_in_iff.mpr ⟨hq, fm_abs R s t v ht hs hq hv⟩
theorem gr_bd {N : Nat → Prop} {F T : Nat → Nat} {o : Nat → Prop} {wt : Nat → Int64} {ak k : Nat} {W : Nat → Nat} {val : Nat → Nat × Int64 × Int} (G : gr N F T o wt ak k W val) : ∀ n, n ≤ k → ∀ L, fm_live (gm W) n L → ∀ x y, gm W L x → gm W L y →
    (-(gr_B W val n L : Int) ≤ gr_h W val n x ∧ gr_h W val n x ≤ gr_B W val n L) ∧ gr_h W val n x - gr_h W val n y ≤ gr_B W val n L := by
  intro n
  induction n with
  | zero => intro _ L hL; exact absurd hL.1 (by omega)
  | succ n ih =>
    intro hn L hL x y hx hy
    have ih := ih (by omega)
    have hnk : n < k := by omega
    by_cases c1 : L = n
    · subst c1
      obtain ⟨m1, m2⟩ := G.2 L hnk
      -- the differences inside the new set
      have hD : ∀ x y, gm W L x → gm W L y → gr_h W val L x - gr_h W val L y ≤ gr_B W val L L := by
        intro x y hx hy
        rcases G.1.2.2.2.2 L hnk with h | ⟨b, hl, hnx, hp, hm⟩
        · have h0 : ∀ v, gm W L v → gr_h W val L v = 0 := fun v hv => fs_none L (fun t ht => by
            rcases hq : (W t).testBit v with _ | _
            · rfl
            · exact absurd hv (fun hv => h.2 t ht v hq hv))
          rw [h0 x hx, h0 y hy]; omega
        · obtain ⟨i, hi⟩ := (hm x).mp hx
          obtain ⟨j, hj⟩ := (hm y).mp hy
          have hsub : ∀ i t, decide (W t &&& W (b i) = W t) = true → decide (W t &&& W L = W t) = true := fun i t h => by
            have h1 := gm_sub.mpr (of_decide_eq_true h)
            exact decide_eq_true (gm_sub.mp (fun v hv => (hm v).mpr ⟨i, h1 v hv⟩))
          by_cases c2 : b i = b j
          · have h1 := (ih (b i) (hl i) x y hi (by rw [c2]; exact hj)).2
            have h2 : gr_B W val L (b i) ≤ gr_B W val L L := fs_le L (fun t _ => hsub i t)
            omega
          · have h1 := (ih (b i) (hl i) x x hi hi).1
            have h2 := (ih (b j) (hl j) y y hj hj).1
            have h3 : gr_B W val L (b i) + gr_B W val L (b j) ≤ gr_B W val L L := fs_two L (fun t _ => hsub i t) (fun t _ => hsub j t) (fun t ht g1 g2 => by
              obtain ⟨w, hw⟩ := G.1.1 t (by omega)
              exact c2 (fm_live_eq (hl i) (hl j) (gm_sub.mpr (of_decide_eq_true g1) w hw) (gm_sub.mpr (of_decide_eq_true g2) w hw)))
            omega
      have hP : (val L).2.2 = 2 ^ (val L).1 - gr_h W val L (T (val L).1) := by
        have h1 : (val L).2.2 = (gr_key T wt W val L (val L).1).2 := by rw [← m2]
        rw [h1]
        show (2 : Int) ^ (val L).1 - fs 0 (gr_in W L (T (val L).1)) (fun t => (val t).2.2) L = _
        rw [gr_in_eq G.1 hnk m1.1.2.1]; rfl
      have hS : ∀ v, gm W L v → gr_h W val (L + 1) v = gr_h W val L v + (val L).2.2 := fun v hv => by
        show (if (W L).testBit v = true then gr_h W val L v + (val L).2.2 else gr_h W val L v) = _
        rw [if_pos (show (W L).testBit v = true from hv)]
      have hB : gr_B W val (L + 1) L = gr_B W val L L + 2 ^ (val L).1 := by
        show (if decide (W L &&& W L = W L) = true then gr_B W val L L + 2 ^ (val L).1 else gr_B W val L L) = _
        rw [if_pos (decide_eq_true (Nat.and_self _))]
      have g1 := hD x (T (val L).1) hx m1.1.2.1
      have g2 := hD (T (val L).1) x m1.1.2.1 hx
      have g3 := hD x y hx hy
      rw [hS x hx, hS y hy, hB, hP]
      have e1 : ((gr_B W val L L + 2 ^ (val L).1 : Nat) : Int) = (gr_B W val L L : Int) + 2 ^ (val L).1 := by
        rw [Int.natCast_add, Int.natCast_pow]; rfl
      rw [e1]
      have e2 : (0 : Int) ≤ 2 ^ (val L).1 := Int.pow_nonneg (by decide)
      omega
    · have hlt : L < n := by have := hL.1; omega
      have hl : fm_live (gm W) n L := ⟨hlt, fun u h1 h2 => hL.2 u h1 (by omega)⟩
      have hS : ∀ v, gm W L v → gr_h W val (n + 1) v = gr_h W val n v := fun v hv => by
        show (if (W n).testBit v = true then gr_h W val n v + (val n).2.2 else gr_h W val n v) = _
        rw [if_neg (show ¬ (W n).testBit v = true from fun h => hL.2 n hlt (by omega) v hv h)]
      have hB : gr_B W val n L ≤ gr_B W val (n + 1) L := by
        show gr_B W val n L ≤ (if decide (W n &&& W L = W n) = true then gr_B W val n L + 2 ^ (val n).1 else gr_B W val n L)
        split
        · exact Nat.le_add_right _ _
        · exact Nat.le_refl _
      have h1 := ih L hl x y hx hy
      rw [hS x hx, hS y hy]
      omega
/-- all powers held lie below 2^60 -/
theorem gr_small {N : Nat → Prop} {F T : Nat → Nat} {o : Nat → Prop} {wt : Nat → Int64} {ak k : Nat} {W : Nat → Nat} {val : Nat → Nat × Int64 × Int} (G : gr N F T o wt ak k W val) (hak : ak ≤ 60) (n : Nat) (hn : n ≤ k) (v : Nat) : -(2 : Int) ^ 60 < gr_h W val n v ∧ gr_h W val n v < 2 ^ 60 := by
  by_cases c1 : ∃ t, t < n ∧ gm W t v
  · obtain ⟨t, ht, h⟩ := c1
    obtain ⟨L, hL, hv⟩ := fm_top G.1 hn ht h
    have h1 := (gr_bd G n hn L hL v v hv hv).1
    have h2 : gr_B W val n L < 2 ^ 60 := pw_sum 60 _ n (fun t ht _ => by have := (G.2 t (by omega)).1.2.1; omega) (fun t ht _ u hu _ he => by
      rcases Nat.lt_trichotomy t u with q | q | q
      · exact absurd he (gr_arc_inj G q (by omega))
      · exact q
      · exact absurd he.symm (gr_arc_inj G q (by omega)))
    omega
  · have h0 : gr_h W val n v = 0 := fs_none n (fun t ht => by
      rcases hq : (W t).testBit v with _ | _
      · rfl
      · exact absurd ⟨t, ht, hq⟩ c1)
    rw [h0]; decide
