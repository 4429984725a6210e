/-! Sums over the sets of a family, whatever their order; the first of the least. -/
def fs {α : Type} [Add α] (z : α) (p : Nat → Bool) (f : Nat → α) : Nat → α
  | 0 => z
  | n + 1 => if p n = true then fs z p f n + f n else fs z p f n
section Sums
theorem fs_congr {α : Type} [Add α] {z : α} {p q : Nat → Bool} {f g : Nat → α} : ∀ n, (∀ t, t < n → p t = q t) → (∀ t, t < n → p t = true → f t = g t) → fs z p f n = fs z q g n := by
  intro n
  induction n with
  | zero => intro _ _; rfl
  | succ n ih =>
    intro h1 h2
    show (if p n = true then fs z p f n + f n else fs z p f n) = (if q n = true then fs z q g n + g n else fs z q g n)
    rw [ih (fun t ht => h1 t (by omega)) (fun t ht => h2 t (by omega)), ← h1 n (by omega)]
    by_cases c1 : p n = true
    · rw [if_pos c1, if_pos c1, h2 n (by omega) c1]
    · rw [if_neg c1, if_neg c1]
theorem fs_none {α : Type} [Add α] {z : α} {p : Nat → Bool} {f : Nat → α} : ∀ n, (∀ t, t < n → p t = false) → fs z p f n = z := by
  intro n
  induction n with
  | zero => intro _; rfl
  | succ n ih =>
    intro h
    show (if p n = true then fs z p f n + f n else fs z p f n) = z
    rw [if_neg (by rw [h n (by omega)]; exact Bool.false_ne_true), ih (fun t ht => h t (by omega))]
def fs_but (p : Nat → Bool) (u : Nat) : Nat → Bool := fun t => p t && !(t == u)
theorem fs_but_ne {p : Nat → Bool} {u t : Nat} (h : t ≠ u) : fs_but p u t = p t := by
  unfold fs_but
  rw [beq_eq_false_iff_ne.mpr h, Bool.not_false, Bool.and_true]
theorem fs_but_eq {p : Nat → Bool} {u : Nat} : fs_but p u u = false := by
  unfold fs_but
  rw [beq_self_eq_true, Bool.not_true, Bool.and_false]
theorem fs_but_t {p : Nat → Bool} {u t : Nat} (h : fs_but p u t = true) : p t = true ∧ t ≠ u := by
  by_cases c1 : t = u
  · rw [c1, fs_but_eq] at h; exact absurd h Bool.false_ne_true
  · rw [fs_but_ne c1] at h; exact ⟨h, c1⟩
theorem fs_out {α : Type} [Add α] {z : α} (ha : ∀ a b c : α, a + b + c = a + (b + c)) (hc : ∀ a b : α, a + b = b + a) {p : Nat → Bool} {f : Nat → α} {u : Nat} : ∀ n, u < n → p u = true → fs z p f n = fs z (fs_but p u) f n + f u := by
  intro n
  induction n with
  | zero => intro h; exact absurd h (by omega)
  | succ n ih =>
    intro hu hp
    show (if p n = true then fs z p f n + f n else fs z p f n) = (if fs_but p u n = true then fs z (fs_but p u) f n + f n else fs z (fs_but p u) f n) + f u
    by_cases c1 : u = n
    · subst c1
      have e1 : fs z p f u = fs z (fs_but p u) f u := fs_congr u (fun t ht => (fs_but_ne (u := u) (by omega)).symm) (fun _ _ _ => rfl)
      rw [if_pos hp, fs_but_eq, if_neg Bool.false_ne_true, e1]
    · rw [fs_but_ne (fun h => c1 h.symm)]
      have h1 := ih (by omega) hp
      by_cases c2 : p n = true
      · rw [if_pos c2, if_pos c2, h1, ha, hc (f u), ← ha]
      · rw [if_neg c2, if_neg c2, h1]
/-- the sum doesn't hang on the order -/
theorem fs_bij {α : Type} [Add α] {z : α} (ha : ∀ a b c : α, a + b + c = a + (b + c)) (hc : ∀ a b : α, a + b = b + a) {p : Nat → Bool} {f f' : Nat → α} {m : Nat} {g : Nat → Nat} : ∀ (n : Nat) (q : Nat → Bool), (∀ t, t < n → p t = true → g t < m ∧ q (g t) = true ∧ f t = f' (g t)) →
    (∀ t, t < n → p t = true → ∀ u, u < n → p u = true → g t = g u → t = u) → (∀ u, u < m → q u = true → ∃ t, t < n ∧ p t = true ∧ g t = u) → fs z p f n = fs z q f' m := by
  intro n
  induction n with
  | zero =>
    intro q _ _ h3
    refine (fs_none m (fun u hu => ?_)).symm
    rcases hq : q u with _ | _
    · rfl
    · obtain ⟨t, ht, _⟩ := h3 u hu hq
      exact absurd ht (by omega)
  | succ n ih =>
    intro q h1 h2 h3
    show (if p n = true then fs z p f n + f n else fs z p f n) = fs z q f' m
    by_cases c1 : p n = true
    · obtain ⟨g1, g2, g3⟩ := h1 n (by omega) c1
      rw [if_pos c1, fs_out ha hc m g1 g2, ih (fs_but q (g n)) (fun t ht hp => ?_) (fun t ht hp u hu => h2 t (by omega) hp u (by omega)) (fun u hu hq => ?_), g3]
      · obtain ⟨k1, k2, k3⟩ := h1 t (by omega) hp
        exact ⟨k1, by rw [fs_but_ne (fun h => by have := h2 t (by omega) hp n (by omega) c1 h; omega)]; exact k2, k3⟩
      · obtain ⟨hq1, hq2⟩ := fs_but_t hq
        obtain ⟨t, ht, hp, hg⟩ := h3 u hu hq1
        by_cases c2 : t = n
        · subst c2; exact absurd hg.symm hq2
        · exact ⟨t, by omega, hp, hg⟩
    · rw [if_neg c1]
      refine ih q (fun t ht => h1 t (by omega)) (fun t ht hp u hu => h2 t (by omega) hp u (by omega)) (fun u hu hq => ?_)
      obtain ⟨t, ht, hp, hg⟩ := h3 u hu hq
      by_cases c2 : t = n
      · subst c2; exact absurd hp c1
      · exact ⟨t, by omega, hp, hg⟩
end Sums
/-- an injection of the numbers below n into those below m -/
theorem fs_inj {n m : Nat} {g : Nat → Nat} (h1 : ∀ t, t < n → g t < m) (h2 : ∀ t, t < n → ∀ u, u < n → g t = g u → t = u) : n ≤ m := by
  induction n generalizing m g with
  | zero => exact Nat.zero_le _
  | succ n ih =>
    obtain ⟨m', rfl⟩ : ∃ m', m = m' + 1 := ⟨m - 1, by have := h1 n (by omega); omega⟩
    have hn := h1 n (by omega)
    have h3 := ih (m := m') (g := fun t => if g t = m' then g n else g t) (fun t ht => by
      have a1 := h1 t (by omega)
      have a2 : g t ≠ g n := fun h => by have := h2 t (by omega) n (by omega) h; omega
      show (if g t = m' then g n else g t) < m'
      split <;> omega) (fun t ht u hu h => by
      have h : (if g t = m' then g n else g t) = (if g u = m' then g n else g u) := h
      have a2 : g t ≠ g n := fun h => by have := h2 t (by omega) n (by omega) h; omega
      have a3 : g u ≠ g n := fun h => by have := h2 u (by omega) n (by omega) h; omega
      refine h2 t (by omega) u (by omega) ?_
      split at h <;> split at h <;> omega)
    omega
/-- pairs of a weight and a power, the weight first -/
def fk_lt (x y : Int64 × Int) : Prop := x.1.toInt < y.1.toInt ∨ (x.1.toInt = y.1.toInt ∧ x.2 < y.2)
theorem fk_irr (x : Int64 × Int) : ¬ fk_lt x x := by unfold fk_lt; omega
theorem fk_neg {x y z : Int64 × Int} (h1 : ¬ fk_lt x y) (h2 : fk_lt z y) : fk_lt z x := by unfold fk_lt at *; omega
theorem fk_tr {x y z : Int64 × Int} (h1 : fk_lt x y) (h2 : fk_lt y z) : fk_lt x z := by unfold fk_lt at *; omega
/-- b is the first of the least among the first n -/
def fk_min (en : Nat → Prop) (key : Nat → Int64 × Int) (n b : Nat) : Prop := en b ∧ b < n ∧ (∀ i, i < n → en i → ¬ fk_lt (key i) (key b)) ∧ ∀ i, i < b → en i → fk_lt (key b) (key i)
theorem fk_one {en : Nat → Prop} {key : Nat → Int64 × Int} {n b c : Nat} (h1 : fk_min en key n b) (h2 : fk_min en key n c) : b = c := by
  rcases Nat.lt_trichotomy b c with q | q | q
  · exact absurd (h2.2.2.2 b q h1.1) (h1.2.2.1 c h2.2.1 h2.1)
  · exact q
  · exact absurd (h1.2.2.2 c q h2.1) (h2.2.2.1 b h1.2.1 h1.1)
theorem fk_congr {en en' : Nat → Prop} {key key' : Nat → Int64 × Int} {n b : Nat} (he : ∀ i, i < n → (en i ↔ en' i)) (hk : ∀ i, i < n → en i → key i = key' i) (h : fk_min en key n b) : fk_min en' key' n b := by
  obtain ⟨h1, h2, h3, h4⟩ := h
  refine ⟨(he b h2).mp h1, h2, fun i hi hei => ?_, fun i hi hei => ?_⟩
  · have h5 := (he i hi).mpr hei
    rw [← hk i hi h5, ← hk b h2 h1]
    exact h3 i hi h5
  · have h5 := (he i (by omega)).mpr hei
    rw [← hk i (by omega) h5, ← hk b h2 h1]
    exact h4 i hi h5
theorem fk_skip {en : Nat → Prop} {key : Nat → Int64 × Int} {n b : Nat} (h : fk_min en key n b) (hn : en n → ¬ fk_lt (key n) (key b)) : fk_min en key (n + 1) b := by
  refine ⟨h.1, by have := h.2.1; omega, fun i hi hei => ?_, h.2.2.2⟩
  by_cases c1 : i = n
  · subst c1; exact hn hei
  · exact h.2.2.1 i (by omega) hei
theorem fk_take {en : Nat → Prop} {key : Nat → Int64 × Int} {n b : Nat} (h : fk_min en key n b) (hn : en n) (hl : fk_lt (key n) (key b)) : fk_min en key (n + 1) n := by
  refine ⟨hn, by omega, fun i hi hei => ?_, fun i hi hei => fk_neg (h.2.2.1 i hi hei) hl⟩
  by_cases c1 : i = n
  · subst c1; exact fk_irr _
  · exact fun h9 => h.2.2.1 i (by omega) hei (fk_tr h9 hl)
theorem fk_first {en : Nat → Prop} {key : Nat → Int64 × Int} {n : Nat} (h : ∀ i, i < n → ¬ en i) (hn : en n) : fk_min en key (n + 1) n := by
  refine ⟨hn, by omega, fun i hi hei => ?_, fun i hi hei => absurd hei (h i hi)⟩
  by_cases c1 : i = n
  · subst c1; exact fk_irr _
  · exact absurd hei (h i (by omega))
