/-- the class's numbers: how many come first -/
theorem c_number {ck : Nat} {sm nu by_ : Nat → Int32} {K : Nat → Nat} (hck : ck ≤ 45) (hcf : ∀ i, i < ck → ∀ j, j < ck → (f_X0_comesFirst (sm j) (sm i) = 0 ↔ ¬ K j < K i)) (inj : ∀ s, s < ck → ∀ t, t < ck → K s = K t → s = t) (hby : ∀ j, j < 45 → tq_r 45 (by_ j)) :
    (∀ s, s < ck → (f_X0_numberSets ck sm nu by_).1 s = nI (nb_rk K ck s)) ∧ (∀ s, s < ck → (f_X0_numberSets ck sm nu by_).2 (nb_rk K ck s) = nI s) ∧ ∀ j, j < 45 → tq_r 45 ((f_X0_numberSets ck sm nu by_).2 j) := by
  have h14 : ∀ i, i < ck → ∀ n, n ≤ ck → t_X0_numberSets_14 sm i 0 n = nI (fc (fun j => decide (K j < K i)) n) := by
    intro i hi n
    induction n with
    | zero => intro _; rfl
    | succ n ih =>
      intro hn
      have e1 : t_X0_numberSets_14 sm i 0 (n + 1) = b_X0_numberSets_14 sm i n (t_X0_numberSets_14 sm i 0 n) := rfl
      rw [e1, ih (by omega)]
      unfold b_X0_numberSets_14
      show _ = nI (fc (fun j => decide (K j < K i)) n + (if decide (K n < K i) = true then 1 else 0))
      by_cases c1 : K n < K i
      · rw [if_neg (fun h => (hcf i hi n (by omega)).mp h c1), if_pos (decide_eq_true c1), nI_1]
      · rw [if_pos ((hcf i hi n (by omega)).mpr c1), if_neg (fun h => c1 (of_decide_eq_true h))]; rfl
  have h2 : ∀ n, n ≤ ck → (∀ s, s < n → (t_X0_numberSets_2 ck sm (nu, by_) n).1 s = nI (nb_rk K ck s)) ∧ (∀ s, s < n → (t_X0_numberSets_2 ck sm (nu, by_) n).2 (nb_rk K ck s) = nI s) ∧ ∀ j, j < 45 → tq_r 45 ((t_X0_numberSets_2 ck sm (nu, by_) n).2 j) := by
    intro n
    induction n with
    | zero => intro _; exact ⟨fun s h => absurd h (by omega), fun s h => absurd h (by omega), hby⟩
    | succ n ih =>
      intro hn
      obtain ⟨i1, i2, i3⟩ := ih (by omega)
      have e1 : t_X0_numberSets_2 ck sm (nu, by_) (n + 1) = b_X0_numberSets_2 ck sm n (t_X0_numberSets_2 ck sm (nu, by_) n).1 (t_X0_numberSets_2 ck sm (nu, by_) n).2 := rfl
      have hr : nb_rk K ck n < ck := nb_rk_bd (by omega)
      have e2 : t_X0_numberSets_14 sm n 0 ck = nI (nb_rk K ck n) := h14 n (by omega) ck (Nat.le_refl _)
      rw [e1]
      unfold b_X0_numberSets_2
      rw [e2, tq_x_nI (by omega)]
      dsimp only
      refine ⟨fun s hs => ?_, fun s hs => ?_, fun j hj => ?_⟩
      · by_cases c : s = n
        · subst c; rw [upd_eq]
        · rw [upd_ne c]; exact i1 s (by omega)
      · by_cases c : s = n
        · subst c; rw [upd_eq]
        · rw [upd_ne (fun h => c (nb_rk_inj inj (by omega) (by omega) h))]; exact i2 s (by omega)
      · by_cases c : j = nb_rk K ck n
        · subst c; rw [upd_eq]; exact tq_r_nI (by omega) (by decide)
        · rw [upd_ne c]; exact i3 j hj
  exact h2 ck (Nat.le_refl _)
/-- the inner loop of the reference's sort -/
theorem r_put {mm z : Nat → Int32} {i : Nat} {K : Nat → Nat} (hi : i < 48) (hz : ∀ a, a < i → tq_r i (z a)) (hb : ∀ t, t < i → (f_X4_isBefore mm i t = 0 ↔ ¬ K i < K t)) :
    ∃ (p : Nat) (y : Nat → Int32), t_X4_number_12 mm i (i, z) 48 = (true, p, y) ∧ p ≤ i ∧ (∀ a, a < p → y a = z a) ∧ (∀ a, p < a → a ≤ i → y a = z (a - 1)) ∧ (∀ a, p ≤ a → a < i → K i < K (tq_x (z a))) ∧ (p = 0 ∨ ¬ K i < K (tq_x (z (p - 1)))) := by
  have key : ∀ j, (j ≤ i ∧ ∃ y : Nat → Int32, t_X4_number_12 mm i (i, z) j = (false, i - j, y) ∧ (∀ a, a < i - j → y a = z a) ∧ (∀ a, i - j < a → a ≤ i → y a = z (a - 1)) ∧ (∀ a, i - j ≤ a → a < i → K i < K (tq_x (z a)))) ∨
      ∃ (p : Nat) (y : Nat → Int32), t_X4_number_12 mm i (i, z) j = (true, p, y) ∧ p ≤ i ∧ (∀ a, a < p → y a = z a) ∧ (∀ a, p < a → a ≤ i → y a = z (a - 1)) ∧ (∀ a, p ≤ a → a < i → K i < K (tq_x (z a))) ∧ (p = 0 ∨ ¬ K i < K (tq_x (z (p - 1)))) := by
    intro j
    induction j with
    | zero => exact Or.inl ⟨Nat.zero_le _, z, rfl, fun _ _ => rfl, fun a h1 h2 => absurd h1 (by omega), fun a h1 h2 => absurd h1 (by omega)⟩
    | succ j ih =>
      rcases ih with ⟨hj, y, e1, y1, y2, y3⟩ | ⟨p, y, e1, y1⟩
      · have e2 : t_X4_number_12 mm i (i, z) (j + 1) = b_X4_number_12 mm i j (i - j) y := tq_br_go e1
        unfold b_X4_number_12 at e2
        by_cases c1 : i - j = 0
        · rw [if_pos (by rw [c1]; decide)] at e2
          exact Or.inr ⟨i - j, y, e2, by omega, y1, y2, y3, Or.inl c1⟩
        · rw [if_neg (fun h => c1 (by have := (nI_leI (b := 0) (by omega) (by decide)).mp h; omega)), y1 (i - j - 1) (by omega)] at e2
          have hzr := hz (i - j - 1) (by omega)
          have h3 := hb (tq_x (z (i - j - 1))) hzr.2
          by_cases c2 : K i < K (tq_x (z (i - j - 1)))
          · rw [if_neg (fun h => h3.mp h c2)] at e2
            refine Or.inl ⟨by omega, _, e2, fun a ha => ?_, fun a h1 h2 => ?_, fun a h1 h2 => ?_⟩
            · rw [upd_ne (by omega)]; exact y1 a (by omega)
            · by_cases c3 : a = i - j
              · subst c3; rw [upd_eq]
              · rw [upd_ne c3]; exact y2 a (by omega) h2
            · by_cases c3 : a = i - j - 1
              · subst c3; exact c2
              · exact y3 a (by omega) h2
          · rw [if_pos (h3.mpr c2)] at e2
            exact Or.inr ⟨i - j, y, e2, by omega, y1, y2, y3, Or.inr c2⟩
      · exact Or.inr ⟨p, y, by have := tq_br_end e1 1; exact this, y1⟩
  rcases key 48 with ⟨h, -⟩ | h
  · omega
  · exact h
/-- the reference's order -/
theorem r_number {md : Nat} {mm od : Nat → Int32} {K : Nat → Nat} (hmd : md ≤ 48) (hb : ∀ i, i < md → ∀ t, t < md → (f_X4_isBefore mm i t = 0 ↔ ¬ K i < K t)) (inj : ∀ s, s < md → ∀ t, t < md → K s = K t → s = t) :
    (∀ a, a < md → tq_r md (f_X4_number md mm od a)) ∧ ∀ a b, a < b → b < md → K (tq_x (f_X4_number md mm od a)) < K (tq_x (f_X4_number md mm od b)) := by
  have key : ∀ i, i ≤ md → (∀ a, a < i → tq_r i (t_X4_number_2 mm od i a)) ∧ ∀ a b, a < b → b < i → K (tq_x (t_X4_number_2 mm od i a)) < K (tq_x (t_X4_number_2 mm od i b)) := by
    intro i
    induction i with
    | zero => intro _; exact ⟨fun a h => absurd h (by omega), fun a b h1 h2 => absurd h2 (by omega)⟩
    | succ i ih =>
      intro hi
      obtain ⟨i1, i2⟩ := ih (by omega)
      have e1 : t_X4_number_2 mm od (i + 1) = b_X4_number_2 mm i (t_X4_number_2 mm od i) := by
        unfold t_X4_number_2
        rw [tq_it_succ]
      rw [e1]
      generalize t_X4_number_2 mm od i = z at i1 i2
      obtain ⟨p, y, e2, p1, y1, y2, y3, y4⟩ := r_put (mm := mm) (z := z) (i := i) (K := K) (by omega) i1 (fun t ht => hb i (by omega) t (by omega))
      unfold b_X4_number_2
      rw [e2]
      dsimp only
      have val : ∀ a, a < i + 1 → (a < p ∧ upd y p (nI i) a = z a) ∨ (a = p ∧ upd y p (nI i) a = nI i) ∨ (p < a ∧ upd y p (nI i) a = z (a - 1)) := fun a ha => by
        by_cases c : a = p
        · subst c; exact Or.inr (Or.inl ⟨rfl, upd_eq⟩)
        · by_cases d : a < p
          · exact Or.inl ⟨d, by rw [upd_ne c]; exact y1 a d⟩
          · exact Or.inr (Or.inr ⟨by omega, by rw [upd_ne c]; exact y2 a (by omega) (by omega)⟩)
      have low : ∀ a, a < p → K (tq_x (z a)) < K i := fun a ha => by
        have h5 : ¬ K i < K (tq_x (z (p - 1))) := by
          rcases y4 with h | h
          · omega
          · exact h
        have h6 : K (tq_x (z (p - 1))) ≠ K i := fun h => by
          have h7 := inj _ (Nat.lt_of_lt_of_le (i1 (p - 1) (by omega)).2 (by omega)) i (by omega) h
          have h8 := (i1 (p - 1) (by omega)).2
          omega
        by_cases c : a = p - 1
        · subst c; omega
        · have := i2 a (p - 1) (by omega) (by omega)
          omega
      refine ⟨fun a ha => ?_, fun a b hab hb2 => ?_⟩
      · rcases val a ha with ⟨h, e⟩ | ⟨h, e⟩ | ⟨h, e⟩
        · rw [e]; exact tq_r_mono (i1 a (by omega)) (by omega)
        · rw [e]; exact tq_r_nI (by omega) (by omega)
        · rw [e]; exact tq_r_mono (i1 (a - 1) (by omega)) (by omega)
      · rcases val a (by omega) with ⟨h, e⟩ | ⟨h, e⟩ | ⟨h, e⟩ <;> rcases val b hb2 with ⟨h', e'⟩ | ⟨h', e'⟩ | ⟨h', e'⟩ <;> rw [e, e']
        · exact i2 a b hab (by omega)
        · rw [tq_x_nI (by omega)]; exact low a h
        · exact i2 a (b - 1) (by omega) (by omega)
        · omega
        · omega
        · rw [tq_x_nI (by omega)]; exact y3 (b - 1) (by omega) (by omega)
        · omega
        · omega
        · exact i2 (a - 1) (b - 1) (by omega) (by omega)
  exact key md (Nat.le_refl _)
/-- numberOf finds the place of a set -/
theorem r_place {od : Nat → Int32} {x : Int32} {k : Nat} (hk : k < 48) (h : od k = x) (hd : ∀ a, a < k → od a ≠ x) : q_num od x ∧ f_X4_numberOf od x = nI k := by
  have key : ∀ i, i ≤ k → t_X4_numberOf_2 od x 0 i = (false, i) := by
    intro i
    induction i with
    | zero => intro _; rfl
    | succ i ih =>
      intro hi
      have e1 : t_X4_numberOf_2 od x 0 (i + 1) = b_X4_numberOf_2 od x i i := tq_br_go (ih (by omega))
      rw [e1]
      unfold b_X4_numberOf_2
      rw [if_neg (hd i (by omega))]
  have e2 : t_X4_numberOf_2 od x 0 48 = (true, k) := by
    refine tq_br_stop (key k (Nat.le_refl _)) ?_ hk
    show b_X4_numberOf_2 od x k k = _
    unfold b_X4_numberOf_2
    rw [if_pos h]
  unfold q_num f_X4_numberOf
  rw [e2]
  exact ⟨rfl, rfl⟩
