/-! Counting, and the nodes that can be reached: the class's bits and the reference's row say the same. -/
def fc (p : Nat → Bool) : Nat → Nat
  | 0 => 0
  | n + 1 => fc p n + (if p n = true then 1 else 0)
theorem fc_le (p : Nat → Bool) : ∀ n, fc p n ≤ n := by
  intro n
  induction n with
  | zero => exact Nat.le_refl _
  | succ n ih =>
    show fc p n + (if p n = true then 1 else 0) ≤ n + 1
    split <;> omega
theorem fc_congr {p q : Nat → Bool} : ∀ n, (∀ v, v < n → p v = q v) → fc p n = fc q n := by
  intro n
  induction n with
  | zero => intro _; rfl
  | succ n ih =>
    intro h
    show fc p n + (if p n = true then 1 else 0) = fc q n + (if q n = true then 1 else 0)
    rw [ih (fun v hv => h v (by omega)), h n (by omega)]
theorem fc_mono {p q : Nat → Bool} : ∀ n, (∀ v, v < n → p v = true → q v = true) → fc p n ≤ fc q n := by
  intro n
  induction n with
  | zero => intro _; exact Nat.le_refl _
  | succ n ih =>
    intro h
    have h1 := ih (fun v hv => h v (by omega))
    have h2 := h n (by omega)
    show fc p n + (if p n = true then 1 else 0) ≤ fc q n + (if q n = true then 1 else 0)
    by_cases c1 : p n = true
    · rw [if_pos c1, if_pos (h2 c1)]; omega
    · rw [if_neg c1]; omega
theorem fc_lt {p q : Nat → Bool} {u : Nat} : ∀ n, (∀ v, v < n → p v = true → q v = true) → u < n → p u = false → q u = true → fc p n < fc q n := by
  intro n
  induction n with
  | zero => intro _ h; exact absurd h (by omega)
  | succ n ih =>
    intro h hu h1 h2
    show fc p n + (if p n = true then 1 else 0) < fc q n + (if q n = true then 1 else 0)
    by_cases c1 : u = n
    · have h3 := fc_mono n (fun v hv => h v (by omega))
      rw [← c1, h1, h2] at *
      rw [if_neg Bool.false_ne_true, if_pos rfl]; omega
    · have h3 := ih (fun v hv => h v (by omega)) (by omega) h1 h2
      have h4 := h n (by omega)
      by_cases c2 : p n = true
      · rw [if_pos c2, if_pos (h4 c2)]; omega
      · rw [if_neg c2]; omega
theorem fc_pos {p : Nat → Bool} {u n : Nat} (hu : u < n) (h : p u = true) : 0 < fc p n := by
  have h1 := fc_lt (p := fun _ => false) (q := p) (u := u) n (fun _ _ h => absurd h Bool.false_ne_true) hu rfl h
  omega
theorem tb_pc_fc (w : Nat) : ∀ n, tb_pc w n = fc (fun v => w.testBit v) n := by
  intro n
  induction n with
  | zero => rfl
  | succ n ih =>
    show tb_pc w n + w / 2 ^ n % 2 = fc (fun v => w.testBit v) n + (if w.testBit n = true then 1 else 0)
    rw [ih, tb_test]
    by_cases c1 : w / 2 ^ n % 2 = 1
    · rw [if_pos (decide_eq_true c1), c1]
    · rw [if_neg (by rw [decide_eq_false c1]; exact Bool.false_ne_true)]; omega
theorem fc_bits {w n : Nat} (hn : n ≤ 24) (h : ∀ v, w.testBit v = true → v < n) : fc (fun v => w.testBit v) 24 = fc (fun v => w.testBit v) n := by
  have h1 : ∀ k, n + k ≤ 24 → fc (fun v => w.testBit v) (n + k) = fc (fun v => w.testBit v) n := by
    intro k
    induction k with
    | zero => intro _; rfl
    | succ k ih =>
      intro hk
      show fc (fun v => w.testBit v) (n + k) + (if w.testBit (n + k) = true then 1 else 0) = _
      rw [ih (by omega), if_neg (fun h2 => absurd (h _ h2) (by omega))]; rfl
  have h2 := h1 (24 - n) (by omega)
  rw [show n + (24 - n) = 24 by omega] at h2
  exact h2
theorem fb_holds {w : Nat} {v : Int32} (hw : w < 2 ^ 24) (hv : tq_r 24 v) : f_X3_holds (nI w) v = if w.testBit (tq_x v) = true then 1 else 0 := by
  have e1 : (nI w >>> (v &&& 31)) &&& 1 = nI (w / 2 ^ tq_x v % 2) := by
    have e2 := tb_bit hw hv.2
    rw [← hv.1] at e2
    exact e2
  unfold f_X3_holds
  rw [e1, tb_test]
  by_cases c1 : w / 2 ^ tq_x v % 2 = 1
  · rw [c1, if_pos (by decide), if_pos (by decide)]
  · rw [show w / 2 ^ tq_x v % 2 = 0 by omega, if_neg (by decide), if_neg (by decide)]
theorem fb_holds0 {w : Nat} {v : Int32} (hw : w < 2 ^ 24) (hv : tq_r 24 v) : f_X3_holds (nI w) v = 0 ↔ w.testBit (tq_x v) = false := by
  rw [fb_holds hw hv]
  cases w.testBit (tq_x v)
  · exact ⟨fun _ => rfl, fun _ => rfl⟩
  · exact ⟨fun h => absurd h (by decide), fun h => absurd h.symm Bool.false_ne_true⟩
theorem fb_lt {w n : Nat} (hw : w < 2 ^ 24) (hn : n < 24) : w ||| 2 ^ n < 2 ^ 24 := Nat.or_lt_two_pow hw (Nat.pow_lt_pow_right (by decide) hn)
theorem fb_or {w n : Nat} {v : Int32} (hw : w < 2 ^ 24) (hv : tq_r 24 v) : nI w ||| (1 <<< (v &&& 31)) = nI (w ||| 2 ^ tq_x v) := by
  have e1 : (1 : Int32) <<< (v &&& 31) = nI (2 ^ tq_x v) := by
    have e2 := tb_one (tq_x v) (by have := hv.2; omega)
    rw [← hv.1] at e2
    exact e2
  have h1 : 2 ^ tq_x v < 2 ^ 24 := Nat.pow_lt_pow_right (by decide) hv.2
  rw [e1, tb_or (by omega) (by omega)]
theorem fb_tb (w n v : Nat) : (w ||| 2 ^ n).testBit v = true ↔ w.testBit v = true ∨ v = n := by
  rw [Nat.testBit_or, Nat.testBit_two_pow, Bool.or_eq_true, decide_eq_true_eq]
  exact ⟨fun h => h.elim Or.inl (fun h => Or.inr h.symm), fun h => h.elim Or.inl (fun h => Or.inr h.symm)⟩
/-- one round of the class over the first j arcs, on numbers -/
def fb_rd (F T : Nat → Nat) (o : Nat → Prop) [DecidablePred o] (w : Nat) : Nat → Nat
  | 0 => w
  | j + 1 => if o j ∧ (fb_rd F T o w j).testBit (F j) = true then fb_rd F T o w j ||| 2 ^ T j else fb_rd F T o w j
section Reach
variable {F T : Nat → Nat} {o : Nat → Prop}
theorem fb_rd_mono [DecidablePred o] {w v : Nat} : ∀ j, (fb_rd F T o w j).testBit v = true → (fb_rd F T o w (j + 1)).testBit v = true := by
  intro j h
  show (if o j ∧ (fb_rd F T o w j).testBit (F j) = true then fb_rd F T o w j ||| 2 ^ T j else fb_rd F T o w j).testBit v = true
  split
  · exact (fb_tb _ _ _).mpr (Or.inl h)
  · exact h
theorem fb_rd_mono2 [DecidablePred o] {w v : Nat} : ∀ n j, (fb_rd F T o w j).testBit v = true → (fb_rd F T o w (j + n)).testBit v = true := by
  intro n
  induction n with
  | zero => intro j h; exact h
  | succ n ih => intro j h; exact fb_rd_mono _ (ih j h)
theorem fb_rd_in [DecidablePred o] {w : Nat} {X : Nat → Prop} {a : Nat} (h0 : ∀ v, w.testBit v = true → X v) (h1 : ∀ j, j < a → o j → X (F j) → X (T j)) : ∀ j, j ≤ a → ∀ v, (fb_rd F T o w j).testBit v = true → X v := by
  intro j
  induction j with
  | zero => intro _ v h; exact h0 v h
  | succ j ih =>
    intro hj v h
    have ih := ih (by omega)
    have h : (if o j ∧ (fb_rd F T o w j).testBit (F j) = true then fb_rd F T o w j ||| 2 ^ T j else fb_rd F T o w j).testBit v = true := h
    split at h
    · rename_i c1
      rcases (fb_tb _ _ _).mp h with h2 | h2
      · exact ih v h2
      · rw [h2]; exact h1 j (by omega) c1.1 (ih _ c1.2)
    · exact ih v h
theorem fb_rd_fix [DecidablePred o] {w a : Nat} (h : fb_rd F T o w a = w) : ∀ j, j < a → o j → w.testBit (F j) = true → w.testBit (T j) = true := by
  intro j hj ho hF
  have e1 : ∀ i, i ≤ a → fb_rd F T o w i = w := fun i hi => by
    apply Nat.eq_of_testBit_eq
    intro v
    rcases hq : w.testBit v with _ | _
    · rcases hq2 : (fb_rd F T o w i).testBit v with _ | _
      · rfl
      · have h2 := fb_rd_mono2 (F := F) (T := T) (o := o) (w := w) (v := v) (a - i) i hq2
        rw [show i + (a - i) = a by omega, h, hq] at h2
        exact absurd h2 Bool.false_ne_true
    · have h2 := fb_rd_mono2 (F := F) (T := T) (o := o) (w := w) (v := v) i 0 hq
      rw [Nat.zero_add] at h2
      exact h2
  have h3 : fb_rd F T o w (j + 1) = w := e1 (j + 1) hj
  have h4 : (if o j ∧ (fb_rd F T o w j).testBit (F j) = true then fb_rd F T o w j ||| 2 ^ T j else fb_rd F T o w j) = w := h3
  rw [e1 j (by omega), if_pos ⟨ho, hF⟩] at h4
  rw [← h4]
  exact (fb_tb _ _ _).mpr (Or.inr rfl)
/-- all rounds -/
def fb_all (F T : Nat → Nat) (o : Nat → Prop) [DecidablePred o] (a w : Nat) : Nat → Nat
  | 0 => w
  | i + 1 => fb_rd F T o (fb_all F T o a w i) a
/-- the nodes that can be reached from r by the arcs below a that are open -/
def fb_R (F T : Nat → Nat) (o : Nat → Prop) (a r v : Nat) : Prop := ∀ X : Nat → Prop, X r → (∀ j, j < a → o j → X (F j) → X (T j)) → X v
theorem fb_R0 {a r : Nat} : fb_R F T o a r r := fun _ h _ => h
theorem fb_Rs {a r j : Nat} (hj : j < a) (ho : o j) (h : fb_R F T o a r (F j)) : fb_R F T o a r (T j) := fun X h0 h1 => h1 j hj ho (h X h0 h1)
theorem fb_all_in [DecidablePred o] {a r : Nat} : ∀ i v, (fb_all F T o a (2 ^ r) i).testBit v = true → fb_R F T o a r v := by
  intro i
  induction i with
  | zero =>
    intro v h
    have h : (2 ^ r).testBit v = true := h
    rw [Nat.testBit_two_pow, decide_eq_true_eq] at h
    rw [← h]; exact fb_R0
  | succ i ih =>
    intro v h
    exact fb_rd_in ih (fun j hj ho h => fb_Rs hj ho h) a (Nat.le_refl _) v h
theorem fb_all_root [DecidablePred o] {a r : Nat} : ∀ i, (fb_all F T o a (2 ^ r) i).testBit r = true := by
  intro i
  induction i with
  | zero =>
    show (2 ^ r).testBit r = true
    rw [Nat.testBit_two_pow, decide_eq_true_eq]
  | succ i ih =>
    have h := fb_rd_mono2 (F := F) (T := T) (o := o) (w := fb_all F T o a (2 ^ r) i) (v := r) a 0 ih
    rw [Nat.zero_add] at h
    exact h
theorem fb_R_lt {a r n v : Nat} (hr : r < n) (hT : ∀ j, j < a → T j < n) (h : fb_R F T o a r v) : v < n := h (fun v => v < n) hr (fun j hj _ _ => hT j hj)
theorem fb_all_fix [DecidablePred o] {a r n : Nat} (hn : n ≤ 24) (hr : r < n) (hT : ∀ j, j < a → T j < n) : fb_rd F T o (fb_all F T o a (2 ^ r) n) a = fb_all F T o a (2 ^ r) n := by
  have key : ∀ i, fb_rd F T o (fb_all F T o a (2 ^ r) i) a = fb_all F T o a (2 ^ r) i ∨ i + 1 ≤ fc (fun v => (fb_all F T o a (2 ^ r) i).testBit v) n := by
    intro i
    induction i with
    | zero => exact Or.inr (fc_pos hr (fb_all_root 0))
    | succ i ih =>
      rcases ih with h | h
      · refine Or.inl ?_
        show fb_rd F T o (fb_rd F T o (fb_all F T o a (2 ^ r) i) a) a = fb_rd F T o (fb_all F T o a (2 ^ r) i) a
        rw [h, h]
      · by_cases c1 : fb_rd F T o (fb_all F T o a (2 ^ r) i) a = fb_all F T o a (2 ^ r) i
        · refine Or.inl ?_
          show fb_rd F T o (fb_rd F T o (fb_all F T o a (2 ^ r) i) a) a = fb_rd F T o (fb_all F T o a (2 ^ r) i) a
          rw [c1, c1]
        · refine Or.inr ?_
          have hsub : ∀ v, (fb_all F T o a (2 ^ r) i).testBit v = true → (fb_all F T o a (2 ^ r) (i + 1)).testBit v = true := fun v hv => by
            have h2 := fb_rd_mono2 (F := F) (T := T) (o := o) (w := fb_all F T o a (2 ^ r) i) (v := v) a 0 hv
            rw [Nat.zero_add] at h2
            exact h2
          obtain ⟨u, hu1, hu2⟩ : ∃ u, (fb_all F T o a (2 ^ r) i).testBit u = false ∧ (fb_all F T o a (2 ^ r) (i + 1)).testBit u = true := by
            refine Classical.byContradiction fun hno => c1 ?_
            apply Nat.eq_of_testBit_eq
            intro v
            rcases hq : (fb_all F T o a (2 ^ r) i).testBit v with _ | _
            · rcases hq2 : (fb_rd F T o (fb_all F T o a (2 ^ r) i) a).testBit v with _ | _
              · rfl
              · exact absurd ⟨v, hq, hq2⟩ hno
            · exact hsub v hq
          have h3 := fc_lt (p := fun v => (fb_all F T o a (2 ^ r) i).testBit v) (q := fun v => (fb_all F T o a (2 ^ r) (i + 1)).testBit v) (u := u) n (fun v _ => hsub v) (fb_R_lt hr hT (fb_all_in _ _ hu2)) hu1 hu2
          omega
  rcases key n with h | h
  · exact h
  · have := fc_le (fun v => (fb_all F T o a (2 ^ r) n).testBit v) n
    omega
theorem fb_all_iff [DecidablePred o] {a r n : Nat} (hn : n ≤ 24) (hr : r < n) (hT : ∀ j, j < a → T j < n) (v : Nat) : (fb_all F T o a (2 ^ r) n).testBit v = true ↔ fb_R F T o a r v :=
  ⟨fb_all_in n v, fun h => h (fun v => (fb_all F T o a (2 ^ r) n).testBit v = true) (fb_all_root n) (fb_rd_fix (fb_all_fix hn hr hT))⟩
end Reach
