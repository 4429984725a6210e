/-! Numbering of the sets: by counting, and by insertion. -/
theorem lb_low {w v : Nat} (hw : w < 2 ^ 24) (h : w.testBit v = true) (hl : ∀ u, u < v → w.testBit u = false) : f_X0_lowestBit (nI w) = nI (2 ^ v) := by
  have h0 : w % 2 ^ v = 0 := by
    refine Nat.eq_of_testBit_eq (fun i => ?_)
    rw [Nat.testBit_mod_two_pow, Nat.zero_testBit]
    by_cases c : i < v
    · rw [hl i c, Bool.and_false]
    · rw [decide_eq_false c, Bool.false_and]
  rw [tb_test] at h
  have h1 : w / 2 ^ v % 2 = 1 := of_decide_eq_true h
  have hp : 0 < 2 ^ v := Nat.two_pow_pos v
  obtain ⟨m, hm⟩ : ∃ m, w / 2 ^ v = 2 * m + 1 := ⟨w / 2 ^ v / 2, by omega⟩
  have hw2 : w = 2 ^ v * (2 * m + 1) + 0 := by
    have h2 := Nat.div_add_mod w (2 ^ v)
    rw [h0, hm] at h2
    exact h2.symm
  have hq : 2 ^ v * (2 * m + 1) = 2 ^ v * (2 * m) + 2 ^ v := by rw [Nat.mul_add, Nat.mul_one]
  have hw3 : w - 1 = 2 ^ v * (2 * m) + (2 ^ v - 1) := by
    generalize 2 ^ v * (2 * m + 1) = x at hw2 hq
    generalize 2 ^ v * (2 * m) = y at hq ⊢
    generalize 2 ^ v = z at hp hq ⊢
    omega
  have hpos : 0 < w := by
    generalize 2 ^ v * (2 * m + 1) = x at hw2 hq
    generalize 2 ^ v * (2 * m) = y at hq
    generalize 2 ^ v = z at hp hq
    omega
  show nI w &&& -(nI w) = nI (2 ^ v)
  refine tb_eq ?_
  rw [Int32.toBitVec_and, BitVec.toNat_and, Int32.toBitVec_neg, BitVec.toNat_neg_of_pos (BitVec.lt_def.mpr (by rw [tb_tn (by omega)]; exact hpos)), tb_tn (by omega)]
  refine Nat.eq_of_testBit_eq (fun i => ?_)
  rw [Nat.testBit_and, Nat.testBit_two_pow, show 2 ^ 32 - w = 2 ^ 32 - ((w - 1) + 1) by omega, Nat.testBit_two_pow_sub_succ (by omega), hw3]
  have e1 : w.testBit i = (2 ^ v * (2 * m + 1) + 0).testBit i := congrArg (fun x => Nat.testBit x i) hw2
  rw [e1, Nat.testBit_two_pow_mul_add _ hp, Nat.testBit_two_pow_mul_add _ (show 2 ^ v - 1 < 2 ^ v by omega)]
  by_cases c : i < v
  · rw [if_pos c, if_pos c, Nat.zero_testBit, Bool.false_and, decide_eq_false (by omega)]
  · rw [if_neg c, if_neg c]
    by_cases c2 : v = i
    · subst c2
      have hv : v < 32 := by
        refine Nat.lt_of_not_le (fun h3 => ?_)
        have h4 : w / 2 ^ v = 0 := Nat.div_eq_of_lt (Nat.lt_of_lt_of_le hw (Nat.pow_le_pow_right (by decide) (by omega)))
        omega
      rw [Nat.sub_self, Nat.testBit_zero, Nat.testBit_zero, decide_eq_true (show (2 * m + 1) % 2 = 1 by omega), decide_eq_false (show ¬ (2 * m) % 2 = 1 by omega), decide_eq_true hv, decide_eq_true rfl]
      rfl
    · obtain ⟨j, hj⟩ : ∃ j, i - v = j + 1 := ⟨i - v - 1, by omega⟩
      rw [hj, Nat.testBit_succ, Nat.testBit_succ, show (2 * m + 1) / 2 = m by omega, show (2 * m) / 2 = m by omega, decide_eq_false c2]
      rcases m.testBit j with _ | _
      · rfl
      · rw [Bool.not_true, Bool.and_false, Bool.and_false]
theorem lb_pc_lt {a b x : Nat} (h : ∀ v, a.testBit v = true → b.testBit v = true) (hx : x < 24) (h1 : b.testBit x = true) (h2 : ¬ a.testBit x = true) : tb_pc a 24 < tb_pc b 24 := by
  rw [tb_pc_fc, tb_pc_fc]
  exact fc_lt (u := x) 24 (fun v _ => h v) hx (by cases q : a.testBit x with
    | false => rfl
    | true => exact absurd q h2) h1
theorem lb_pc_le (a : Nat) : tb_pc a 24 ≤ 24 := by
  rw [tb_pc_fc]; exact fc_le _ 24
/-- the place of a set in the order: its size, then its least node -/
def nb_K (W L : Nat → Nat) (s : Nat) : Nat := 32 * tb_pc (W s) 24 + L s
def nb_L (W L : Nat → Nat) (k : Nat) : Prop := ∀ s, s < k → W s < 2 ^ 24 ∧ L s < 24 ∧ (W s).testBit (L s) = true ∧ ∀ u, u < L s → (W s).testBit u = false
theorem nb_has {N : Nat → Prop} {k : Nat} {W F : Nat → Nat} (R : fm_run N k (gm W) F) (hW : ∀ s, s < k → W s < 2 ^ 24) (hN : ∀ v, N v → v < 24) : ∃ L, nb_L W L k := by
  have h1 : ∀ s, ∃ v, s < k → v < 24 ∧ (W s).testBit v = true ∧ ∀ u, u < v → (W s).testBit u = false := fun s => by
    by_cases q : s < k
    · obtain ⟨v, hv, hl⟩ := fm_least (R.1 s q)
      refine ⟨v, fun _ => ⟨hN v (R.2.1 s q v hv), hv, fun u hu => ?_⟩⟩
      cases c : (W s).testBit u with
      | false => rfl
      | true => exact absurd c (hl u hu)
    · exact ⟨0, fun h => absurd h q⟩
  exact ⟨fun s => Classical.choose (h1 s), fun s hs => ⟨hW s hs, Classical.choose_spec (h1 s) hs⟩⟩
theorem nb_inj {N : Nat → Prop} {k : Nat} {W L F : Nat → Nat} (R : fm_run N k (gm W) F) (hN : ∀ v, N v → v < 24) (hL : nb_L W L k) {s t : Nat} (hs : s < k) (ht : t < k) (h : nb_K W L s = nb_K W L t) : s = t := by
  have key : ∀ s t, s < k → t < k → nb_K W L s = nb_K W L t → s < t → False := fun s t hs ht h c => by
    obtain ⟨a1, a2, a3, a4⟩ := hL s hs
    obtain ⟨b1, b2, b3, b4⟩ := hL t ht
    unfold nb_K at h
    have e1 : L s = L t := by omega
    have e2 : tb_pc (W s) 24 = tb_pc (W t) 24 := by omega
    rw [← e1] at b3
    have hsub := fm_abs R t s (L s) c ht a3 b3
    obtain ⟨x, hx1, hx2⟩ := fm_more R c ht a3 b3
    have := lb_pc_lt hsub (hN x (R.2.1 t ht x hx1)) hx1 hx2
    omega
  rcases Nat.lt_trichotomy s t with c | c | c
  · exact absurd (key s t hs ht h c) id
  · exact c
  · exact absurd (key t s ht hs h.symm c) id
theorem k_first {wa wb va vb : Nat} (ha : wa < 2 ^ 24) (hb : wb < 2 ^ 24) (hva : va < 24) (hvb : vb < 24) (a1 : wa.testBit va = true) (a2 : ∀ u, u < va → wa.testBit u = false) (b1 : wb.testBit vb = true) (b2 : ∀ u, u < vb → wb.testBit u = false) :
    f_X0_comesFirst (nI wa) (nI wb) = 0 ↔ ¬ 32 * tb_pc wa 24 + va < 32 * tb_pc wb 24 + vb := by
  unfold f_X0_comesFirst
  have p1 := lb_pc_le wa
  have p2 := lb_pc_le wb
  have q1 : 2 ^ va < 2 ^ 24 := Nat.pow_lt_pow_right (by decide) hva
  have q2 : 2 ^ vb < 2 ^ 24 := Nat.pow_lt_pow_right (by decide) hvb
  rw [tb_bitCount ha, tb_bitCount hb, lb_low ha a1 a2, lb_low hb b1 b2]
  have E1 : nI (tb_pc wa 24) = nI (tb_pc wb 24) ↔ tb_pc wa 24 = tb_pc wb 24 := nI_eq (by omega) (by omega)
  have E2 : nI (2 ^ vb) ≤ nI (2 ^ va) ↔ vb ≤ va := (nI_leI (by omega) (by omega)).trans (Nat.pow_le_pow_iff_right (by decide))
  have E3 : nI (tb_pc wb 24) ≤ nI (tb_pc wa 24) ↔ tb_pc wb 24 ≤ tb_pc wa 24 := nI_leI (by omega) (by omega)
  by_cases c1 : tb_pc wa 24 = tb_pc wb 24
  · rw [if_pos (E1.mpr c1)]
    by_cases c2 : vb ≤ va
    · rw [if_pos (E2.mpr c2)]; exact ⟨fun _ => by omega, fun _ => rfl⟩
    · rw [if_neg (fun h => c2 (E2.mp h))]; exact ⟨fun h => absurd h (by decide), fun h => absurd h (by omega)⟩
  · rw [if_neg (fun h => c1 (E1.mp h))]
    by_cases c2 : tb_pc wb 24 ≤ tb_pc wa 24
    · rw [if_pos (E3.mpr c2)]; exact ⟨fun _ => by omega, fun _ => rfl⟩
    · rw [if_neg (fun h => c2 (E3.mp h))]; exact ⟨fun h => absurd h (by decide), fun h => absurd h (by omega)⟩
theorem k_isBefore {mm : Nat → Int32} {a b wa wb va vb : Nat} (ea : mm a = nI wa) (eb : mm b = nI wb) (ha : wa < 2 ^ 24) (hb : wb < 2 ^ 24) (hva : va < 24) (hvb : vb < 24) (a1 : wa.testBit va = true) (a2 : ∀ u, u < va → wa.testBit u = false) (b1 : wb.testBit vb = true) (b2 : ∀ u, u < vb → wb.testBit u = false) :
    f_X4_isBefore mm a b = 0 ↔ ¬ 32 * tb_pc wa 24 + va < 32 * tb_pc wb 24 + vb := by
  unfold f_X4_isBefore
  have p1 := lb_pc_le wa
  have p2 := lb_pc_le wb
  rw [ea, eb, k_bits ha, k_bits hb, k_leastOf ha hva a1 a2, k_leastOf hb hvb b1 b2]
  have E1 : nI (tb_pc wa 24) = nI (tb_pc wb 24) ↔ tb_pc wa 24 = tb_pc wb 24 := nI_eq (by omega) (by omega)
  have E2 : nI vb ≤ nI va ↔ vb ≤ va := nI_leI (by omega) (by omega)
  have E3 : nI (tb_pc wb 24) ≤ nI (tb_pc wa 24) ↔ tb_pc wb 24 ≤ tb_pc wa 24 := nI_leI (by omega) (by omega)
  by_cases c1 : tb_pc wa 24 = tb_pc wb 24
  · rw [if_pos (E1.mpr c1)]
    by_cases c2 : vb ≤ va
    · rw [if_pos (E2.mpr c2)]; exact ⟨fun _ => by omega, fun _ => rfl⟩
    · rw [if_neg (fun h => c2 (E2.mp h))]; exact ⟨fun h => absurd h (by decide), fun h => absurd h (by omega)⟩
  · rw [if_neg (fun h => c1 (E1.mp h))]
    by_cases c2 : tb_pc wb 24 ≤ tb_pc wa 24
    · rw [if_pos (E3.mpr c2)]; exact ⟨fun _ => by omega, fun _ => rfl⟩
    · rw [if_neg (fun h => c2 (E3.mp h))]; exact ⟨fun h => absurd h (by decide), fun h => absurd h (by omega)⟩
theorem nb_id {n : Nat} {f : Nat → Nat} (h1 : ∀ i, i < n → f i < n) (h2 : ∀ i j, i < j → j < n → f i < f j) : ∀ i, i < n → f i = i := by
  have ge : ∀ i, i < n → i ≤ f i := fun i => by
    induction i with
    | zero => intro _; exact Nat.zero_le _
    | succ i ih =>
      intro hi
      have := ih (by omega)
      have := h2 i (i + 1) (by omega) hi
      omega
  have le : ∀ d i, i + d + 1 = n → f i ≤ i := fun d => by
    induction d with
    | zero => intro i hi; have := h1 i (by omega); omega
    | succ d ih =>
      intro i hi
      have := ih (i + 1) (by omega)
      have := h2 i (i + 1) (by omega) (by omega)
      omega
  intro i hi
  have := ge i hi
  have := le (n - i - 1) i (by omega)
  omega
theorem nb_onto {n : Nat} {g : Nat → Nat} (h1 : ∀ t, t < n → g t < n) (h2 : ∀ t, t < n → ∀ u, u < n → g t = g u → t = u) {k : Nat} (hk : k < n) : ∃ t, t < n ∧ g t = k := by
  refine Classical.byContradiction (fun hno => ?_)
  have h3 := fs_inj (n := n + 1) (m := n) (g := fun t => if t < n then g t else k) (fun t _ => by
    show (if t < n then g t else k) < n
    by_cases c : t < n
    · rw [if_pos c]; exact h1 t c
    · rw [if_neg c]; exact hk) (fun t ht u hu h => by
    have h : (if t < n then g t else k) = (if u < n then g u else k) := h
    by_cases c : t < n
    · rw [if_pos c] at h
      by_cases d : u < n
      · rw [if_pos d] at h; exact h2 t c u d h
      · rw [if_neg d] at h; exact absurd ⟨t, c, h⟩ hno
    · rw [if_neg c] at h
      by_cases d : u < n
      · rw [if_pos d] at h; exact absurd ⟨u, d, h.symm⟩ hno
      · omega)
  omega
/-- how many come first -/
def nb_rk (K : Nat → Nat) (n s : Nat) : Nat := fc (fun j => decide (K j < K s)) n
theorem nb_rk_lt {K : Nat → Nat} {n s t : Nat} (hs : s < n) (h : K s < K t) : nb_rk K n s < nb_rk K n t := by
  unfold nb_rk
  exact fc_lt (u := s) n (fun v _ hv => decide_eq_true (Nat.lt_trans (of_decide_eq_true hv) h)) hs (decide_eq_false (Nat.lt_irrefl _)) (decide_eq_true h)
theorem nb_rk_bd {K : Nat → Nat} {n s : Nat} (hs : s < n) : nb_rk K n s < n := by
  have h1 : nb_rk K n s < fc (fun _ => true) n := fc_lt (u := s) n (fun v _ _ => rfl) hs (decide_eq_false (Nat.lt_irrefl _)) rfl
  rw [fc_all n (fun _ _ => rfl)] at h1
  exact h1
theorem nb_rk_inj {K : Nat → Nat} {n s t : Nat} (inj : ∀ s, s < n → ∀ t, t < n → K s = K t → s = t) (hs : s < n) (ht : t < n) (h : nb_rk K n s = nb_rk K n t) : s = t := by
  refine inj s hs t ht ?_
  rcases Nat.lt_trichotomy (K s) (K t) with c | c | c
  · have := nb_rk_lt hs c; omega
  · exact c
  · have := nb_rk_lt ht c; omega
theorem nb_rk_mono {K : Nat → Nat} {n s t : Nat} (ht : t < n) (inj : ∀ s, s < n → ∀ t, t < n → K s = K t → s = t) (hs : s < n) (h : nb_rk K n s < nb_rk K n t) : K s < K t := by
  rcases Nat.lt_trichotomy (K s) (K t) with c | c | c
  · exact c
  · have e := inj s hs t ht c; subst e; omega
  · have := nb_rk_lt ht c; omega
/-- two rows in order are the same -/
theorem nb_seq {n : Nat} {K a b : Nat → Nat} (inj : ∀ s, s < n → ∀ t, t < n → K s = K t → s = t) (ha : ∀ i, i < n → a i < n) (hb : ∀ i, i < n → b i < n) (sa : ∀ i j, i < j → j < n → K (a i) < K (a j)) (sb : ∀ i j, i < j → j < n → K (b i) < K (b j)) : ∀ i, i < n → a i = b i := by
  intro i hi
  have e1 := nb_id (f := fun i => nb_rk K n (a i)) (fun i hi => nb_rk_bd (ha i hi)) (fun i j hij hj => nb_rk_lt (ha i (by omega)) (sa i j hij hj)) i hi
  have e2 := nb_id (f := fun i => nb_rk K n (b i)) (fun i hi => nb_rk_bd (hb i hi)) (fun i j hij hj => nb_rk_lt (hb i (by omega)) (sb i j hij hj)) i hi
  exact nb_rk_inj inj (ha i hi) (hb i hi) (e1.trans e2.symm)
