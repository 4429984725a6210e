/-! A ring of the class's sets. -/
theorem c_before {nk ak r ck : Nat} {fr to : Nat → Int32} {wt : Nat → Int64} {op sm sa so : Nat → Int32} {dw dp : Nat → Int64} {hm : Nat → Int32} {hw hp : Nat → Int64} (hnk : nk ≤ 24) (hak : ak ≤ 60) (hfr2 : ∀ j, j < ak → tq_x (fr j) < nk) (C : ci (c_N nk r) ak fr to wt op ck sm sa so dw dp hm hw hp) (hck : ck ≤ 45) {t : Nat} (ht : t < ck) :
    (f_X0_setBefore fr sa hm (nI t) = -1 ∧ tq_x (fr (tq_x (sa t))) = r) ∨ ∃ h, f_X0_setBefore fr sa hm (nI t) = nI h ∧ fm_live (gm (c_W sm)) ck h ∧ gm (c_W sm) h (tq_x (fr (tq_x (sa t)))) := by
  have h1 := (C.2.1 t ht).2
  have h2 := hfr2 _ h1.2
  have hne : ¬ sa t = -1 := tq_r_ne h1 (by omega)
  unfold f_X0_setBefore
  rw [tq_x_nI (by omega), if_neg hne]
  obtain ⟨k1, k2⟩ := C.2.2.2.1 (tq_x (fr (tq_x (sa t)))) (by omega)
  by_cases c1 : tq_x (fr (tq_x (sa t))) = r
  · exact Or.inl ⟨k2 (fun h => h.2 c1), c1⟩
  · obtain ⟨h, g1, g2, g3⟩ := k1 ⟨h2, c1⟩
    exact Or.inr ⟨h, g1, g2, g3⟩
/-- the nodes of the first m of the sets c 0, c 1, .. -/
def c_un (W c : Nat → Nat) : Nat → Nat
  | 0 => 0
  | m + 1 => c_un W c m ||| W (c m)
theorem c_un_bit {W c : Nat → Nat} {v : Nat} : ∀ m, (c_un W c m).testBit v = true ↔ ∃ i, i < m ∧ gm W (c i) v := by
  intro m
  induction m with
  | zero =>
    constructor
    · intro h
      have h : (0 : Nat).testBit v = true := h
      rw [Nat.zero_testBit] at h
      exact absurd h Bool.false_ne_true
    · rintro ⟨i, hi, _⟩; exact absurd hi (by omega)
  | succ m ih =>
    show (c_un W c m ||| W (c m)).testBit v = true ↔ _
    rw [Nat.testBit_or, Bool.or_eq_true, ih]
    constructor
    · rintro (⟨i, hi, h⟩ | h)
      · exact ⟨i, by omega, h⟩
      · exact ⟨m, by omega, h⟩
    · rintro ⟨i, hi, h⟩
      by_cases c1 : i = m
      · rw [c1] at h; exact Or.inr h
      · exact Or.inl ⟨i, by omega, h⟩
theorem c_un_lt {W c : Nat → Nat} : ∀ m, (∀ i, i < m → W (c i) < 2 ^ 24) → c_un W c m < 2 ^ 24 := by
  intro m
  induction m with
  | zero => intro _; show 0 < 2 ^ 24; decide
  | succ m ih => intro h; exact Nat.or_lt_two_pow (ih (fun i hi => h i (by omega))) (h m (by omega))
/-- nodesOfRing, on a ring c 0, .., c (n - 1) of live sets -/
theorem c_ring {nk ak r ck n : Nat} {fr to : Nat → Int32} {wt : Nat → Int64} {op sm sa so : Nat → Int32} {dw dp : Nat → Int64} {hm : Nat → Int32} {hw hp : Nat → Int64} {c : Nat → Nat} (hnk : nk ≤ 24) (hak : ak ≤ 60) (hfr2 : ∀ j, j < ak → tq_x (fr j) < nk) (C : ci (c_N nk r) ak fr to wt op ck sm sa so dw dp hm hw hp) (hck : ck ≤ 45)
    (hn : 0 < n) (hn2 : n ≤ 45) (hl : ∀ i, i < n → fm_live (gm (c_W sm)) ck (c i)) (hs : ∀ i, i + 1 < n → gm (c_W sm) (c (i + 1)) (tq_x (fr (tq_x (sa (c i)))))) (hd : ∀ i, 0 < i → i < n → c i ≠ c 0) (he : gm (c_W sm) (c 0) (tq_x (fr (tq_x (sa (c (n - 1))))))) :
    f_X0_nodesOfRing fr sm sa hm (nI (c 0)) = nI (c_un (c_W sm) c n) := by
  have hW : ∀ i, i < n → sm (c i) = nI (c_W sm (c i)) ∧ c_W sm (c i) < 2 ^ 24 := fun i hi => (C.2.1 (c i) (hl i hi).1).1
  have hun : ∀ m, m ≤ n → c_un (c_W sm) c m < 2 ^ 24 := fun m hm => c_un_lt m (fun i hi => (hW i (by omega)).2)
  have hnext : ∀ i h, i < n → fm_live (gm (c_W sm)) ck h → gm (c_W sm) h (tq_x (fr (tq_x (sa (c i))))) → f_X0_setBefore fr sa hm (nI (c i)) = nI h := fun i h hi h1 h2 => by
    rcases c_before hnk hak hfr2 C hck (hl i hi).1 with ⟨-, g2⟩ | ⟨q, g1, g2, g3⟩
    · rw [g2] at h2
      exact absurd (C.1.1.2.1 h h1.1 r h2).2 (fun h => h rfl)
    · rw [g1, fm_live_eq g2 h1 g3 h2]
  have hne : ∀ i, i < n → ¬ nI (c i) = -1 := fun i hi => tq_r_ne (n := 45) (tq_r_nI (by have := (hl i hi).1; omega) (by decide)) (by decide)
  have hor : ∀ m, m < n → nI (c_un (c_W sm) c m) ||| sm (tq_x (nI (c m))) = nI (c_un (c_W sm) c (m + 1)) := fun m hm => by
    rw [tq_x_nI (by have := (hl m hm).1; omega), (hW m hm).1, tb_or (by have := hun m (by omega); omega) (by have := (hW m hm).2; omega)]
    rfl
  have key : ∀ m, m < n → t_X0_nodesOfRing_7 fr sm sa hm (nI (c 0)) (0, nI (c 0)) m = (false, nI (c_un (c_W sm) c m), nI (c m)) := by
    intro m
    induction m with
    | zero => intro _; rfl
    | succ m ih =>
      intro hmn
      have e1 : t_X0_nodesOfRing_7 fr sm sa hm (nI (c 0)) (0, nI (c 0)) (m + 1) = b_X0_nodesOfRing_7 fr sm sa hm (nI (c 0)) m (nI (c_un (c_W sm) c m)) (nI (c m)) := tq_br_go (ih (by omega))
      rw [e1]
      unfold b_X0_nodesOfRing_7
      rw [if_neg (hne m (by omega)), hnext m (c (m + 1)) (by omega) (hl _ hmn) (hs m hmn), if_neg (fun h => hd (m + 1) (by omega) hmn ((nI_eq (by have := (hl (m + 1) hmn).1; omega) (by have := (hl 0 hn).1; omega)).mp h)), hor m (by omega)]
  have hlast := key (n - 1) (by omega)
  have e2 : t_X0_nodesOfRing_7 fr sm sa hm (nI (c 0)) (0, nI (c 0)) 45 = (true, nI (c_un (c_W sm) c n), nI (c 0)) := by
    refine tq_br_stop hlast ?_ (by omega)
    show b_X0_nodesOfRing_7 fr sm sa hm (nI (c 0)) (n - 1) (nI (c_un (c_W sm) c (n - 1))) (nI (c (n - 1))) = _
    unfold b_X0_nodesOfRing_7
    rw [if_neg (hne (n - 1) (by omega)), hnext (n - 1) (c 0) (by omega) (hl 0 hn) he, if_pos rfl, hor (n - 1) (by omega), show n - 1 + 1 = n by omega]
  unfold f_X0_nodesOfRing
  rw [e2]
