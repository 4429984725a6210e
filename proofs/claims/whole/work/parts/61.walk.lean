/-! The class's walks: the sets that earlier walks came to lead to the root. -/
def c_mk (v : Nat) (wk : Nat → Int32) (t : Nat) : Prop := ∃ q, q < v ∧ wk t = nI q
def w_good (r v ck : Nat) (M : Nat → Nat → Prop) (Fn : Nat → Nat) (wk : Nat → Int32) : Prop :=
  (∀ t, fm_live M ck t → c_mk v wk t → Fn t = r ∨ ∃ t', fm_live M ck t' ∧ c_mk v wk t' ∧ M t' (Fn t)) ∧ ¬ ∃ b : Nat → Nat, (∀ i, fm_live M ck (b i) ∧ c_mk v wk (b i)) ∧ ∀ i, M (b (i + 1)) (Fn (b i))
def w_nodes (r v ck : Nat) (M : Nat → Nat → Prop) (wk : Nat → Int32) : Prop := ∀ u, u < v → u ≠ r → ∀ h, fm_live M ck h → M h u → c_mk v wk h
def w_at (v : Nat) (Fn π : Nat → Nat) (n : Nat) : Nat := if n = 0 then v else Fn (π (n - 1))
def w_path (r v ck : Nat) (M : Nat → Nat → Prop) (Fn : Nat → Nat) (wk : Nat → Int32) (s : Int32) : Prop :=
  ∃ (π : Nat → Nat) (n : Nat), (∀ i, i < n → fm_live M ck (π i) ∧ wk (π i) = nI v) ∧ (∀ i j, i < n → j < n → π i = π j → i = j) ∧ (∀ i, i + 1 < n → M (π (i + 1)) (Fn (π i))) ∧ (∀ t, fm_live M ck t → wk t = nI v → ∃ i, i < n ∧ π i = t) ∧ (0 < n → M (π 0) v) ∧
    ((s = -1 ∧ w_at v Fn π n = r) ∨ ∃ h, s = nI h ∧ fm_live M ck h ∧ M h (w_at v Fn π n))
theorem c_mk_succ {v : Nat} {wk : Nat → Int32} {t : Nat} : c_mk (v + 1) wk t ↔ c_mk v wk t ∨ wk t = nI v := by
  constructor
  · rintro ⟨q, hq, h⟩
    by_cases c1 : q = v
    · rw [c1] at h; exact Or.inr h
    · exact Or.inl ⟨q, by omega, h⟩
  · rintro (⟨q, hq, h⟩ | h)
    · exact ⟨q, by omega, h⟩
    · exact ⟨v, by omega, h⟩
theorem c_mk_ne {v : Nat} {wk : Nat → Int32} {t : Nat} (hv : v < 2 ^ 30) (h : c_mk v wk t) : ¬ wk t = nI v := by
  obtain ⟨q, hq, e1⟩ := h
  rw [e1]
  exact fun h => absurd ((nI_eq (by omega) (by omega)).mp h) (by omega)
theorem w_neg {v : Nat} (hv : v < 2 ^ 30) : ¬ nI v = -1 := tq_r_ne (n := 2 ^ 30) (tq_r_nI hv (by decide)) (by decide)
/-- the end of a walk -/
theorem w_fin {r v ck : Nat} {M : Nat → Nat → Prop} {Fn : Nat → Nat} {wk : Nat → Int32} {s : Int32} (hv : v < 2 ^ 30) (hck : ck < 2 ^ 30) (hMr : ∀ t, t < ck → ¬ M t r) (hmk : ∀ t, t < ck → wk t = -1 ∨ c_mk (v + 1) wk t) (hg : w_good r v ck M Fn wk) (hnd : w_nodes r v ck M wk) (hp : w_path r v ck M Fn wk s)
    (hs : s = -1 ∨ ∃ h, s = nI h ∧ h < 2 ^ 30 ∧ ¬ wk h = -1 ∧ ¬ wk h = nI v) : w_good r (v + 1) ck M Fn wk ∧ w_nodes r (v + 1) ck M wk := by
  obtain ⟨π, n, p1, p2, p3, p4, p5, p6⟩ := hp
  -- where the path ends
  have hend : w_at v Fn π n = r ∨ ∃ t, fm_live M ck t ∧ c_mk v wk t ∧ M t (w_at v Fn π n) := by
    rcases p6 with ⟨-, h⟩ | ⟨h, e1, l1, m1⟩
    · exact Or.inl h
    · rcases hs with hs | ⟨h', e2, b2, k1, k2⟩
      · rw [e1] at hs; exact absurd hs (w_neg (by have := l1.1; omega))
      · have e3 : h = h' := (nI_eq (by have := l1.1; omega) (by omega)).mp (e1.symm.trans e2)
        subst e3
        refine Or.inr ⟨h, l1, ?_, m1⟩
        rcases hmk h l1.1 with q | q
        · exact absurd q k1
        · rcases c_mk_succ.mp q with q | q
          · exact q
          · exact absurd q k2
  have hlast : ∀ t, fm_live M ck t → wk t = nI v → ∃ i, i < n ∧ π i = t := p4
  refine ⟨⟨fun t ht hm => ?_, fun ⟨b, hb, hbn⟩ => ?_⟩, fun u hu hur h hl hMu => ?_⟩
  · rcases c_mk_succ.mp hm with q | q
    · rcases hg.1 t ht q with g | ⟨t', g1, g2, g3⟩
      · exact Or.inl g
      · exact Or.inr ⟨t', g1, c_mk_succ.mpr (Or.inl g2), g3⟩
    · obtain ⟨i, hi, rfl⟩ := hlast t ht q
      by_cases c1 : i + 1 < n
      · exact Or.inr ⟨π (i + 1), (p1 _ c1).1, c_mk_succ.mpr (Or.inr (p1 _ c1).2), p3 i c1⟩
      · have e1 : w_at v Fn π n = Fn (π i) := by
          unfold w_at
          rw [if_neg (by omega), show n - 1 = i by omega]
        rw [e1] at hend
        rcases hend with g | ⟨t', g1, g2, g3⟩
        · exact Or.inl g
        · exact Or.inr ⟨t', g1, c_mk_succ.mpr (Or.inl g2), g3⟩
  · -- once among the earlier sets, always there
    have hstay : ∀ i, c_mk v wk (b i) → c_mk v wk (b (i + 1)) := fun i h => by
      rcases hg.1 (b i) (hb i).1 h with g | ⟨t', g1, g2, g3⟩
      · have h2 := hbn i
        rw [g] at h2
        exact absurd h2 (hMr _ (hb (i + 1)).1.1)
      · rw [fm_live_eq (hb (i + 1)).1 g1 (hbn i) g3]; exact g2
    by_cases c1 : ∃ i0, c_mk v wk (b i0)
    · obtain ⟨i0, h0⟩ := c1
      have h1 : ∀ j, c_mk v wk (b (i0 + j)) := by
        intro j
        induction j with
        | zero => exact h0
        | succ j ih => exact hstay _ ih
      exact hg.2 ⟨fun i => b (i0 + i), fun i => ⟨(hb _).1, h1 i⟩, fun i => hbn (i0 + i)⟩
    · have hall : ∀ i, wk (b i) = nI v := fun i => (c_mk_succ.mp (hb i).2).resolve_left (fun h => c1 ⟨i, h⟩)
      obtain ⟨j0, hj0, e0⟩ := hlast (b 0) (hb 0).1 (hall 0)
      have h1 : ∀ i, j0 + i < n ∧ π (j0 + i) = b i := by
        intro i
        induction i with
        | zero => exact ⟨hj0, e0⟩
        | succ i ih =>
          obtain ⟨k1, k2⟩ := ih
          by_cases c2 : j0 + i + 1 < n
          · refine ⟨c2, fm_live_eq (p1 _ c2).1 (hb (i + 1)).1 (p3 _ c2) ?_⟩
            show M (b (i + 1)) (Fn (π (j0 + i)))
            rw [k2]; exact hbn i
          · exfalso
            have e1 : w_at v Fn π n = Fn (b i) := by
              unfold w_at
              rw [if_neg (by omega), show n - 1 = j0 + i by omega, k2]
            rw [e1] at hend
            rcases hend with g | ⟨t', g1, g2, g3⟩
            · have h2 := hbn i
              rw [g] at h2
              exact hMr _ (hb (i + 1)).1.1 h2
            · rw [fm_live_eq g1 (hb (i + 1)).1 g3 (hbn i)] at g2
              exact c1 ⟨i + 1, g2⟩
      have := (h1 n).1
      omega
  · by_cases c1 : u = v
    · subst c1
      by_cases c2 : n = 0
      · have e1 : w_at u Fn π n = u := by unfold w_at; rw [if_pos c2]
        rw [e1] at hend
        rcases hend with g | ⟨t', g1, g2, g3⟩
        · exact absurd g hur
        · rw [fm_live_eq hl g1 hMu g3]; exact c_mk_succ.mpr (Or.inl g2)
      · have h1 := p1 0 (by omega)
        rw [fm_live_eq hl h1.1 hMu (p5 (by omega))]
        exact c_mk_succ.mpr (Or.inr h1.2)
    · exact c_mk_succ.mpr (Or.inl (hnd u (by omega) hur h hl hMu))
/-- a step to a set that no walk came to -/
theorem w_mark {r v ck h : Nat} {M : Nat → Nat → Prop} {Fn : Nat → Nat} {wk : Nat → Int32} {s' : Int32} (hv : v < 2 ^ 30) (hck : ck < 2 ^ 30) (hh : wk h = -1) (hmk : ∀ t, t < ck → wk t = -1 ∨ c_mk (v + 1) wk t) (hg : w_good r v ck M Fn wk) (hnd : w_nodes r v ck M wk) (hhl : fm_live M ck h) (hp : w_path r v ck M Fn wk (nI h))
    (hs : (s' = -1 ∧ Fn h = r) ∨ ∃ h', s' = nI h' ∧ fm_live M ck h' ∧ M h' (Fn h)) : (∀ t, t < ck → upd wk h (nI v) t = -1 ∨ c_mk (v + 1) (upd wk h (nI v)) t) ∧ w_good r v ck M Fn (upd wk h (nI v)) ∧ w_nodes r v ck M (upd wk h (nI v)) ∧ w_path r v ck M Fn (upd wk h (nI v)) s' := by
  have hiff : ∀ t, c_mk v (upd wk h (nI v)) t ↔ c_mk v wk t := fun t => by
    by_cases c1 : t = h
    · subst c1
      exact ⟨fun g => absurd upd_eq (c_mk_ne hv g), fun ⟨q, hq, e1⟩ => absurd (e1.symm.trans hh) (w_neg (by omega))⟩
    · unfold c_mk; rw [upd_ne c1]
  obtain ⟨π, n, p1, p2, p3, p4, p5, p6⟩ := hp
  have hcur : M h (w_at v Fn π n) := by
    rcases p6 with ⟨e1, -⟩ | ⟨h', e1, l1, m1⟩
    · exact absurd e1 (w_neg (by have := hhl.1; omega))
    · have e2 : h = h' := (nI_eq (by have := hhl.1; omega) (by have := l1.1; omega)).mp e1
      rw [e2]; exact m1
  have hnp : ∀ i, i < n → π i ≠ h := fun i hi e1 => by
    have h1 := (p1 i hi).2
    rw [e1, hh] at h1
    exact w_neg hv h1.symm
  refine ⟨fun t ht => ?_, ?_, fun u hu hur q hl hM => (hiff q).mpr (hnd u hu hur q hl hM), ?_⟩
  · by_cases c1 : t = h
    · subst c1; exact Or.inr (c_mk_succ.mpr (Or.inr upd_eq))
    · rcases hmk t ht with q | q
      · exact Or.inl (by rw [upd_ne c1]; exact q)
      · refine Or.inr ?_
        unfold c_mk at q ⊢
        rw [upd_ne c1]; exact q
  · unfold w_good
    simp only [hiff]
    exact hg
  · refine ⟨fun i => if i = n then h else π i, n + 1, fun i hi => ?_, fun i j hi hj e1 => ?_, fun i hi => ?_, fun t ht e1 => ?_, fun _ => ?_, ?_⟩
    · by_cases c1 : i = n
      · show fm_live M ck (if i = n then h else π i) ∧ upd wk h (nI v) (if i = n then h else π i) = nI v
        rw [if_pos c1]; exact ⟨hhl, upd_eq⟩
      · show fm_live M ck (if i = n then h else π i) ∧ upd wk h (nI v) (if i = n then h else π i) = nI v
        rw [if_neg c1, upd_ne (hnp i (by omega))]
        exact p1 i (by omega)
    · have e1 : (if i = n then h else π i) = (if j = n then h else π j) := e1
      by_cases c1 : i = n
      · by_cases c2 : j = n
        · omega
        · rw [if_pos c1, if_neg c2] at e1
          exact absurd e1.symm (hnp j (by omega))
      · by_cases c2 : j = n
        · rw [if_neg c1, if_pos c2] at e1
          exact absurd e1 (hnp i (by omega))
        · rw [if_neg c1, if_neg c2] at e1
          exact p2 i j (by omega) (by omega) e1
    · show M (if i + 1 = n then h else π (i + 1)) (Fn (if i = n then h else π i))
      rw [if_neg (show ¬ i = n by omega)]
      by_cases c1 : i + 1 = n
      · rw [if_pos c1]
        unfold w_at at hcur
        rw [if_neg (by omega), show n - 1 = i by omega] at hcur
        exact hcur
      · rw [if_neg c1]; exact p3 i (by omega)
    · by_cases c1 : t = h
      · exact ⟨n, by omega, by show (if n = n then h else π n) = t; rw [if_pos rfl, c1]⟩
      · rw [upd_ne c1] at e1
        obtain ⟨i, hi, e2⟩ := p4 t ht e1
        exact ⟨i, by omega, by show (if i = n then h else π i) = t; rw [if_neg (by omega)]; exact e2⟩
    · show M (if 0 = n then h else π 0) v
      by_cases c1 : 0 = n
      · rw [if_pos c1]
        unfold w_at at hcur
        rw [if_pos c1.symm] at hcur
        exact hcur
      · rw [if_neg c1]; exact p5 (by omega)
    · have e1 : w_at v Fn (fun i => if i = n then h else π i) (n + 1) = Fn h := by
        unfold w_at
        rw [if_neg (by omega)]
        show Fn (if n + 1 - 1 = n then h else π (n + 1 - 1)) = Fn h
        rw [if_pos (by omega)]
      rw [e1]; exact hs
