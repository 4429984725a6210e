theorem fc_two {p q : Nat → Bool} {a b : Nat} : ∀ n, (∀ v, v < n → p v = true → q v = true) → a < n → b < n → a ≠ b → p a = false → p b = false → q a = true → q b = true → fc p n + 2 ≤ fc q n := by
  intro n h1 ha hb hab pa pb qa qb
  have h2 := fc_lt (p := p) (q := fun v => if v = a then true else p v) (u := a) n (fun v _ hv => by
    show (if v = a then true else p v) = true
    split
    · rfl
    · exact hv) ha pa (by show (if a = a then true else p a) = true; rw [if_pos rfl])
  have h3 := fc_lt (p := fun v => if v = a then true else p v) (q := q) (u := b) n (fun v hv h => by
    have h : (if v = a then true else p v) = true := h
    by_cases c1 : v = a
    · rw [c1]; exact qa
    · rw [if_neg c1] at h; exact h1 v hv h) hb (by show (if b = a then true else p b) = false; rw [if_neg (fun h => hab h.symm)]; exact pb) qb
  omega
theorem fc_live_two {p : Nat → Bool} {a b n : Nat} (ha : a < n) (hb : b < n) (hab : a ≠ b) (pa : p a = true) (pb : p b = true) : 2 ≤ fc p n := by
  have h := fc_two (p := fun _ => false) (q := p) n (fun _ _ h => absurd h Bool.false_ne_true) ha hb hab rfl rfl pa pb
  omega
/-- a step back to a set of this walk: the ring is joined -/
theorem w_join {nk ak r ck v h : Nat} {fr to : Nat → Int32} {wt : Nat → Int64} {op sm sa so : Nat → Int32} {dw dp : Nat → Int64} {wk hm : Nat → Int32} {hw hp : Nat → Int64} (hnk : nk ≤ 24) (hr : r < nk) (hak : ak ≤ 60) (hfr : ∀ j, j < 60 → tq_r 24 (fr j)) (hto : ∀ j, j < 60 → tq_r 24 (to j)) (hfr2 : ∀ j, j < ak → tq_x (fr j) < nk)
    (hR : ∀ v, v < nk → fb_R (fun j => tq_x (fr j)) (fun j => tq_x (to j)) (fun j => ¬ op j = 0) ak r v) (hv : v < 24)
    (C : ci (c_N nk r) ak fr to wt op ck sm sa so dw dp hm hw hp) (hck : ck ≤ 45) (hcnt : ck + c_live ck so ≤ 2 * (nk - 1)) (hmk : ∀ t, t < ck → wk t = -1 ∨ c_mk (v + 1) wk t)
    (hg : w_good r v ck (gm (c_W sm)) (fun t => tq_x (fr (tq_x (sa t)))) wk) (hnd : w_nodes r v ck (gm (c_W sm)) wk) (hp0 : w_path r v ck (gm (c_W sm)) (fun t => tq_x (fr (tq_x (sa t)))) wk (nI h)) (hhl : fm_live (gm (c_W sm)) ck h) (hh : wk h = nI v) :
    ∃ (w : Nat) (sa' so' : Nat → Int32) (dw' dp' : Nat → Int64) (hm' : Nat → Int32) (hw' hp' : Nat → Int64), f_X0_addSet nk ak ck fr to wt op sm sa so dw dp wk hm hw hp (f_X0_nodesOfRing fr sm sa hm (nI h)) = (nI ck, ck + 1, upd sm ck (nI w), sa', so', dw', dp', upd wk ck (-1), hm', hw', hp') ∧
      ci (c_N nk r) ak fr to wt op (ck + 1) (upd sm ck (nI w)) sa' so' dw' dp' hm' hw' hp' ∧ ck + 1 + c_live (ck + 1) so' ≤ 2 * (nk - 1) ∧ (∀ t, t < ck + 1 → upd wk ck (-1) t = -1 ∨ c_mk (v + 1) (upd wk ck (-1)) t) ∧
      w_good r v (ck + 1) (gm (c_W (upd sm ck (nI w)))) (fun t => tq_x (fr (tq_x (sa' t)))) (upd wk ck (-1)) ∧ w_nodes r v (ck + 1) (gm (c_W (upd sm ck (nI w)))) (upd wk ck (-1)) ∧ w_path r v (ck + 1) (gm (c_W (upd sm ck (nI w)))) (fun t => tq_x (fr (tq_x (sa' t)))) (upd wk ck (-1)) (nI ck) := by
  obtain ⟨π, n, p1, p2, p3, p4, p5, p6⟩ := hp0
  obtain ⟨i0, hi0, e0⟩ := p4 h hhl hh
  have hMr : ∀ t, t < ck → ¬ gm (c_W sm) t r := fun t ht h1 => (C.1.1.2.1 t ht r h1).2 rfl
  have hout : ∀ t, t < ck → ¬ gm (c_W sm) t (tq_x (fr (tq_x (sa t)))) := fun t ht => C.1.1.2.2.2.1 t ht
  -- the way back closes the ring
  have hcl : gm (c_W sm) (π i0) (tq_x (fr (tq_x (sa (π (n - 1)))))) := by
    rcases p6 with ⟨e1, -⟩ | ⟨h', e1, l1, m1⟩
    · exact absurd e1 (w_neg (by have := hhl.1; omega))
    · have e2 : h = h' := (nI_eq (by have := hhl.1; omega) (by have := l1.1; omega)).mp e1
      unfold w_at at m1
      rw [if_neg (by omega)] at m1
      rw [e0, e2]; exact m1
  have hn45 : n ≤ 45 := by
    have h1 := fs_inj (n := n) (m := ck) (g := π) (fun i hi => (p1 i hi).1.1) (fun i hi j hj => p2 i j hi hj)
    omega
  have hm2 : 2 ≤ n - i0 := by
    rcases Nat.lt_or_ge (n - i0) 2 with q | q
    · have e1 : n - 1 = i0 := by omega
      rw [e1] at hcl
      exact absurd hcl (hout _ (p1 i0 hi0).1.1)
    · exact q
  have hring : f_X0_nodesOfRing fr sm sa hm (nI h) = nI (c_un (c_W sm) (fun j => π (i0 + j)) (n - i0)) := by
    rw [← e0]
    refine c_ring (c := fun j => π (i0 + j)) hnk hak hfr2 C hck (by omega) (by omega) (fun i hi => (p1 _ (by omega)).1) (fun i hi => p3 (i0 + i) (by omega)) (fun i h1 h2 e1 => ?_) ?_
    · have := p2 (i0 + i) (i0 + 0) (by omega) (by omega) e1; omega
    · show gm (c_W sm) (π (i0 + 0)) (tq_x (fr (tq_x (sa (π (i0 + (n - i0 - 1)))))))
      rw [show i0 + (n - i0 - 1) = n - 1 by omega]; exact hcl
  have hbit : ∀ x, (c_un (c_W sm) (fun j => π (i0 + j)) (n - i0)).testBit x = true ↔ ∃ j, j < n - i0 ∧ gm (c_W sm) (π (i0 + j)) x := fun x => c_un_bit (n - i0)
  have hw24 : c_un (c_W sm) (fun j => π (i0 + j)) (n - i0) < 2 ^ 24 := c_un_lt _ (fun i hi => (C.2.1 _ (p1 (i0 + i) (by omega)).1.1).1.2)
  rw [hring]
  generalize c_un (c_W sm) (fun j => π (i0 + j)) (n - i0) = w at hbit hw24 ⊢
  -- two live sets at least
  have hl2 : ∀ j, j < n → so (π j) = -1 := fun j hj => (c_live_iff C hck (p1 j hj).1.1).mpr (p1 j hj).1
  have hne01 : π i0 ≠ π (i0 + 1) := fun e1 => by have := p2 i0 (i0 + 1) (by omega) (by omega) e1; omega
  have hlive2 : 2 ≤ c_live ck so := fc_live_two (p1 i0 hi0).1.1 (p1 (i0 + 1) (by omega)).1.1 hne01 (decide_eq_true (hl2 i0 hi0)) (decide_eq_true (hl2 (i0 + 1) (by omega)))
  have hNw : ∀ x, w.testBit x = true → c_N nk r x := fun x hx => by
    obtain ⟨j, hj, g⟩ := (hbit x).mp hx
    exact C.1.1.2.1 _ (p1 _ (by omega)).1.1 x g
  obtain ⟨x0, hx0⟩ := C.1.1.1 _ (p1 i0 hi0).1.1
  have hx0w : w.testBit x0 = true := (hbit x0).mpr ⟨0, by omega, hx0⟩
  obtain ⟨sa', so', dw', dp', hm', hw', hp', f1, f2, f3, f4, f5, f6⟩ := c_add (N' := c_N nk r) (nk := nk) (w := w) (wk := wk) hnk hak hfr hto C (by omega) hw24
    (Or.inr ⟨fun j => π (i0 + j % (n - i0)), fun j => (p1 _ (by have := Nat.mod_lt j (show n - i0 > 0 by omega); omega)).1, fun j => by
      show gm (c_W sm) (π (i0 + (j + 1) % (n - i0))) (tq_x (fr (tq_x (sa (π (i0 + j % (n - i0)))))))
      have h1 := Nat.mod_lt j (show n - i0 > 0 by omega)
      by_cases c1 : j % (n - i0) + 1 < n - i0
      · have e1 : (j + 1) % (n - i0) = j % (n - i0) + 1 := by
          rw [Nat.add_mod, Nat.mod_eq_of_lt (show 1 < n - i0 by omega), Nat.mod_eq_of_lt c1]
        rw [e1]; exact p3 (i0 + j % (n - i0)) (by omega)
      · have e1 : (j + 1) % (n - i0) = 0 := by
          rw [Nat.add_mod, Nat.mod_eq_of_lt (show 1 < n - i0 by omega), show j % (n - i0) + 1 = n - i0 by omega, Nat.mod_self]
        rw [e1, show i0 + j % (n - i0) = n - 1 by omega]; exact hcl, ⟨n - i0, by omega, fun j => by
      show π (i0 + (j + (n - i0)) % (n - i0)) = π (i0 + j % (n - i0))
      rw [Nat.add_mod_right]⟩, fun x => by
      rw [hbit x]
      constructor
      · rintro ⟨j, hj, g⟩
        refine ⟨j, ?_⟩
        show gm (c_W sm) (π (i0 + j % (n - i0))) x
        rw [Nat.mod_eq_of_lt hj]; exact g
      · rintro ⟨j, g⟩
        exact ⟨j % (n - i0), Nat.mod_lt j (show n - i0 > 0 by omega), g⟩⟩)
    (fun _ h => h) (fun x h => h.1) hNw (fun x h => Or.inl h)
    (fb_ent (F := fun j => tq_x (fr j)) (T := fun j => tq_x (to j)) (o := fun j => ¬ op j = 0) (r := r) (by
      rcases hq : w.testBit r with _ | _
      · first | rfl | exact hq
      · exact absurd rfl (hNw r hq).2) ⟨x0, hx0w, hR x0 (hNw x0 hx0w).1⟩)
  have hWk : c_W (upd sm ck (nI w)) ck = w := by
    show tq_x (upd sm ck (nI w) ck) = w
    rw [upd_eq, tq_x_nI (by omega)]
  have hW : ∀ s, s < ck → c_W (upd sm ck (nI w)) s = c_W sm s := fun s hs => by
    show tq_x (upd sm ck (nI w) s) = tq_x (sm s)
    rw [upd_ne (by omega)]
  have hMs : ∀ s, s < ck → ∀ x, gm (c_W (upd sm ck (nI w))) s x ↔ gm (c_W sm) s x := fun s hs x => by unfold gm; rw [hW s hs]
  have hMk : ∀ x, gm (c_W (upd sm ck (nI w))) ck x ↔ w.testBit x = true := fun x => by unfold gm; rw [hWk]
  -- live sets that meet the ring are of it
  have hmeet : ∀ t, fm_live (gm (c_W sm)) ck t → (∃ x, gm (c_W sm) t x ∧ w.testBit x = true) → ∃ j, i0 ≤ j ∧ j < n ∧ t = π j := fun t ht ⟨x, g1, g2⟩ => by
    obtain ⟨j, hj, g3⟩ := (hbit x).mp g2
    exact ⟨i0 + j, by omega, by omega, fm_live_eq ht (p1 _ (by omega)).1 g1 g3⟩
  have hlive : ∀ t, t < ck → (fm_live (gm (c_W (upd sm ck (nI w)))) (ck + 1) t ↔ fm_live (gm (c_W sm)) ck t ∧ ∀ x, gm (c_W sm) t x → ¬ w.testBit x = true) := fun t ht => by
    constructor
    · intro g
      exact ⟨⟨ht, fun u h1 h2 x h3 h4 => g.2 u h1 (by omega) x ((hMs t ht x).mpr h3) ((hMs u h2 x).mpr h4)⟩, fun x h3 h4 => g.2 ck ht (by omega) x ((hMs t ht x).mpr h3) ((hMk x).mpr h4)⟩
    · rintro ⟨g, g9⟩
      refine ⟨by omega, fun u h1 h2 x h3 h4 => ?_⟩
      have h30 := (hMs t ht x).mp h3
      by_cases c1 : u = ck
      · rw [c1] at h4; exact g9 x h30 ((hMk x).mp h4)
      · exact g.2 u h1 (by omega) x h30 ((hMs u (by omega) x).mp h4)
  have hliveK : fm_live (gm (c_W (upd sm ck (nI w)))) (ck + 1) ck := ⟨by omega, fun u h1 h2 => absurd h2 (by omega)⟩
  have hFn : ∀ t, t < ck → tq_x (fr (tq_x (sa' t))) = tq_x (fr (tq_x (sa t))) := fun t ht => by rw [f3 t ht]
  have hmkK : ¬ c_mk v (upd wk ck (-1)) ck := fun ⟨q, hq, e1⟩ => by rw [upd_eq] at e1; exact w_neg (by omega) e1.symm
  have hmkt : ∀ t, t < ck → (c_mk v (upd wk ck (-1)) t ↔ c_mk v wk t) := fun t ht => by unfold c_mk; rw [upd_ne (by omega)]
  -- what earlier walks came to is not touched
  have hold : ∀ t, fm_live (gm (c_W sm)) ck t → c_mk v wk t → fm_live (gm (c_W (upd sm ck (nI w)))) (ck + 1) t := fun t ht hm => (hlive t ht.1).mpr ⟨ht, fun x g1 g2 => by
    obtain ⟨j, -, hj, e1⟩ := hmeet t ht ⟨x, g1, g2⟩
    have h9 := (p1 j hj).2
    rw [← e1] at h9
    exact c_mk_ne (by omega) hm h9⟩
  refine ⟨w, sa', so', dw', dp', hm', hw', hp', f1, f2, ?_, fun t ht => ?_, ⟨fun t ht hm => ?_, fun ⟨b, hb, hbn⟩ => ?_⟩, fun u hu hur q hl hM => ?_, ?_⟩
  · have h1 : c_live (ck + 1) so' = fc (fun s => decide (so' s = -1)) ck + 1 := by
      show fc (fun s => decide (so' s = -1)) ck + (if decide (so' ck = -1) = true then 1 else 0) = _
      rw [if_pos (decide_eq_true f5)]
    have hgone : ∀ j, i0 ≤ j → j < n → ¬ so' (π j) = -1 := fun j h2 h3 e1 => by
      have h4 := (c_live_iff f2 (by omega) (show π j < ck + 1 by have := (p1 j h3).1.1; omega)).mp e1
      obtain ⟨x, hx⟩ := C.1.1.1 _ (p1 j h3).1.1
      exact ((hlive _ (p1 j h3).1.1).mp h4).2 x hx ((hbit x).mpr ⟨j - i0, by omega, by rw [show i0 + (j - i0) = j by omega]; exact hx⟩)
    have h2 := fc_two (p := fun s => decide (so' s = -1)) (q := fun s => decide (so s = -1)) (a := π i0) (b := π (i0 + 1)) ck (fun s hs hd => by
      have hd := of_decide_eq_true hd
      refine decide_eq_true ?_
      rw [f6 s hs] at hd
      split at hd
      · exact absurd hd (w_neg (by omega))
      · exact hd) (p1 i0 hi0).1.1 (p1 (i0 + 1) (by omega)).1.1 hne01 (decide_eq_false (hgone i0 (by omega) hi0)) (decide_eq_false (hgone (i0 + 1) (by omega) (by omega))) (decide_eq_true (hl2 i0 hi0)) (decide_eq_true (hl2 (i0 + 1) (by omega)))
    have h3 : fc (fun s => decide (so' s = -1)) ck + 2 ≤ c_live ck so := h2
    omega
  · by_cases c1 : t = ck
    · rw [c1]; exact Or.inl upd_eq
    · rw [upd_ne c1]
      rcases hmk t (by omega) with q | q
      · exact Or.inl q
      · refine Or.inr ?_
        unfold c_mk at q ⊢
        rw [upd_ne c1]; exact q
  · by_cases c1 : t = ck
    · rw [c1] at hm; exact absurd hm hmkK
    · have htc : t < ck := by have := ht.1; omega
      have ht2 := ((hlive t htc).mp ht).1
      show tq_x (fr (tq_x (sa' t))) = r ∨ _
      rw [hFn t htc]
      rcases hg.1 t ht2 ((hmkt t htc).mp hm) with g | ⟨t', g1, g2, g3⟩
      · exact Or.inl g
      · exact Or.inr ⟨t', hold t' g1 g2, (hmkt t' g1.1).mpr g2, by show gm _ t' (tq_x (fr (tq_x (sa' t)))); rw [hFn t htc]; exact (hMs t' g1.1 _).mpr g3⟩
  · have hbc : ∀ i, b i < ck := fun i => by
      have h1 := (hb i).1.1
      have h2 : b i ≠ ck := fun e1 => by have h3 := (hb i).2; rw [e1] at h3; exact hmkK h3
      omega
    exact hg.2 ⟨b, fun i => ⟨((hlive _ (hbc i)).mp (hb i).1).1, (hmkt _ (hbc i)).mp (hb i).2⟩, fun i => by
      have h1 := (hMs _ (hbc (i + 1)) _).mp (hbn i)
      have h2 : gm (c_W sm) (b (i + 1)) (tq_x (fr (tq_x (sa' (b i))))) := h1
      rw [hFn _ (hbc i)] at h2
      exact h2⟩
  · by_cases c1 : q = ck
    · exfalso
      rw [c1] at hM
      obtain ⟨j, hj, g⟩ := (hbit u).mp ((hMk u).mp hM)
      have h9 := (p1 (i0 + j) (by omega))
      exact c_mk_ne (by omega) (hnd u hu hur _ h9.1 g) h9.2
    · have hq : q < ck := by have := hl.1; omega
      exact (hmkt q hq).mpr (hnd u hu hur q ((hlive q hq).mp hl).1 ((hMs q hq u).mp hM))
  · have hpl : ∀ i, i < i0 → fm_live (gm (c_W (upd sm ck (nI w)))) (ck + 1) (π i) := fun i hi => (hlive _ (p1 i (by omega)).1.1).mpr ⟨(p1 i (by omega)).1, fun x g1 g2 => by
      obtain ⟨j, h1, h2, e1⟩ := hmeet _ (p1 i (by omega)).1 ⟨x, g1, g2⟩
      have := p2 i j (by omega) h2 e1
      omega⟩
    have hpc : ∀ i, i < n → π i < ck := fun i hi => (p1 i hi).1.1
    refine ⟨π, i0, fun i hi => ⟨hpl i hi, by rw [upd_ne (by have := hpc i (by omega); omega)]; exact (p1 i (by omega)).2⟩, fun i j hi hj => p2 i j (by omega) (by omega), fun i hi => ?_, fun t ht e1 => ?_, fun hi => (hMs _ (hpc 0 (by omega)) _).mpr (p5 (by omega)), Or.inr ⟨ck, rfl, hliveK, (hMk _).mpr ?_⟩⟩
    · show gm (c_W (upd sm ck (nI w))) (π (i + 1)) (tq_x (fr (tq_x (sa' (π i)))))
      rw [hFn _ (hpc i (by omega))]
      exact (hMs _ (hpc _ (by omega)) _).mpr (p3 i (by omega))
    · have htc : t < ck := by
        have h1 := ht.1
        have h2 : t ≠ ck := fun e2 => by rw [e2, upd_eq] at e1; exact w_neg (by omega) e1.symm
        omega
      rw [upd_ne (by omega)] at e1
      obtain ⟨g1, g2⟩ := (hlive t htc).mp ht
      obtain ⟨i, hi, e2⟩ := p4 t g1 e1
      refine ⟨i, ?_, e2⟩
      rcases Nat.lt_or_ge i i0 with q | q
      · exact q
      · obtain ⟨x, hx⟩ := C.1.1.1 t htc
        exact absurd ((hbit x).mpr ⟨i - i0, by omega, by rw [show i0 + (i - i0) = i by omega, e2]; exact hx⟩) (g2 x hx)
    · refine (hbit _).mpr ⟨0, by omega, ?_⟩
      unfold w_at
      by_cases c1 : i0 = 0
      · rw [if_pos c1, c1]; exact p5 (by omega)
      · rw [if_neg c1]
        show gm (c_W sm) (π (i0 + 0)) (tq_x (fr (tq_x (sa' (π (i0 - 1))))))
        rw [hFn _ (hpc _ (by omega))]
        have h1 := p3 (i0 - 1) (by omega)
        rw [show i0 - 1 + 1 = i0 by omega] at h1
        exact h1
