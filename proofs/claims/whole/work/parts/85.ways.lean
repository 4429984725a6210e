/-! The way back from every node ends at the root. -/
def nw (nx : Nat → Nat) (v : Nat) : Nat → Nat
  | 0 => v
  | n + 1 => nx (nw nx v n)
theorem nw_add {nx : Nat → Nat} {v n : Nat} : ∀ m, nw nx v (n + m) = nw nx (nw nx v n) m := by
  intro m
  induction m with
  | zero => rfl
  | succ m ih =>
    show nx (nw nx v (n + m)) = nx (nw nx (nw nx v n) m)
    rw [ih]
theorem tw_leave {N : Nat → Prop} {k : Nat} {M : Nat → Nat → Prop} {F T a e nx : Nat → Nat} (R : fm_run N k M (fun s => F (a s))) (hE : en_e k M T a e) (hx : ∀ s, s < k → ∀ v, (∀ w, M s w ↔ w = v) → nx v = F (e s)) : ∀ s, s < k → ∀ v, M s v → ∃ n, nw nx v n = F (e s) := by
  intro s
  induction s using Nat.strongRecOn with
  | _ s ih =>
    intro hs v hv
    rcases R.2.2.2.2 s hs with ⟨⟨v', h1⟩, -⟩ | ⟨b, h1, h2, h3, h4⟩
    · have e1 : v = v' := (h1 v).mp hv
      subst e1
      exact ⟨1, hx s hs v h1⟩
    · have ar : ∀ i, fm_around k M (b i) s := fun i => fm_around_of R (h1 i).1 hs (fun w hw => (h4 w).mpr ⟨i, hw⟩) (h1 i).2
      have hbk : ∀ i, b i < k := fun i => Nat.lt_trans (h1 i).1 hs
      obtain ⟨i0, hi0⟩ := (h4 _).mp (hE s hs).1
      have go : ∀ m x v, b (x + m) = b i0 → M (b x) v → ∃ n, nw nx v n = F (e s) := by
        intro m
        induction m with
        | zero =>
          intro x v hb hm
          obtain ⟨n, hn⟩ := ih (b x) (h1 x).1 (hbk x) v hm
          have hb : b x = b i0 := hb
          have e2 : e (b x) = e s := ((hE (b x) (hbk x)).2.2 s (ar x)).1 (by rw [hb]; exact hi0)
          exact ⟨n, by rw [hn, e2]⟩
        | succ m ihm =>
          intro x v hb hm
          obtain ⟨n, hn⟩ := ih (b x) (h1 x).1 (hbk x) v hm
          by_cases c : M (b x) (T (e s))
          · exact ⟨n, by rw [hn, ((hE (b x) (hbk x)).2.2 s (ar x)).1 c]⟩
          · have e2 : e (b x) = a (b x) := ((hE (b x) (hbk x)).2.2 s (ar x)).2 c
            obtain ⟨n2, hn2⟩ := ihm (x + 1) (F (e (b x))) (by rw [← hb]; congr 1; omega) (by rw [e2]; exact h2 x)
            exact ⟨n + n2, by rw [nw_add, hn, hn2]⟩
      obtain ⟨x, hx2⟩ := (h4 v).mp hv
      obtain ⟨m, hm⟩ := fm_far h3 x i0
      exact go m x v hm hx2
theorem fm_home {N : Nat → Prop} {k : Nat} {M : Nat → Nat → Prop} {F : Nat → Nat} (R : fm_run N k M F) (P : ∀ s, s < k → fm_live M k s ∨ ∃ p, s < p ∧ fm_around k M s p) {v : Nat} (hv : N v) : ∃ s, fm_live M k s ∧ M s v := by
  have go : ∀ d s, s + d = k → s < k → M s v → ∃ s, fm_live M k s ∧ M s v := by
    intro d
    induction d using Nat.strongRecOn with
    | _ d ih =>
      intro s hd hs hm
      rcases P s hs with h | ⟨p, hp, ha⟩
      · exact ⟨s, h, hm⟩
      · exact ih (k - p) (by have := ha.1; omega) p (by have := ha.1; omega) ha.1 (ha.2.2.1 v hm)
  obtain ⟨s, hs, h1⟩ := R.2.2.1 v hv
  exact go (k - s) s (by omega) hs ((h1 v).mpr rfl)
theorem tw_root {N : Nat → Prop} {k r : Nat} {M : Nat → Nat → Prop} {F T a e nx : Nat → Nat} (R : fm_run N k M (fun s => F (a s))) (P : ∀ s, s < k → fm_live M k s ∨ ∃ p, s < p ∧ fm_around k M s p) (hE : en_e k M T a e) (hx : ∀ s, s < k → ∀ v, (∀ w, M s w ↔ w = v) → nx v = F (e s)) (hend : fm_end k M (fun s => F (a s))) (hF : ∀ s, s < k → F (a s) = r ∨ N (F (a s))) : ∀ v, N v → ∃ n, nw nx v n = r := by
  intro v hv
  refine Classical.byContradiction (fun hno => hend ?_)
  have step : ∀ c, ∃ c', (fm_live M k c ∧ ∃ v, M c v ∧ ∀ n, nw nx v n ≠ r) → (fm_live M k c' ∧ ∃ v, M c' v ∧ ∀ n, nw nx v n ≠ r) ∧ M c' (F (a c)) := fun c => by
    by_cases q : fm_live M k c ∧ ∃ v, M c v ∧ ∀ n, nw nx v n ≠ r
    · obtain ⟨hl, v, hm, hb⟩ := q
      obtain ⟨n, hn⟩ := tw_leave R hE hx c hl.1 v hm
      rw [(hE c hl.1).2.1 hl] at hn
      rcases hF c hl.1 with h | h
      · exact absurd (hn.trans h) (hb n)
      · obtain ⟨c', h1, h2⟩ := fm_home R P h
        exact ⟨c', fun _ => ⟨⟨h1, F (a c), h2, fun m => by rw [← hn, ← nw_add]; exact hb (n + m)⟩, h2⟩⟩
    · exact ⟨0, fun h => absurd h q⟩
  obtain ⟨g, hg⟩ : ∃ g : Nat → Nat, ∀ c, (fm_live M k c ∧ ∃ v, M c v ∧ ∀ n, nw nx v n ≠ r) → (fm_live M k (g c) ∧ ∃ v, M (g c) v ∧ ∀ n, nw nx v n ≠ r) ∧ M (g c) (F (a c)) := ⟨fun c => Classical.choose (step c), fun c => Classical.choose_spec (step c)⟩
  obtain ⟨c0, h1, h2⟩ := fm_home R P hv
  have hall : ∀ i, fm_live M k (nw g c0 i) ∧ ∃ v, M (nw g c0 i) v ∧ ∀ n, nw nx v n ≠ r := by
    intro i
    induction i with
    | zero => exact ⟨h1, v, h2, fun n h => hno ⟨n, h⟩⟩
    | succ i ih => exact (hg _ ih).1
  exact ⟨nw g c0, fun i => (hall i).1, fun i => (hg _ (hall i)).2⟩
theorem tw_short {nk r v : Nat} {nx : Nat → Nat} (hnk : nk ≤ 24) (hnx : ∀ v, v < nk → v ≠ r → nx v < nk) (hv : v < nk) (h : ∃ n, nw nx v n = r) : ∃ n, n ≤ 23 ∧ nw nx v n = r ∧ ∀ i, i < n → nw nx v i ≠ r ∧ nw nx v i < nk := by
  obtain ⟨n, h1, h2⟩ := fm_least h
  have lt : ∀ i, i ≤ n → nw nx v i < nk := by
    intro i
    induction i with
    | zero => intro _; exact hv
    | succ i ih => intro hi; exact hnx _ (ih (by omega)) (h2 i (by omega))
  have inj : ∀ i, i < n + 1 → ∀ j, j < n + 1 → i < j → nw nx v i = nw nx v j → False := fun i hi j hj hij e1 => by
    refine h2 (i + (n - j)) (by omega) ?_
    rw [nw_add, e1, ← nw_add, show j + (n - j) = n by omega]
    exact h1
  have h3 := fs_inj (n := n + 1) (m := nk) (g := nw nx v) (fun i hi => lt i (by omega)) (fun i hi j hj e1 => by
    rcases Nat.lt_trichotomy i j with c | c | c
    · exact absurd (inj i hi j hj c e1) id
    · exact c
    · exact absurd (inj j hj i hi c e1.symm) id)
  exact ⟨n, by omega, h1, fun i hi => ⟨h2 i hi, lt i (by omega)⟩⟩
/-- depth and far: the two walks are the same -/
theorem cr_ways {nk r ak v : Nat} {hv : Int32} {fr mi ri : Nat → Int32} {wt : Nat → Int64} (hnk : nk ≤ 24) (hr : r < nk) (hhv : ¬ hv = 0) (hak : ak ≤ 60) (hfr : ∀ j, j < ak → tq_r nk (fr j)) (hri : ∀ v, v < nk → ri v = mi v) (hmi : ∀ v, v < nk → v ≠ r → tq_r ak (mi v)) (hmr : mi r = -1) (hvn : v < nk) (hroot : ∃ n, nw (fun v => tq_x (fr (tq_x (mi v)))) v n = r) :
    q_dep (nI r) hv fr mi (nI v) ∧ q_far (nI r) hv fr wt mi (nI v) ∧ (t_X4_depth_30 (nI r) hv fr mi (0, nI v) 24).2.1 = f_X2_arcsOnWayTo fr ri (nI v) ∧ (t_X4_far_31 (nI r) hv fr wt mi (0, nI v) 24).2.1 = f_X2_weightOfWayTo fr wt ri (nI v) := by
  obtain ⟨nx, hnx⟩ : ∃ nx, nx = (fun v => tq_x (fr (tq_x (mi v)))) := ⟨_, rfl⟩
  rw [← hnx] at hroot
  have hst : ∀ v, v < nk → v ≠ r → fr (tq_x (mi v)) = nI (nx v) ∧ nx v < nk := fun v h1 h2 => by
    have h3 := hfr _ (hmi v h1 h2).2
    rw [hnx]
    exact h3
  obtain ⟨n, hn, hnr, hni⟩ := tw_short hnk (fun v h1 h2 => (hst v h1 h2).2) hvn hroot
  have eqr : ∀ i, i < n → ¬ nI (nw nx v i) = nI r := fun i hi h => (hni i hi).1 ((nI_eq (by have := (hni i hi).2; omega) (by omega)).mp h)
  have xx : ∀ i, i < n → tq_x (nI (nw nx v i)) = nw nx v i := fun i hi => tq_x_nI (by have := (hni i hi).2; omega)
  have key : ∀ i, i ≤ n → ∃ S : Int64, t_X4_depth_30 (nI r) hv fr mi (0, nI v) i = (false, nI i, nI (nw nx v i)) ∧ t_X2_arcsOnWayTo_9 fr ri (0, ri v) i = (false, nI i, ri (nw nx v i)) ∧ t_X4_far_31 (nI r) hv fr wt mi (0, nI v) i = (false, S, nI (nw nx v i)) ∧ t_X2_weightOfWayTo_13 fr wt ri (0, ri v) i = (false, S, ri (nw nx v i)) := by
    intro i
    induction i with
    | zero => intro _; exact ⟨0, rfl, rfl, rfl, rfl⟩
    | succ i ih =>
      intro hi
      obtain ⟨S, a1, a2, a3, a4⟩ := ih (by omega)
      obtain ⟨g1, g2⟩ := hst _ (hni i (by omega)).2 (hni i (by omega)).1
      have g3 := hmi _ (hni i (by omega)).2 (hni i (by omega)).1
      have b1 : t_X4_depth_30 (nI r) hv fr mi (0, nI v) (i + 1) = b_X4_depth_30 (nI r) hv fr mi i (nI i) (nI (nw nx v i)) := tq_br_go a1
      have b2 : t_X2_arcsOnWayTo_9 fr ri (0, ri v) (i + 1) = b_X2_arcsOnWayTo_9 fr ri i (nI i) (ri (nw nx v i)) := tq_br_go a2
      have b3 : t_X4_far_31 (nI r) hv fr wt mi (0, nI v) (i + 1) = b_X4_far_31 (nI r) hv fr wt mi i S (nI (nw nx v i)) := tq_br_go a3
      have b4 : t_X2_weightOfWayTo_13 fr wt ri (0, ri v) (i + 1) = b_X2_weightOfWayTo_13 fr wt ri i S (ri (nw nx v i)) := tq_br_go a4
      refine ⟨S + wt (tq_x (mi (nw nx v i))), ?_, ?_, ?_, ?_⟩
      · rw [b1]
        unfold b_X4_depth_30
        rw [if_neg hhv, if_neg (eqr i (by omega)), xx i (by omega), g1, nI_1]
        rfl
      · rw [b2, hri _ (hni i (by omega)).2]
        unfold b_X2_arcsOnWayTo_9
        rw [if_neg (tq_r_ne g3 (by omega)), g1, tq_x_nI (by omega), nI_1]
        rfl
      · rw [b3]
        unfold b_X4_far_31
        rw [if_neg hhv, if_neg (eqr i (by omega)), xx i (by omega), g1]
        rfl
      · rw [b4, hri _ (hni i (by omega)).2]
        unfold b_X2_weightOfWayTo_13
        rw [if_neg (tq_r_ne g3 (by omega)), g1, tq_x_nI (by omega)]
        rfl
  obtain ⟨S, a1, a2, a3, a4⟩ := key n (Nat.le_refl _)
  rw [hnr] at a1 a2 a3 a4
  rw [hri r hr, hmr] at a2 a4
  have c1 : t_X4_depth_30 (nI r) hv fr mi (0, nI v) 24 = (true, nI n, nI r) := tq_br_stop a1 (by
    show b_X4_depth_30 (nI r) hv fr mi n (nI n) (nI r) = _
    unfold b_X4_depth_30
    rw [if_neg hhv, if_pos rfl]) (by omega)
  have c2 : t_X2_arcsOnWayTo_9 fr ri (0, ri v) 24 = (true, nI n, -1) := tq_br_stop a2 (by
    show b_X2_arcsOnWayTo_9 fr ri n (nI n) (-1) = _
    unfold b_X2_arcsOnWayTo_9
    rw [if_pos rfl]) (by omega)
  have c3 : t_X4_far_31 (nI r) hv fr wt mi (0, nI v) 24 = (true, S, nI r) := tq_br_stop a3 (by
    show b_X4_far_31 (nI r) hv fr wt mi n S (nI r) = _
    unfold b_X4_far_31
    rw [if_neg hhv, if_pos rfl]) (by omega)
  have c4 : t_X2_weightOfWayTo_13 fr wt ri (0, ri v) 24 = (true, S, -1) := tq_br_stop a4 (by
    show b_X2_weightOfWayTo_13 fr wt ri n S (-1) = _
    unfold b_X2_weightOfWayTo_13
    rw [if_pos rfl]) (by omega)
  refine ⟨?_, ?_, ?_, ?_⟩
  · unfold q_dep; rw [c1]
  · unfold q_far; rw [c3]
  · unfold f_X2_arcsOnWayTo
    rw [tq_x_nI (by omega), c1, c2]
  · unfold f_X2_weightOfWayTo
    rw [tq_x_nI (by omega), c3, c4]
