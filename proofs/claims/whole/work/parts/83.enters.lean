/-! The arc by which each set is entered. -/
def en_e (k : Nat) (M : Nat → Nat → Prop) (T a e : Nat → Nat) : Prop :=
  ∀ s, s < k → M s (T (e s)) ∧ (fm_live M k s → e s = a s) ∧ ∀ u, fm_around k M s u → (M s (T (e u)) → e s = e u) ∧ (¬ M s (T (e u)) → e s = a s)
theorem en_down {N : Nat → Prop} {k : Nat} {M : Nat → Nat → Prop} {F T a e : Nat → Nat} (R : fm_run N k M F) (P : ∀ s, s < k → fm_live M k s ∨ ∃ p, s < p ∧ fm_around k M s p) (hE : en_e k M T a e) : ∀ d s u, s + d = k → s < k → u < k → fm_sub (M s) (M u) → M s (T (e u)) → e s = e u := by
  intro d
  induction d using Nat.strongRecOn with
  | _ d ih =>
    intro s u hd hs hu hsub hm
    by_cases c : u = s
    · rw [c]
    · rcases P s hs with h | ⟨p, hp, ha⟩
      · exact absurd ((fm_live_max R hs).mp h u hu hsub) c
      · have h1 : fm_sub (M p) (M u) := ha.2.2.2 u hu c hsub
        have h2 : e p = e u := ih (k - p) (by have := ha.1; omega) p u (by have := ha.1; omega) ha.1 hu h1 (ha.2.2.1 _ hm)
        rw [← h2]
        exact ((hE s hs).2.2 p ha).1 (by rw [h2]; exact hm)
theorem lb_pc_one : ∀ v, v < 24 → tb_pc (2 ^ v) 24 = 1 := by decide +kernel
theorem lb_one {w v : Nat} (hw : ∀ x, w.testBit x = true → x < 24) (hv : w.testBit v = true) (h : tb_pc w 24 = 1) : ∀ x, w.testBit x = true ↔ x = v := by
  intro x
  refine ⟨fun hx => ?_, fun hx => by rw [hx]; exact hv⟩
  refine Classical.byContradiction (fun c => ?_)
  have h1 := lb_pc_lt (a := 2 ^ v) (b := w) (x := x) (fun y hy => by
    rw [Nat.testBit_two_pow] at hy
    rw [← of_decide_eq_true hy]; exact hv) (hw x hx) hx (fun hy => by
    rw [Nat.testBit_two_pow] at hy
    exact c (of_decide_eq_true hy).symm)
  rw [lb_pc_one v (hw v hv)] at h1
  omega
theorem lb_single {w v : Nat} (hv : v < 24) (h : ∀ x, w.testBit x = true ↔ x = v) : tb_pc w 24 = 1 := by
  have e1 : w = 2 ^ v := by
    refine Nat.eq_of_testBit_eq (fun i => ?_)
    rw [Nat.testBit_two_pow]
    by_cases c : v = i
    · rw [decide_eq_true c]; exact (h i).mpr c.symm
    · rw [decide_eq_false c]
      cases q : w.testBit i with
      | false => rfl
      | true => exact absurd ((h i).mp q).symm c
  rw [e1]; exact lb_pc_one v hv
theorem r_enter1 {to zm za zv ye yi : Nat → Int32} {zd i : Nat} {s : Nat} (hs : zd - i - 1 = s) :
    b_X4_solve_89 to zm za zv zd i ye yi = (upd ye s (if zv s < 0 then za s else if f_X4_has zm s (to (tq_x (ye (tq_x (zv s))))) = 0 then za s else ye (tq_x (zv s))),
      if f_X4_bits (zm s) = 1 then upd yi (tq_x (f_X4_leastOf (zm s))) (if zv s < 0 then za s else if f_X4_has zm s (to (tq_x (ye (tq_x (zv s))))) = 0 then za s else ye (tq_x (zv s))) else yi) := by
  unfold b_X4_solve_89
  rw [hs]
  by_cases c1 : zv s < 0
  · rw [if_pos c1, if_pos c1]
    by_cases c3 : f_X4_bits (zm s) = 1
    · rw [if_pos c3, if_pos c3, upd_eq]
    · rw [if_neg c3, if_neg c3]
  · rw [if_neg c1, if_neg c1]
    by_cases c2 : f_X4_has zm s (to (tq_x (ye (tq_x (zv s))))) = 0
    · rw [if_pos c2, if_pos c2]
      by_cases c3 : f_X4_bits (zm s) = 1
      · rw [if_pos c3, if_pos c3, upd_eq]
      · rw [if_neg c3, if_neg c3]
    · rw [if_neg c2, if_neg c2]
      by_cases c3 : f_X4_bits (zm s) = 1
      · rw [if_pos c3, if_pos c3, upd_eq]
      · rw [if_neg c3, if_neg c3]
theorem r_enters {nk r ak md : Nat} {fr to : Nat → Int32} {wt : Nat → Int64} {op mm ma mv ml : Nat → Int32} {du dh dl : Nat → Int64} {me mi : Nat → Int32} (hnk : nk ≤ 24) (hak : ak ≤ 60) (hto : ∀ j, j < 60 → tq_r 24 (to j)) (R : ri (c_N nk r) ak fr to wt op md mm ma mv ml du dh dl) (hmd : md ≤ 48) :
    ∃ ye yi : Nat → Int32, t_X4_solve_89 to mm ma mv md (me, mi) md = (ye, yi) ∧ (∀ s, s < md → tq_r ak (ye s)) ∧ en_e md (gm (c_W mm)) (fun j => tq_x (to j)) (fun s => tq_x (ma s)) (fun s => tq_x (ye s)) ∧
      (∀ v s, s < md → (∀ w, gm (c_W mm) s w ↔ w = v) → yi v = ye s) ∧ ∀ v, ¬ c_N nk r v → yi v = mi v := by
  have hN : ∀ v, c_N nk r v → v < 24 := fun v hv => Nat.lt_of_lt_of_le hv.1 hnk
  have hWm : ∀ s, s < md → mm s = nI (c_W mm s) ∧ c_W mm s < 2 ^ 24 := fun s hs => ⟨(R.2.1 s hs).1.1, (R.2.1 s hs).1.2⟩
  obtain ⟨L, hL⟩ := nb_has R.1.1 (fun s hs => (hWm s hs).2) hN
  have hLN : ∀ s, s < md → c_N nk r (L s) := fun s hs => R.1.1.2.1 s hs _ (hL s hs).2.2.1
  have harc : ∀ s, s < md → gm (c_W mm) s (tq_x (to (tq_x (ma s)))) := fun s hs => (R.1.2 s hs).1.1.2.1
  have hbits : ∀ s, s < md → (f_X4_bits (mm s) = 1 ↔ tb_pc (c_W mm s) 24 = 1) := fun s hs => by
    have := lb_pc_le (c_W mm s)
    rw [(hWm s hs).1, k_bits (hWm s hs).2]
    exact nI_eq (b := 1) (by omega) (by decide)
  have hleast : ∀ s, s < md → tq_x (f_X4_leastOf (mm s)) = L s := fun s hs => by
    obtain ⟨a1, a2, a3, a4⟩ := hL s hs
    rw [(hWm s hs).1, k_leastOf a1 a2 a3 a4, tq_x_nI (by omega)]
  have hhas : ∀ s, s < md → ∀ x, tq_r ak x → (f_X4_has mm s (to (tq_x x)) = 0 ↔ ¬ gm (c_W mm) s (tq_x (to (tq_x x)))) := fun s hs x hx => by
    have e1 : f_X4_has mm s (to (tq_x x)) = f_X3_holds (nI (c_W mm s)) (to (tq_x x)) := by
      rw [← (hWm s hs).1]; rfl
    rw [e1, fb_holds0 (hWm s hs).2 (hto _ (Nat.lt_of_lt_of_le hx.2 hak))]
    unfold gm
    rw [Bool.not_eq_true]
  have key : ∀ i, i ≤ md → ∃ ye yi : Nat → Int32, t_X4_solve_89 to mm ma mv md (me, mi) i = (ye, yi) ∧
      (∀ s, md ≤ s + i → s < md → tq_r ak (ye s) ∧ gm (c_W mm) s (tq_x (to (tq_x (ye s)))) ∧ (mv s = -1 → ye s = ma s) ∧ ∀ u, mv s = nI u → u < md → s < u → (gm (c_W mm) s (tq_x (to (tq_x (ye u)))) → ye s = ye u) ∧ (¬ gm (c_W mm) s (tq_x (to (tq_x (ye u)))) → ye s = ma s)) ∧
      (∀ v s, md ≤ s + i → s < md → (∀ w, gm (c_W mm) s w ↔ w = v) → yi v = ye s) ∧ ∀ v, ¬ c_N nk r v → yi v = mi v := by
    intro i
    induction i with
    | zero => intro _; exact ⟨me, mi, rfl, fun s h1 h2 => absurd h1 (by omega), fun v s h1 h2 => absurd h1 (by omega), fun _ _ => rfl⟩
    | succ i ih =>
      intro hi
      obtain ⟨ye, yi, e1, h1, h2, h3⟩ := ih (by omega)
      obtain ⟨s, hs⟩ : ∃ s, md - i - 1 = s := ⟨_, rfl⟩
      have hs1 : s < md := by omega
      have e2 : t_X4_solve_89 to mm ma mv md (me, mi) (i + 1) = b_X4_solve_89 to mm ma mv md i ye yi := by
        unfold t_X4_solve_89 at e1 ⊢
        rw [tq_it_succ, e1]
      rw [e2, r_enter1 hs]
      obtain ⟨x, hx⟩ : ∃ x, (if mv s < 0 then ma s else if f_X4_has mm s (to (tq_x (ye (tq_x (mv s))))) = 0 then ma s else ye (tq_x (mv s))) = x := ⟨_, rfl⟩
      rw [hx]
      have fx : tq_r ak x ∧ gm (c_W mm) s (tq_x (to (tq_x x))) ∧ (mv s = -1 → x = ma s) ∧ ∀ u, mv s = nI u → u < md → s < u → (gm (c_W mm) s (tq_x (to (tq_x (ye u)))) → x = ye u) ∧ (¬ gm (c_W mm) s (tq_x (to (tq_x (ye u)))) → x = ma s) := by
        rcases R.2.2 s hs1 with ⟨r1, r2, r3⟩ | ⟨r1, u', r2, r3, r4, r5, r6⟩
        · rw [r2, if_pos (by decide)] at hx
          subst hx
          refine ⟨(R.2.1 s hs1).2.1, harc s hs1, fun _ => rfl, fun u hu h4 => ?_⟩
          rw [r2] at hu
          exact absurd hu.symm (tq_r_ne (tq_r_nI h4 (by omega)) (by omega))
        · have hu := h1 u' (by omega) r4
          rw [r2, if_neg (nI_pos (by omega)), tq_x_nI (by omega)] at hx
          have hh := hhas s hs1 (ye u') hu.1
          have huu : ∀ u, mv s = nI u → u < md → u = u' := fun u e h => by
            rw [r2] at e
            exact ((nI_eq (by omega) (by omega)).mp e).symm
          by_cases c : gm (c_W mm) s (tq_x (to (tq_x (ye u'))))
          · rw [if_neg (fun h => hh.mp h c)] at hx
            subst hx
            refine ⟨hu.1, c, fun e => ?_, fun u e h4 _ => ?_⟩
            · rw [r2] at e; exact absurd e (tq_r_ne (tq_r_nI r4 (by omega)) (by omega))
            · rw [huu u e h4]; exact ⟨fun _ => rfl, fun h => absurd c h⟩
          · rw [if_pos (hh.mpr c)] at hx
            subst hx
            refine ⟨(R.2.1 s hs1).2.1, harc s hs1, fun _ => rfl, fun u e h4 _ => ?_⟩
            rw [huu u e h4]; exact ⟨fun h => absurd h c, fun _ => rfl⟩
      refine ⟨_, _, rfl, fun t ht1 ht2 => ?_, fun v t ht1 ht2 hv => ?_, fun v hv => ?_⟩
      · by_cases c : t = s
        · subst c
          rw [upd_eq]
          refine ⟨fx.1, fx.2.1, fx.2.2.1, fun u e h4 h5 => ?_⟩
          rw [upd_ne (by omega)]
          exact fx.2.2.2 u e h4 h5
        · rw [upd_ne c]
          obtain ⟨g1, g2, g3, g4⟩ := h1 t (by omega) ht2
          refine ⟨g1, g2, g3, fun u e h4 h5 => ?_⟩
          rw [upd_ne (show u ≠ s by omega)]
          exact g4 u e h4 h5
      · by_cases c : t = s
        · subst c
          have hvN : c_N nk r v := R.1.1.2.1 t ht2 v ((hv v).mpr rfl)
          have hp : tb_pc (c_W mm t) 24 = 1 := lb_single (hN v hvN) hv
          rw [if_pos ((hbits t ht2).mpr hp), hleast t ht2, upd_eq, show v = L t from ((hv (L t)).mp (hL t ht2).2.2.1).symm, upd_eq]
        · rw [upd_ne c, ← h2 v t (by omega) ht2 hv]
          by_cases c3 : f_X4_bits (mm s) = 1
          · rw [if_pos c3, hleast s hs1]
            refine upd_ne (fun e => c ?_)
            refine fm_inj R.1.1 ht2 hs1 (fun w => ?_)
            rw [hv w, e]
            exact (lb_one (fun y hy => hN y (R.1.1.2.1 s hs1 y hy)) (hL s hs1).2.2.1 ((hbits s hs1).mp c3) w).symm
          · rw [if_neg c3]
      · rw [← h3 v hv]
        by_cases c3 : f_X4_bits (mm s) = 1
        · rw [if_pos c3, hleast s hs1]
          refine upd_ne (fun e => hv ?_)
          rw [e]; exact hLN s hs1
        · rw [if_neg c3]
  obtain ⟨ye, yi, e1, h1, h2, h3⟩ := key md (Nat.le_refl _)
  refine ⟨ye, yi, e1, fun s hs => (h1 s (by omega) hs).1, fun s hs => ⟨(h1 s (by omega) hs).2.1, fun hl => ?_, fun u hu => ?_⟩, fun v s hs => h2 v s (by omega) hs, h3⟩
  · rcases R.2.2 s hs with ⟨r1, r2, r3⟩ | ⟨r1, u', r2, r3, r4, r5, r6⟩
    · exact congrArg tq_x ((h1 s (by omega) hs).2.2.1 r2)
    · obtain ⟨v, hv⟩ := R.1.1.1 s hs
      exact absurd (hl.2 u' r3 r4 v hv (r5 v hv)) id
  · rcases R.2.2 s hs with ⟨r1, r2, r3⟩ | ⟨r1, u', r2, r3, r4, r5, r6⟩
    · exact absurd ((fm_live_max R.1.1 hs).mp r3 u hu.1 hu.2.2.1) hu.2.1
    · have e2 : u' = u := fm_around_one R.1.1 (fm_around_of R.1.1 r3 r4 r5 r6) hu
      subst e2
      have g := (h1 s (by omega) hs).2.2.2 u' r2 r4 r3
      exact ⟨fun h => congrArg tq_x (g.1 h), fun h => congrArg tq_x (g.2 h)⟩
