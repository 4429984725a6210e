/-! The reference's sets so far are a run, and make makes it grow. -/
def r_V (ma : Nat → Int32) (du dh dl : Nat → Int64) : Nat → Nat × Int64 × Int := fun s => (tq_x (ma s), du s, r_x (dh s) (dl s))
def r_par (W : Nat → Nat) (k : Nat) (mv ml : Nat → Int32) (s : Nat) : Prop := (ml s = 1 ∧ mv s = -1 ∧ fm_live (gm W) k s) ∨ (ml s = 0 ∧ ∃ u, mv s = nI u ∧ s < u ∧ u < k ∧ fm_sub (gm W s) (gm W u) ∧ ∀ t, s < t → t < u → fm_dis (gm W s) (gm W t))
def ri (N : Nat → Prop) (ak : Nat) (fr to : Nat → Int32) (wt : Nat → Int64) (op : Nat → Int32) (k : Nat) (mm ma mv ml : Nat → Int32) (du dh dl : Nat → Int64) : Prop :=
  gr N (fun j => tq_x (fr j)) (fun j => tq_x (to j)) (fun j => ¬ op j = 0) wt ak k (c_W mm) (r_V ma du dh dl) ∧ (∀ s, s < k → tq_r (2 ^ 24) (mm s) ∧ tq_r ak (ma s) ∧ r_ok (dh s) (dl s)) ∧ ∀ s, s < k → r_par (c_W mm) k mv ml s
theorem r_add {N N' : Nat → Prop} {nk ak md w : Nat} {fr to : Nat → Int32} {wt : Nat → Int64} {op mm ma mv ml mv1 ml1 : Nat → Int32} {du dh dl : Nat → Int64} {r0 r1 r2 : Int64} (hnk : nk ≤ 24) (hak : ak ≤ 60) (hfr : ∀ j, j < 60 → tq_r 24 (fr j)) (hto : ∀ j, j < 60 → tq_r 24 (to j))
    (C : ri N ak fr to wt op md mm ma mv ml du dh dl) (hmd : md < 48) (hw24 : w < 2 ^ 24) (hadm : gr_adm (fun j => tq_x (fr j)) md (c_W mm) (r_V ma du dh dl) w) (hN : ∀ v, N v → N' v) (hin : ∀ v, w.testBit v = true → N' v) (hsg : ∀ v, N' v → N v ∨ ∀ x, w.testBit x = true ↔ x = v)
    (hent : ∃ j, j < ak ∧ (¬ op j = 0) ∧ w.testBit (tq_x (to j)) = true ∧ w.testBit (tq_x (fr j)) = false)
    (hpre : ∀ s, s < md → (ml s = 1 → (∃ v, gm (c_W mm) s v ∧ w.testBit v = true) → ml1 s = 0 ∧ mv1 s = nI md) ∧ (ml s = 1 → (∀ v, gm (c_W mm) s v → ¬ w.testBit v = true) → ml1 s = ml s ∧ mv1 s = mv s) ∧ (ml s = 0 → ml1 s = ml s ∧ mv1 s = mv s)) :
    ∃ (ma' : Nat → Int32) (du' dh' dl' : Nat → Int64) (q0 q1 q2 : Int64), f_X4_make ak md r0 r1 r2 fr to wt op mm ma du dh dl mv1 ml1 (nI w) = (md + 1, upd mm md (nI w), upd mv1 md (-1), upd ml1 md 1, ma', du', dh', dl', q0, q1, q2) ∧
      ri N' ak fr to wt op (md + 1) (upd mm md (nI w)) ma' (upd mv1 md (-1)) (upd ml1 md 1) du' dh' dl' ∧ ∀ s, s < md → ma' s = ma s := by
  obtain ⟨G, hr, hpar⟩ := C
  have hWk : c_W (upd mm md (nI w)) md = w := by
    show tq_x (upd mm md (nI w) md) = w
    rw [upd_eq, tq_x_nI (by omega)]
  have hW : ∀ s, s < md → c_W (upd mm md (nI w)) s = c_W mm s := fun s hs => by
    show tq_x (upd mm md (nI w) s) = tq_x (mm s)
    rw [upd_ne (by omega)]
  have hW2 : ∀ p, p < md + 1 → upd mm md (nI w) p = nI (c_W (upd mm md (nI w)) p) ∧ c_W (upd mm md (nI w)) p < 2 ^ 24 := fun p hp => by
    by_cases c1 : p = md
    · rw [c1, hWk, upd_eq]; exact ⟨rfl, hw24⟩
    · rw [hW p (by omega), upd_ne c1]; exact (hr p (by omega)).1
  obtain ⟨za, zu, zh, zl, q0, q1, q2, e1, hsame, hcase⟩ := k_find (ma := ma) (wt := wt) (op := op) (r0 := r0) (r1 := r1) (r2 := r2) hak hmd hfr hto hW2 (fun p hp => (hr p hp).2.2) ak (Nat.le_refl _)
  rw [hWk] at hcase
  rcases hcase with ⟨-, hno⟩ | ⟨b, g1, g2, g3, g4, g5⟩
  · obtain ⟨j, hj, h1⟩ := hent
    exact absurd h1 (hno j hj)
  · have hbak : b < ak := g2.2.1
    have hM : ∀ s, s < md → ∀ v, gm (c_W (upd mm md (nI w))) s v ↔ gm (c_W mm) s v := fun s hs v => by unfold gm; rw [hW s hs]
    have hMk : ∀ v, gm (c_W (upd mm md (nI w))) md v ↔ w.testBit v = true := fun v => by unfold gm; rw [hWk]
    have hmeet : ∀ t, t < md → ∀ v, gm (c_W mm) t v → w.testBit v = true → ∀ x, gm (c_W mm) t x → w.testBit x = true := fun t ht v h1 h2 => gr_meet G hadm ht h1 h2
    have hsum : ∀ (α : Type) [Add α] (z : α) (f : Nat → α) (v : Nat), w.testBit v = true → fs z (gr_in (c_W (upd mm md (nI w))) md v) f md = fs z (fun t => (c_W mm t).testBit v) f md := by
      intro α _ z f v hv
      refine fs_congr md (fun t ht => ?_) (fun _ _ _ => rfl)
      rcases hq : (c_W mm t).testBit v with _ | _
      · unfold gr_in; rw [hW t ht, hq]; rfl
      · refine gr_in_iff.mpr ⟨by unfold gm; rw [hW t ht]; exact hq, fun x hx => ?_⟩
        exact (hMk x).mpr (hmeet t ht v hq hv x ((hM t ht x).mp hx))
    have hkey : ∀ j, w.testBit (tq_x (to j)) = true → (wt j - fs 0 (gr_in (c_W (upd mm md (nI w))) md (tq_x (to j))) du md, (2 : Int) ^ j - fs 0 (gr_in (c_W (upd mm md (nI w))) md (tq_x (to j))) (fun p => r_x (dh p) (dl p)) md) = (wt j - gr_hw (c_W mm) (r_V ma du dh dl) md (tq_x (to j)), 2 ^ j - gr_h (c_W mm) (r_V ma du dh dl) md (tq_x (to j))) := fun j hj => by
      rw [hsum Int64 0 du _ hj, hsum Int 0 (fun p => r_x (dh p) (dl p)) _ hj]; rfl
    have hVk : r_V za zu zh zl md = (b, zu md, r_x (zh md) (zl md)) := by
      show (tq_x (za md), zu md, r_x (zh md) (zl md)) = _
      rw [g1, tq_x_nI (by omega)]
    have hV : ∀ s, s < md → r_V za zu zh zl s = r_V ma du dh dl s := fun s hs => by
      obtain ⟨k1, k2, k3, k4⟩ := hsame s (by omega)
      show (tq_x (za s), zu s, r_x (zh s) (zl s)) = (tq_x (ma s), du s, r_x (dh s) (dl s))
      rw [k1, k2, k3, k4]
    have G' : gr N' (fun j => tq_x (fr j)) (fun j => tq_x (to j)) (fun j => ¬ op j = 0) wt ak (md + 1) (c_W (upd mm md (nI w))) (r_V za zu zh zl) := by
      refine gr_ext G hW hV (by rw [hWk]; exact hadm) hN (by rw [hWk]; exact hin) (by rw [hWk]; exact hsg) ?_ ?_
      · rw [hWk, hVk]
        exact fk_congr (fun i _ => Iff.rfl) (fun i _ hi => hkey i hi.2.1) g2
      · rw [hVk]
        show (zu md, r_x (zh md) (zl md)) = _
        rw [← g3]
        exact hkey b g2.1.2.1
    have hok : r_ok (zh md) (zl md) := by
      have h1 := gr_small G hak md (Nat.le_refl _) (tq_x (to b))
      obtain ⟨b1, b2, b3⟩ := fi_pow b (by omega)
      have h2 : r_x (zh md) (zl md) = 2 ^ b - gr_h (c_W mm) (r_V ma du dh dl) md (tq_x (to b)) := by
        have h3 := (congrArg Prod.snd g3).symm.trans (congrArg Prod.snd (hkey b g2.1.2.1))
        exact h3
      have h2 : (zh md).toInt * 4611686018427387904 + (zl md).toInt = 2 ^ b - gr_h (c_W mm) (r_V ma du dh dl) md (tq_x (to b)) := h2
      exact ⟨g4, g5, by omega, by omega⟩
    refine ⟨za, zu, zh, zl, q0, q1, q2, ?_, ⟨G', fun s hs => ?_, fun s hs => ?_⟩, fun s hs => (hsame s (by omega)).1⟩
    · unfold f_X4_make f_X4_findArc
      rw [e1]
    · by_cases c1 : s = md
      · rw [c1, upd_eq, g1]
        exact ⟨tq_r_nI hw24 (by decide), tq_r_nI hbak (by omega), hok⟩
      · obtain ⟨k1, k2, k3, k4⟩ := hsame s c1
        rw [upd_ne c1, k1, k3, k4]; exact hr s (by omega)
    · by_cases c1 : s = md
      · rw [c1]
        exact Or.inl ⟨upd_eq, upd_eq, by omega, fun u h1 h2 => absurd h2 (by omega)⟩
      · have hs : s < md := by omega
        unfold r_par
        rw [upd_ne c1, upd_ne c1]
        obtain ⟨p1, p2, p3⟩ := hpre s hs
        rcases hpar s hs with ⟨m1, m2, m3⟩ | ⟨m1, u, m2, m3, m4, m5, m6⟩
        · by_cases c2 : ∃ v, gm (c_W mm) s v ∧ w.testBit v = true
          · obtain ⟨v, v1, v2⟩ := c2
            obtain ⟨n1, n2⟩ := p1 m1 ⟨v, v1, v2⟩
            exact Or.inr ⟨n1, md, n2, hs, by omega, fun x hx => (hMk x).mpr (hmeet s hs v v1 v2 x ((hM s hs x).mp hx)), fun t h1 h2 x h3 h4 => m3.2 t h1 h2 x ((hM s hs x).mp h3) ((hM t h2 x).mp h4)⟩
          · obtain ⟨n1, n2⟩ := p2 m1 (fun v v1 v2 => c2 ⟨v, v1, v2⟩)
            refine Or.inl ⟨n1.trans m1, n2.trans m2, by omega, fun u h1 h2 x h3 h4 => ?_⟩
            have h30 := (hM s hs x).mp h3
            by_cases c3 : u = md
            · rw [c3] at h4; exact c2 ⟨x, h30, (hMk x).mp h4⟩
            · exact m3.2 u h1 (by omega) x h30 ((hM u (by omega) x).mp h4)
        · obtain ⟨n1, n2⟩ := p3 m1
          exact Or.inr ⟨n1.trans m1, u, n2.trans m2, m3, by omega, fun x hx => (hM u m4 x).mpr (m5 x ((hM s hs x).mp hx)), fun t h1 h2 x h3 h4 => m6 t h1 h2 x ((hM s hs x).mp h3) ((hM t (by omega) x).mp h4)⟩
