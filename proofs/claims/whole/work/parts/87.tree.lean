/-- the class's tree and the reference's are the same -/
theorem cr_tree {nk r ak ck md : Nat} {fr to : Nat → Int32} {wt : Nat → Int64} {op sm sa so : Nat → Int32} {dw dp : Nat → Int64} {hm : Nat → Int32} {hw hp : Nat → Int64} {mm ma mv ml : Nat → Int32} {du dh dl : Nat → Int64} {ri0 me mi0 : Nat → Int32} (hnk : nk ≤ 24) (hr : r < nk) (hak : ak ≤ 60) (hto : ∀ j, j < 60 → tq_r 24 (to j)) (hfr2 : ∀ j, j < ak → tq_x (fr j) < nk)
    (C : ci (c_N nk r) ak fr to wt op ck sm sa so dw dp hm hw hp) (R : ri (c_N nk r) ak fr to wt op md mm ma mv ml du dh dl) (E : fm_end ck (gm (c_W sm)) (fun t => tq_x (fr (tq_x (sa t))))) (E' : fm_end md (gm (c_W mm)) (fun t => tq_x (fr (tq_x (ma t))))) (hck : ck ≤ 45) (hmr : mi0 r = -1) :
    ∃ ye yi : Nat → Int32, t_X4_solve_89 to mm ma mv md (me, mi0) md = (ye, yi) ∧ (∀ v, v < nk → f_X2_unfold ck to sm sa ri0 v = yi v) ∧ (∀ v, v < 24 → f_X2_unfold ck to sm sa ri0 v = -1 ∨ tq_r 60 (f_X2_unfold ck to sm sa ri0 v)) ∧
      (∀ v, v < nk → v ≠ r → tq_r ak (yi v)) ∧ yi r = -1 ∧ (∀ v, ¬ c_N nk r v → yi v = mi0 v) ∧ ∀ v, v < nk → ∃ n, nw (fun v => tq_x (fr (tq_x (yi v)))) v n = r := by
  obtain ⟨hsz, π, hπ, pinj, psur⟩ := cr_size C R E E'
  subst hsz
  obtain ⟨ye, yi, e1, h1, h2, h3, h4⟩ := r_enters (me := me) (mi := mi0) hnk hak hto R (by omega)
  have hWπ : ∀ s, s < ck → c_W sm s = c_W mm (π s) := fun s hs => by
    show tq_x (sm s) = tq_x (mm (π s))
    rw [(hπ s hs).2.1]
  have hM : ∀ s, s < ck → π s < ck ∧ ∀ v, gm (c_W sm) s v ↔ gm (c_W mm) (π s) v := fun s hs => ⟨(hπ s hs).1, fun v => by unfold gm; rw [hWπ s hs]⟩
  have hE : en_e ck (gm (c_W sm)) (fun j => tq_x (to j)) (fun s => tq_x (sa s)) (fun s => tq_x (ye (π s))) := fun s hs => by
    obtain ⟨g1, g2, g3⟩ := h2 (π s) (hπ s hs).1
    refine ⟨((hM s hs).2 _).mpr g1, fun hl => ?_, fun u hu => ?_⟩
    · have g4 := g2 ((fm_live_to C.1.1 R.1.1 hM psur hs).mp hl)
      show tq_x (ye (π s)) = tq_x (sa s)
      rw [(hπ s hs).2.2.1]; exact g4
    · obtain ⟨g5, g6⟩ := g3 (π u) (fm_around_to C.1.1 hM psur hs hu)
      refine ⟨fun h => g5 (((hM s hs).2 _).mp h), fun h => ?_⟩
      show tq_x (ye (π s)) = tq_x (sa s)
      rw [(hπ s hs).2.2.1]; exact g6 (fun h' => h (((hM s hs).2 _).mpr h'))
  obtain ⟨u1, u2, u3⟩ := c_unfold (ri0 := ri0) hnk hak hto C hck hE (fun s hs => (h1 (π s) (hπ s hs).1).2)
  have hsg : ∀ v, c_N nk r v → ∃ s, s < ck ∧ (∀ w, gm (c_W sm) s w ↔ w = v) ∧ yi v = ye (π s) := fun v hv => by
    obtain ⟨s, hs, g⟩ := C.1.1.2.2.1 v hv
    exact ⟨s, hs, g, h3 v (π s) (hπ s hs).1 (fun w => by rw [← (hM s hs).2 w]; exact g w)⟩
  have hyr : yi r = -1 := by rw [h4 r (fun h => h.2 rfl)]; exact hmr
  have hyi : ∀ v, v < nk → v ≠ r → tq_r ak (yi v) := fun v hv hvr => by
    obtain ⟨s, hs, g, g2⟩ := hsg v ⟨hv, hvr⟩
    rw [g2]; exact h1 _ (hπ s hs).1
  refine ⟨ye, yi, e1, fun v hv => ?_, u3, hyi, hyr, h4, ?_⟩
  · by_cases c : v = r
    · subst c
      rw [u2 v (by omega) (fun h => h.2 rfl), hyr]
    · obtain ⟨s, hs, g, g2⟩ := hsg v ⟨hv, c⟩
      rw [u1 v s hs g, g2]
      exact ((h1 _ (hπ s hs).1).1).symm
  · have P : ∀ s, s < ck → fm_live (gm (c_W sm)) ck s ∨ ∃ p, s < p ∧ fm_around ck (gm (c_W sm)) s p := fun s hs => by
      rcases C.2.2.2.2 s hs with ⟨-, c2⟩ | ⟨u, c1, c2, c3, c4, c5⟩
      · exact Or.inl c2
      · exact Or.inr ⟨u, c2, fm_around_of C.1.1 c2 c3 c4 c5⟩
    have hroot := tw_root (r := r) (F := fun j => tq_x (fr j)) (a := fun s => tq_x (sa s)) (nx := fun v => tq_x (fr (tq_x (yi v)))) C.1.1 P hE (fun s hs v g => by
      show tq_x (fr (tq_x (yi v))) = tq_x (fr (tq_x (ye (π s))))
      rw [h3 v (π s) (hπ s hs).1 (fun w => by rw [← (hM s hs).2 w]; exact g w)]) E (fun s hs => by
      have g1 := hfr2 _ (C.2.1 s hs).2.2
      by_cases c : tq_x (fr (tq_x (sa s))) = r
      · exact Or.inl c
      · exact Or.inr ⟨g1, c⟩)
    intro v hv
    by_cases c : v = r
    · exact ⟨0, c⟩
    · exact hroot v ⟨hv, c⟩
/-- the reference's row into, before it is filled -/
theorem k_zi {rt : Int32} {ak : Nat} {fr to : Nat → Int32} {wt : Nat → Int64} {op mi : Nat → Int32} {y : Nat × (Nat → Int32) × (Nat → Int32) × (Nat → Int32) × (Nat → Int32) × (Nat → Int64) × (Nat → Int64) × (Nat → Int64) × Int64 × Int64 × Int64} : ∀ i j, (t_X4_solve_32 rt ak fr to wt op (mi, y) i).1 j = if j < i then -1 else mi j := by
  intro i
  induction i with
  | zero => intro j; rw [if_neg (by omega)]; rfl
  | succ i ih =>
    intro j
    have e1 : (t_X4_solve_32 rt ak fr to wt op (mi, y) (i + 1)).1 = upd (t_X4_solve_32 rt ak fr to wt op (mi, y) i).1 i (-1) := by
      unfold t_X4_solve_32
      rw [tq_it_succ]
      unfold b_X4_solve_32
      split <;> rfl
    rw [e1]
    by_cases c : j = i
    · subst c; rw [upd_eq, if_pos (by omega)]
    · rw [upd_ne c, ih j]
      by_cases d : j < i
      · rw [if_pos d, if_pos (by omega)]
      · rw [if_neg d, if_neg (by omega)]
