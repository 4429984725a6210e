theorem upd_eq {f : Nat → Int32} {k : Nat} {v : Int32} : upd f k v k = v := by show (if k = k then v else f k) = v; rw [if_pos rfl]
theorem upd_ne {f : Nat → Int32} {k s : Nat} {v : Int32} (h : s ≠ k) : upd f k v s = f s := by show (if s = k then v else f s) = f s; rw [if_neg h]
theorem updL_eq {f : Nat → Int64} {k : Nat} {v : Int64} : vp_updL f k v k = v := by show (if k = k then v else f k) = v; rw [if_pos rfl]
theorem updL_ne {f : Nat → Int64} {k s : Nat} {v : Int64} (h : s ≠ k) : vp_updL f k v s = f s := by show (if s = k then v else f s) = f s; rw [if_neg h]
/-- addSet: the run of the class grows by the set w -/
theorem c_add {N N' : Nat → Prop} {nk ak ck w : Nat} {fr to : Nat → Int32} {wt : Nat → Int64} {op sm sa so : Nat → Int32} {dw dp : Nat → Int64} {wk hm : Nat → Int32} {hw hp : Nat → Int64} (hnk : nk ≤ 24) (hak : ak ≤ 60) (hfr : ∀ j, j < 60 → tq_r 24 (fr j)) (hto : ∀ j, j < 60 → tq_r 24 (to j))
    (C : ci N ak fr to wt op ck sm sa so dw dp hm hw hp) (hck : ck < 45) (hw24 : w < 2 ^ 24) (hadm : gr_adm (fun j => tq_x (fr j)) ck (c_W sm) (c_V sa dw dp) w) (hN : ∀ v, N v → N' v) (hN24 : ∀ v, N' v → v < nk) (hin : ∀ v, w.testBit v = true → N' v) (hsg : ∀ v, N' v → N v ∨ ∀ x, w.testBit x = true ↔ x = v)
    (hent : ∃ j, j < ak ∧ (¬ op j = 0) ∧ w.testBit (tq_x (to j)) = true ∧ w.testBit (tq_x (fr j)) = false) :
    ∃ (sa' so' : Nat → Int32) (dw' dp' : Nat → Int64) (hm' : Nat → Int32) (hw' hp' : Nat → Int64), f_X0_addSet nk ak ck fr to wt op sm sa so dw dp wk hm hw hp (nI w) = (nI ck, ck + 1, upd sm ck (nI w), sa', so', dw', dp', upd wk ck (-1), hm', hw', hp') ∧
      ci N' ak fr to wt op (ck + 1) (upd sm ck (nI w)) sa' so' dw' dp' hm' hw' hp' ∧ (∀ s, s < ck → sa' s = sa s) ∧ (∀ v, hm' v = if v < nk ∧ w.testBit v = true then nI ck else hm v) ∧ so' ck = -1 ∧ ∀ s, s < ck → so' s = if so s = -1 ∧ ¬ (sm s &&& nI w) = 0 then nI ck else so s := by
  obtain ⟨G, hr, hh, hhome, hpar⟩ := C
  have hpow : ∀ v, v < 24 → -(2 : Int) ^ 60 < (hp v).toInt ∧ (hp v).toInt < 2 ^ 60 := fun v hv => by
    rw [(hh v hv).2]; exact gr_small G hak ck (Nat.le_refl _) v
  have hsmk : upd sm ck (nI w) ck = nI w := upd_eq
  rcases k_choose (wt := wt) (op := op) (sm := upd sm ck (nI w)) (hw := hw) (hp := hp) (k := ck) (w := w) hak hfr hto hw24 hsmk hpow ak (Nat.le_refl _) with ⟨-, hno⟩ | ⟨b, hb1, hb2, hb3⟩
  · obtain ⟨j, hj, h1⟩ := hent
    exact absurd h1 (hno j hj)
  · have hlt : nI ck < 45 := (nI_ltI (by omega) (by decide)).mpr hck
    have hbak : b < ak := hb2.2.1
    refine ⟨_, _, _, _, _, _, _, by unfold f_X0_addSet; rw [if_pos hlt], ?_, ?_, ?_, ?_, ?_⟩
    · -- the rows as they are now
      show ci N' ak fr to wt op (ck + 1) (upd sm ck (nI w)) (f_X0_chooseArc ak fr to wt op (upd sm ck (nI w)) sa dw dp hw hp ck).1 (upd (f_X0_takeInParts ck sm so (nI w) (nI ck)) ck (-1)) (f_X0_chooseArc ak fr to wt op (upd sm ck (nI w)) sa dw dp hw hp ck).2.1 (f_X0_chooseArc ak fr to wt op (upd sm ck (nI w)) sa dw dp hw hp ck).2.2 _ _ _
      have e1 : (f_X0_chooseArc ak fr to wt op (upd sm ck (nI w)) sa dw dp hw hp ck).1 = upd sa ck (nI b) := by rw [← hb1]; rfl
      have e2 : (f_X0_chooseArc ak fr to wt op (upd sm ck (nI w)) sa dw dp hw hp ck).2.1 = vp_updL dw ck (t_X0_chooseArc_10 fr to wt op (upd sm ck (nI w)) hw hp ck ((-1), 0, 0) ak).2.1 := rfl
      have e3 : (f_X0_chooseArc ak fr to wt op (upd sm ck (nI w)) sa dw dp hw hp ck).2.2 = vp_updL dp ck (t_X0_chooseArc_10 fr to wt op (upd sm ck (nI w)) hw hp ck ((-1), 0, 0) ak).2.2 := rfl
      rw [e1, e2, e3]
      clear e1 e2 e3 hb1
      generalize (t_X0_chooseArc_10 fr to wt op (upd sm ck (nI w)) hw hp ck ((-1), 0, 0) ak).2.1 = bw at hb3 ⊢
      generalize (t_X0_chooseArc_10 fr to wt op (upd sm ck (nI w)) hw hp ck ((-1), 0, 0) ak).2.2 = bp at hb3 ⊢
      have hWk : c_W (upd sm ck (nI w)) ck = w := by
        show tq_x (upd sm ck (nI w) ck) = w
        rw [upd_eq, tq_x_nI (by omega)]
      have hW : ∀ s, s < ck → c_W (upd sm ck (nI w)) s = c_W sm s := fun s hs => by
        show tq_x (upd sm ck (nI w) s) = tq_x (sm s)
        rw [upd_ne (by omega)]
      have hVk : c_V (upd sa ck (nI b)) (vp_updL dw ck bw) (vp_updL dp ck bp) ck = (b, bw, bp.toInt) := by
        show (tq_x (upd sa ck (nI b) ck), vp_updL dw ck bw ck, (vp_updL dp ck bp ck).toInt) = _
        rw [upd_eq, updL_eq, updL_eq, tq_x_nI (by omega)]
      have hV : ∀ s, s < ck → c_V (upd sa ck (nI b)) (vp_updL dw ck bw) (vp_updL dp ck bp) s = c_V sa dw dp s := fun s hs => by
        show (tq_x (upd sa ck (nI b) s), vp_updL dw ck bw s, (vp_updL dp ck bp s).toInt) = (tq_x (sa s), dw s, (dp s).toInt)
        rw [upd_ne (by omega), updL_ne (by omega), updL_ne (by omega)]
      have hkey : ∀ j, j < ak → (wt j - hw (tq_x (to j)), 2 ^ j - (hp (tq_x (to j))).toInt) = (wt j - gr_hw (c_W sm) (c_V sa dw dp) ck (tq_x (to j)), 2 ^ j - gr_h (c_W sm) (c_V sa dw dp) ck (tq_x (to j))) := fun j hj => by
        have h1 := hh _ (hto j (by omega)).2
        rw [h1.1, h1.2]
      have G' : gr N' (fun j => tq_x (fr j)) (fun j => tq_x (to j)) (fun j => ¬ op j = 0) wt ak (ck + 1) (c_W (upd sm ck (nI w))) (c_V (upd sa ck (nI b)) (vp_updL dw ck bw) (vp_updL dp ck bp)) := by
        refine gr_ext G hW hV (by rw [hWk]; exact hadm) hN (by rw [hWk]; exact hin) (by rw [hWk]; exact hsg) ?_ ?_
        · rw [hWk, hVk]
          exact fk_congr (fun i _ => Iff.rfl) (fun i hi _ => hkey i hi) hb2
        · rw [hVk]
          show (bw, bp.toInt) = _
          rw [← hb3]
          exact hkey b hbak
      have hmeet : ∀ t, t < ck → ∀ v, gm (c_W sm) t v → w.testBit v = true → ∀ x, gm (c_W sm) t x → w.testBit x = true := fun t ht v h1 h2 => gr_meet G hadm ht h1 h2
      have hMs : ∀ s, s < ck → ∀ v, gm (c_W (upd sm ck (nI w))) s v ↔ gm (c_W sm) s v := fun s hs v => by unfold gm; rw [hW s hs]
      have hMk : ∀ v, gm (c_W (upd sm ck (nI w))) ck v ↔ w.testBit v = true := fun v => by unfold gm; rw [hWk]
      have hlive : ∀ s, fm_live (gm (c_W sm)) ck s → (∀ v, gm (c_W sm) s v → w.testBit v = true → False) → fm_live (gm (c_W (upd sm ck (nI w)))) (ck + 1) s := fun s hs hd => by
        refine ⟨by have := hs.1; omega, fun u h1 h2 v h3 h4 => ?_⟩
        have h30 := (hMs s hs.1 v).mp h3
        by_cases c1 : u = ck
        · rw [c1] at h4; exact hd v h30 ((hMk v).mp h4)
        · exact hs.2 u h1 (by omega) v h30 ((hMs u (by omega) v).mp h4)
      have hbit : ∀ v, (v < nk ∧ w.testBit v = true) ↔ w.testBit v = true := fun v => ⟨fun h => h.2, fun h => ⟨hN24 v (hin v h), h⟩⟩
      refine ⟨G', fun s hs => ?_, fun v hv => ?_, fun v hv => ?_, fun s hs => ?_⟩
      · by_cases c1 : s = ck
        · subst c1
          rw [upd_eq, upd_eq]
          exact ⟨tq_r_nI hw24 (by decide), tq_r_nI hbak (by omega)⟩
        · rw [upd_ne c1, upd_ne c1]; exact hr s (by omega)
      · have hd := k_dual (nk := nk) (sm := upd sm ck (nI w)) (dw := vp_updL dw ck bw) (dp := vp_updL dp ck bp) (hm := hm) (hw := hw) (hp := hp) (k := ck) hnk hw24 hsmk v
        rw [updL_eq, updL_eq] at hd
        simp only [hbit] at hd
        have g1 := gr_hw_ext hW hV v
        have g2 := gr_h_ext hW hV v
        rw [hWk, hVk] at g1 g2
        have g3 := gr_small G' hak (ck + 1) (Nat.le_refl _) v
        rw [hd.2.1, hd.2.2, g1, g2]
        rw [g2] at g3
        obtain ⟨k1, k2⟩ := hh v hv
        by_cases c1 : w.testBit v = true
        · rw [if_pos c1] at g3
          rw [if_pos c1, if_pos c1, if_pos c1, if_pos c1, k1]
          refine ⟨rfl, ?_⟩
          have g3 : -(2 : Int) ^ 60 < gr_h (c_W sm) (c_V sa dw dp) ck v + bp.toInt ∧ gr_h (c_W sm) (c_V sa dw dp) ck v + bp.toInt < 2 ^ 60 := g3
          rw [fi_add (by rw [k2]; omega) (by rw [k2]; omega), k2]
        · rw [if_neg c1, if_neg c1, if_neg c1, if_neg c1]; exact ⟨k1, k2⟩
      · have hd := (k_dual (nk := nk) (sm := upd sm ck (nI w)) (dw := vp_updL dw ck bw) (dp := vp_updL dp ck bp) (hm := hm) (hw := hw) (hp := hp) (k := ck) hnk hw24 hsmk v).1
        simp only [hbit] at hd
        rw [hd]
        by_cases c1 : w.testBit v = true
        · rw [if_pos c1]
          exact ⟨fun _ => ⟨ck, rfl, ⟨by omega, fun u h1 h2 => absurd h2 (by omega)⟩, (hMk v).mpr c1⟩, fun h => absurd (hin v c1) h⟩
        · rw [if_neg c1]
          refine ⟨fun h => ?_, fun h => (hhome v hv).2 (fun h1 => h (hN v h1))⟩
          rcases hsg v h with h1 | h1
          · obtain ⟨q, q1, q2, q3⟩ := (hhome v hv).1 h1
            exact ⟨q, q1, hlive q q2 (fun x g1 g2 => c1 (hmeet q q2.1 x g1 g2 v q3)), (hMs q q2.1 v).mpr q3⟩
          · exact absurd ((h1 v).mpr rfl) c1
      · by_cases c1 : s = ck
        · subst c1
          exact Or.inl ⟨upd_eq, by omega, fun u h1 h2 => absurd h2 (by omega)⟩
        · have hs : s < ck := by omega
          unfold c_par
          rw [upd_ne c1, k_parts]
          have hm2 := fb_meet (hr s hs).1.2 hw24
          rw [← (hr s hs).1.1] at hm2
          rcases hpar s hs with ⟨p1, p2⟩ | ⟨u, p1, p2, p3, p4, p5⟩
          · by_cases c2 : (sm s &&& nI w) = 0
            · rw [if_neg (fun h => h.2.2 c2)]
              refine Or.inl ⟨p1, hlive s p2 (fun v g1 g2 => (hm2.mpr ⟨v, g1, g2⟩) c2)⟩
            · rw [if_pos ⟨hs, p1, c2⟩]
              obtain ⟨v, g1, g2⟩ := hm2.mp c2
              refine Or.inr ⟨ck, rfl, hs, by omega, fun x hx => (hMk x).mpr (hmeet s hs v g1 g2 x ((hMs s hs x).mp hx)), fun t h1 h2 v h3 h4 => p2.2 t h1 h2 v ((hMs s hs v).mp h3) ((hMs t h2 v).mp h4)⟩
          · have hne : ¬ so s = -1 := by rw [p1]; exact tq_r_ne (n := 60) (tq_r_nI (by omega) (by decide)) (by decide)
            rw [if_neg (fun h => hne h.2.1)]
            exact Or.inr ⟨u, p1, p2, by omega, fun x hx => (hMs u p3 x).mpr (p4 x ((hMs s hs x).mp hx)), fun t h1 h2 v h3 h4 => p5 t h1 h2 v ((hMs s hs v).mp h3) ((hMs t (by omega) v).mp h4)⟩
    · intro s hs
      show upd sa ck _ s = sa s
      exact upd_ne (by omega)
    · intro v
      exact (k_dual (nk := nk) (sm := upd sm ck (nI w)) hnk hw24 hsmk v).1
    · exact upd_eq
    · intro s hs
      rw [upd_ne (by omega), k_parts]
      simp only [hs, true_and]
