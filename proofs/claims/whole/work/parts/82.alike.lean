/-- at each number the class and the reference have the same set -/
theorem cr_number {nk r ak ck md : Nat} {fr to : Nat → Int32} {wt : Nat → Int64} {op sm sa so : Nat → Int32} {dw dp : Nat → Int64} {hm : Nat → Int32} {hw hp : Nat → Int64} {mm ma mv ml : Nat → Int32} {du dh dl : Nat → Int64} {nu by_ od nu' by' od' : Nat → Int32} (hnk : nk ≤ 24) (C : ci (c_N nk r) ak fr to wt op ck sm sa so dw dp hm hw hp) (R : ri (c_N nk r) ak fr to wt op md mm ma mv ml du dh dl)
    (E : fm_end ck (gm (c_W sm)) (fun t => tq_x (fr (tq_x (sa t))))) (E' : fm_end md (gm (c_W mm)) (fun t => tq_x (fr (tq_x (ma t))))) (hck : ck ≤ 45) (hby : ∀ j, j < 45 → tq_r 45 (by_ j)) (en : f_X0_numberSets ck sm nu by_ = (nu', by')) (eo : f_X4_number md mm od = od') :
    (∀ j, j < 45 → tq_r 45 (by' j)) ∧ (∀ j, j < md → tq_r md (od' j)) ∧ ∀ k, k < ck → tq_r ck (by' k) ∧ sm (tq_x (by' k)) = mm (tq_x (od' k)) ∧ sa (tq_x (by' k)) = ma (tq_x (od' k)) ∧ dw (tq_x (by' k)) = du (tq_x (od' k)) ∧
      ((so (tq_x (by' k)) = -1 ∧ ml (tq_x (od' k)) = 1 ∧ mv (tq_x (od' k)) = -1) ∨ (¬ so (tq_x (by' k)) = -1 ∧ ml (tq_x (od' k)) = 0 ∧ ∃ n, f_X0_numberOfOuter so nu' (by' k) = nI n ∧ ¬ mv (tq_x (od' k)) < 0 ∧ q_num od' (mv (tq_x (od' k))) ∧ f_X4_numberOf od' (mv (tq_x (od' k))) = nI n)) := by
  obtain ⟨hsz, π, hπ, pinj, psur⟩ := cr_size C R E E'
  subst hsz
  have hN : ∀ v, c_N nk r v → v < 24 := fun v hv => Nat.lt_of_lt_of_le hv.1 hnk
  have hWs : ∀ s, s < ck → sm s = nI (c_W sm s) ∧ c_W sm s < 2 ^ 24 := fun s hs => ⟨(C.2.1 s hs).1.1, (C.2.1 s hs).1.2⟩
  have hWm : ∀ s, s < ck → mm s = nI (c_W mm s) ∧ c_W mm s < 2 ^ 24 := fun s hs => ⟨(R.2.1 s hs).1.1, (R.2.1 s hs).1.2⟩
  obtain ⟨L, hL⟩ := nb_has C.1.1 (fun s hs => (hWs s hs).2) hN
  obtain ⟨L', hL'⟩ := nb_has R.1.1 (fun s hs => (hWm s hs).2) hN
  have hWπ : ∀ s, s < ck → c_W sm s = c_W mm (π s) := fun s hs => by
    show tq_x (sm s) = tq_x (mm (π s))
    rw [(hπ s hs).2.1]
  have hKπ : ∀ s, s < ck → nb_K (c_W sm) L s = nb_K (c_W mm) L' (π s) := fun s hs => by
    obtain ⟨-, a2, a3, a4⟩ := hL s hs
    obtain ⟨-, b2, b3, b4⟩ := hL' (π s) (hπ s hs).1
    rw [← hWπ s hs] at b3 b4
    have e1 : L s = L' (π s) := by
      rcases Nat.lt_trichotomy (L s) (L' (π s)) with c | c | c
      · have := b4 _ c; rw [a3] at this; exact absurd this (by decide)
      · exact c
      · have := a4 _ c; rw [b3] at this; exact absurd this (by decide)
    unfold nb_K
    rw [← hWπ s hs, e1]
  have inj : ∀ s, s < ck → ∀ t, t < ck → nb_K (c_W sm) L s = nb_K (c_W sm) L t → s = t := fun s hs t ht h => nb_inj C.1.1 hN hL hs ht h
  have inj' : ∀ s, s < ck → ∀ t, t < ck → nb_K (c_W mm) L' s = nb_K (c_W mm) L' t → s = t := fun s hs t ht h => nb_inj R.1.1 hN hL' hs ht h
  have cn := c_number (nu := nu) (by_ := by_) hck (K := nb_K (c_W sm) L) (sm := sm) (fun i hi j hj => by
    obtain ⟨a1, a2, a3, a4⟩ := hL i hi
    obtain ⟨b1, b2, b3, b4⟩ := hL j hj
    rw [(hWs i hi).1, (hWs j hj).1]
    exact k_first b1 a1 b2 a2 b3 b4 a3 a4) inj hby
  have rn := r_number (md := ck) (mm := mm) (od := od) (K := nb_K (c_W mm) L') (by omega) (fun i hi j hj => by
    obtain ⟨a1, a2, a3, a4⟩ := hL' i hi
    obtain ⟨b1, b2, b3, b4⟩ := hL' j hj
    exact k_isBefore (hWm i hi).1 (hWm j hj).1 a1 b1 a2 b2 a3 a4 b3 b4) inj'
  rw [en] at cn
  rw [eo] at rn
  obtain ⟨n1, n2, n3⟩ := cn
  obtain ⟨o1, o2⟩ := rn
  dsimp only at n1 n2 n3
  refine ⟨n3, o1, ?_⟩
  have hb : ∀ k, k < ck → ∃ s, s < ck ∧ nb_rk (nb_K (c_W sm) L) ck s = k ∧ by' k = nI s := fun k hk => by
    obtain ⟨s, hs, e1⟩ := nb_onto (n := ck) (g := nb_rk (nb_K (c_W sm) L) ck) (fun t ht => nb_rk_bd ht) (fun t ht u hu h => nb_rk_inj inj ht hu h) hk
    exact ⟨s, hs, e1, by rw [← e1]; exact n2 s hs⟩
  have hbr : ∀ k, k < ck → tq_r ck (by' k) ∧ nb_rk (nb_K (c_W sm) L) ck (tq_x (by' k)) = k := fun k hk => by
    obtain ⟨s, hs, e1, e2⟩ := hb k hk
    rw [e2, tq_x_nI (by omega)]
    exact ⟨tq_r_nI hs (by omega), e1⟩
  have same : ∀ k, k < ck → π (tq_x (by' k)) = tq_x (od' k) := by
    refine nb_seq (K := nb_K (c_W mm) L') (n := ck) (a := fun k => π (tq_x (by' k))) (b := fun k => tq_x (od' k)) inj' (fun k hk => (hπ _ (hbr k hk).1.2).1) (fun k hk => (o1 k hk).2) (fun i j hij hj => ?_) o2
    have b1 := hbr i (by omega)
    have b2 := hbr j hj
    show nb_K (c_W mm) L' (π (tq_x (by' i))) < nb_K (c_W mm) L' (π (tq_x (by' j)))
    rw [← hKπ _ b1.1.2, ← hKπ _ b2.1.2]
    exact nb_rk_mono b2.1.2 inj b1.1.2 (by rw [b1.2, b2.2]; exact hij)
  intro k hk
  have b1 := hbr k hk
  have hs := b1.1.2
  have e1 := same k hk
  refine ⟨b1.1, ?_, ?_, ?_, ?_⟩
  · rw [← e1]; exact (hπ _ hs).2.1
  · rw [← e1]; exact (hπ _ hs).2.2.1
  · rw [← e1]; exact (hπ _ hs).2.2.2
  · generalize hse : tq_x (by' k) = s at hs e1
    have hbk : by' k = nI s := by rw [b1.1.1, hse]
    rw [← e1]
    have hM : ∀ s, s < ck → π s < ck ∧ ∀ v, gm (c_W sm) s v ↔ gm (c_W mm) (π s) v := fun s hs => ⟨(hπ s hs).1, fun v => by unfold gm; rw [hWπ s hs]⟩
    have lv := fm_live_to C.1.1 R.1.1 hM psur hs
    have rp := R.2.2 (π s) (hπ s hs).1
    rcases C.2.2.2.2 s hs with ⟨c1, c2⟩ | ⟨u, c1, c2, c3, c4, c5⟩
    · left
      rcases rp with ⟨r1, r2, r3⟩ | ⟨r1, u', r2, r3, r4, r5, r6⟩
      · exact ⟨c1, r1, r2⟩
      · have h1 := (lv.mp c2).2 u' r3 r4
        obtain ⟨v, hv⟩ := R.1.1.1 (π s) (hπ s hs).1
        exact absurd (h1 v hv (r5 v hv)) id
    · right
      have ar := fm_around_of C.1.1 c2 c3 c4 c5
      have ar' := fm_around_to C.1.1 hM psur hs ar
      rcases rp with ⟨r1, r2, r3⟩ | ⟨r1, u', r2, r3, r4, r5, r6⟩
      · have h1 := (lv.mpr r3).2 u c2 c3
        obtain ⟨v, hv⟩ := C.1.1.1 s hs
        exact absurd (h1 v hv (c4 v hv)) id
      · have e2 : u' = π u := fm_around_one R.1.1 (fm_around_of R.1.1 r3 r4 r5 r6) ar'
        have hrk : nb_rk (nb_K (c_W sm) L) ck u < ck := nb_rk_bd c3
        have e3 : od' (nb_rk (nb_K (c_W sm) L) ck u) = nI u' := by
          have h2 := same _ hrk
          rw [n2 u c3, tq_x_nI (by omega)] at h2
          rw [(o1 _ hrk).1, ← h2, e2]
        have pl := r_place (od := od') (x := nI u') (k := nb_rk (nb_K (c_W sm) L) ck u) (by omega) e3 (fun a ha h => by
          have h2 := o2 a _ ha hrk
          rw [h, e3] at h2
          omega)
        refine ⟨by rw [c1]; exact tq_r_ne (tq_r_nI c3 (by omega)) (by omega), r1, nb_rk (nb_K (c_W sm) L) ck u, ?_, ?_, ?_, ?_⟩
        · unfold f_X0_numberOfOuter
          rw [hbk, tq_x_nI (by omega), c1, if_neg (tq_r_ne (tq_r_nI c3 (by omega)) (by omega)), tq_x_nI (by omega)]
          exact n1 u c3
        · rw [r2]; exact nI_pos (by omega)
        · rw [r2]; exact pl.1
        · rw [r2]; exact pl.2
