def b_X2_unfold_20 (ck : Nat) (to : (Nat → Int32)) (sm : (Nat → Int32)) (sa : (Nat → Int32)) (i : Nat) (yr : (Nat → Int32)) (en : Int32) : (Nat → Int32) × Int32 := (if (sa (ck - i - 1)) = (-1) then (yr, en) else (if ((sm (ck - i - 1)) &&& en) = 0 then ((upd yr (tq_x (to (tq_x (sa (ck - i - 1))))) (sa (ck - i - 1))), (en ||| (1 <<< ((to (tq_x (sa (ck - i - 1)))) &&& 31)))) else (yr, en)))
def t_X2_unfold_20 (ck : Nat) (to : (Nat → Int32)) (sm : (Nat → Int32)) (sa : (Nat → Int32)) (x0_ : (Nat → Int32) × Int32) (k_ : Nat) : (Nat → Int32) × Int32 := tq_it (fun i x_ => b_X2_unfold_20 ck to sm sa i x_.1 x_.2) x0_ k_
def f_X2_unfold (ck : Nat) (to : (Nat → Int32)) (sm : (Nat → Int32)) (sa : (Nat → Int32)) (ri : (Nat → Int32)) : (Nat → Int32) := (t_X2_unfold_20 ck to sm sa (((f_J7_fill_53178 ri 24 (-1))), 0) ck).1
set_option maxHeartbeats 4000000 in
set_option maxRecDepth 100000 in
theorem c_X2_unfold (l : Launch) (dC : Nat → ClassId) (dI : Nat → Nat → Nat) (cI cJ cZ : ClassId) (aR aRi aN aS aSm aSa aSo aSdw aSdp aSby aSnu aSwk aShm aShw aShp aNf aNt aNw aNo : Nat) (sz : Nat) (nc : Int32) (rt : Int32) (ac : Int32) (ck : Nat) (to : (Nat → Int32)) (sm : (Nat → Int32)) (sa : (Nat → Int32)) (ri : (Nat → Int32)) (hck : ck ≤ 45) (hto : ∀ j, j < 60 → tq_r 24 (to j)) (hsa : ∀ j, j < 45 → sa j = -1 ∨ tq_r 60 (sa j)) : Met l yX2_unfold wsX2_unfold ({ frames := 1, cells := 0, slots := 0, locals := 23 }) (va_Pc [.ref aR] (fun U => U.heap.size = sz ∧ va_P (dC, dI) vwCl [(aR, .inr (2, [.ref aRi, .ref aN, .ref aS])), (aRi, .inl (cI, 24, .inl ri)), (aS, .inr (0, [.ref aSm, .ref aSa, .ref aSo, .ref aSdw, .ref aSdp, .ref aSby, .int (nI ck), .ref aN, .ref aSnu, .ref aSwk, .ref aShm, .ref aShw, .ref aShp])), (aSm, .inl (cI, 45, .inl sm)), (aSa, .inl (cI, 45, .inl sa)), (aN, .inr (1, [.ref aNf, .ref aNt, .ref aNw, .ref aNo, .int nc, .int rt, .int ac])), (aNt, .inl (cI, 60, .inl to))] U.heap ∧ va_K (dC, dI) vwCl [(cI, .int), (cJ, .long), (cZ, .boolean)] U ∧ va_D (fun _ => True) [(aR, .inr (2, [.ref aRi, .ref aN, .ref aS])), (aRi, .inl (cI, 24, .inl ri)), (aS, .inr (0, [.ref aSm, .ref aSa, .ref aSo, .ref aSdw, .ref aSdp, .ref aSby, .int (nI ck), .ref aN, .ref aSnu, .ref aSwk, .ref aShm, .ref aShw, .ref aShp])), (aSm, .inl (cI, 45, .inl sm)), (aSa, .inl (cI, 45, .inl sa)), (aN, .inr (1, [.ref aNf, .ref aNt, .ref aNw, .ref aNo, .int nc, .int rt, .int ac])), (aNt, .inl (cI, 60, .inl to))] ∧ tq_E U)) (va_Qv (fun (_ : Unit) => True) (fun (_ : Unit) t => va_P (dC, dI) vwCl [(aR, .inr (2, [.ref aRi, .ref aN, .ref aS])), (aRi, .inl (cI, 24, .inl ((f_X2_unfold ck to sm sa ri)))), (aS, .inr (0, [.ref aSm, .ref aSa, .ref aSo, .ref aSdw, .ref aSdp, .ref aSby, .int (nI ck), .ref aN, .ref aSnu, .ref aSwk, .ref aShm, .ref aShw, .ref aShp])), (aSm, .inl (cI, 45, .inl sm)), (aSa, .inl (cI, 45, .inl sa)), (aN, .inr (1, [.ref aNf, .ref aNt, .ref aNw, .ref aNo, .int nc, .int rt, .int ac])), (aNt, .inl (cI, 60, .inl to))] t.heap ∧ va_K (dC, dI) vwCl [(cI, .int), (cJ, .long), (cZ, .boolean)] t ∧ va_D (va_A [(aR, .inr (2, [.ref aRi, .ref aN, .ref aS])), (aRi, .inl (cI, 24, .inl ri)), (aS, .inr (0, [.ref aSm, .ref aSa, .ref aSo, .ref aSdw, .ref aSdp, .ref aSby, .int (nI ck), .ref aN, .ref aSnu, .ref aSwk, .ref aShm, .ref aShw, .ref aShp])), (aSm, .inl (cI, 45, .inl sm)), (aSa, .inl (cI, 45, .inl sa)), (aN, .inr (1, [.ref aNf, .ref aNt, .ref aNw, .ref aNo, .int nc, .int rt, .int ac])), (aNt, .inl (cI, 60, .inl to))] sz) [(aR, .inr (2, [.ref aRi, .ref aN, .ref aS])), (aRi, .inl (cI, 24, .inl ((f_X2_unfold ck to sm sa ri)))), (aS, .inr (0, [.ref aSm, .ref aSa, .ref aSo, .ref aSdw, .ref aSdp, .ref aSby, .int (nI ck), .ref aN, .ref aSnu, .ref aSwk, .ref aShm, .ref aShw, .ref aShp])), (aSm, .inl (cI, 45, .inl sm)), (aSa, .inl (cI, 45, .inl sa)), (aN, .inr (1, [.ref aNf, .ref aNt, .ref aNw, .ref aNo, .int nc, .int rt, .int ac])), (aNt, .inl (cI, 60, .inl to))]) (va_A [(aR, .inr (2, [.ref aRi, .ref aN, .ref aS])), (aRi, .inl (cI, 24, .inl ri)), (aS, .inr (0, [.ref aSm, .ref aSa, .ref aSo, .ref aSdw, .ref aSdp, .ref aSby, .int (nI ck), .ref aN, .ref aSnu, .ref aSwk, .ref aShm, .ref aShw, .ref aShp])), (aSm, .inl (cI, 45, .inl sm)), (aSa, .inl (cI, 45, .inl sa)), (aN, .inr (1, [.ref aNf, .ref aNt, .ref aNw, .ref aNo, .int nc, .int rt, .int ac])), (aNt, .inl (cI, 60, .inl to))] sz)) 0 0 (va_A [(aR, .inr (2, [.ref aRi, .ref aN, .ref aS])), (aRi, .inl (cI, 24, .inl ri)), (aS, .inr (0, [.ref aSm, .ref aSa, .ref aSo, .ref aSdw, .ref aSdp, .ref aSby, .int (nI ck), .ref aN, .ref aSnu, .ref aSwk, .ref aShm, .ref aShw, .ref aShp])), (aSm, .inl (cI, 45, .inl sm)), (aSa, .inl (cI, 45, .inl sa)), (aN, .inr (1, [.ref aNf, .ref aNt, .ref aNw, .ref aNo, .int nc, .int rt, .int ac])), (aNt, .inl (cI, 60, .inl to))] sz) := by
  refine Met.ofW (cc := cX2_unfold) (maxL := 5) (ret := none) (by decide) rfl ?_
  intro p e s m args below meth c s₁ B hml hv
  obtain ⟨rfl, hsz, hP, hK, hD0, hE⟩ := hv
  have hx := B.exec
  have hb := B.bytes
  have hr := B.returns
  have hts := atoms_spec (ws := wsX2_unfold) B.pre
  have hown : s.vm.findClass RX2 = some m.cls := findClass_of_methodNamed B.named
  have hlocks := B.notSynchronized
  subst hsz
  have hD := hD0.self (sz := s.heap.size)
  generalize hAe : va_A [(aR, .inr (2, [.ref aRi, .ref aN, .ref aS])), (aRi, .inl (cI, 24, .inl ri)), (aS, .inr (0, [.ref aSm, .ref aSa, .ref aSo, .ref aSdw, .ref aSdp, .ref aSby, .int (nI ck), .ref aN, .ref aSnu, .ref aSwk, .ref aShm, .ref aShw, .ref aShp])), (aSm, .inl (cI, 45, .inl sm)), (aSa, .inl (cI, 45, .inl sa)), (aN, .inr (1, [.ref aNf, .ref aNt, .ref aNw, .ref aNo, .int nc, .int rt, .int ac])), (aNt, .inl (cI, 60, .inl to))] s.heap.size = A at hD ⊢
  have hA : ∀ q : Nat, s.heap.size ≤ q → A q := fun q h => by rw [← hAe]; exact Or.inr h
  have hl := lv_entry ([.ref aR]) (n := 5) (Nat.le_of_ble_eq_true rfl)
  rw [lg_entry_eq]
  generalize (lg_sl ([.ref aR]) ++ List.replicate (5 - (lg_sl ([.ref aR])).length) Slot.unset).toArray = ls at hl ⊢
  have hl : lv_has ls 5 [(0, .ref aR)] := hl
  have inX0 : ∀ w ∈ wsX00, w ∈ wsX2_unfold := by decide +kernel
  have inX1 : ∀ w ∈ wsX10, w ∈ wsX2_unfold := by decide +kernel
  have inX2 : ∀ w ∈ wsX20, w ∈ wsX2_unfold := by decide +kernel
  refine tq_begin (A := A) hP (fun H locs hP hS => ?_)
  refine lv_aload_n hx hb dX2_unfold_0 rfl (lv_at hl 0 rfl) ?_
  refine va_get (D := (dC, dI)) (ci := 2) (v := .ref aRi) (C := RX2) (T := TX2) (N := 3) hx hb hts inX2 hown hK hP 0 rfl rfl 0 (by decide) (hts (.fieldLink RX2 9 "TreeOfArcs$Tree" "arcInto" "[I") (by decide +kernel)) (fun _ h9 => h9) rfl dX2_unfold_1 ?_
  refine lv_iconst (v := (-1)) hx hb dX2_unfold_4 (by decide) ?_
  have hPc := hP.sub (ws' := [(aRi, .inl (cI, 24, .inl ri))]) [1] rfl
  have hDc := hD.sub (ws' := [(aRi, .inl (cI, 24, .inl ri))]) [1] (by decide) rfl
  have hFc := va_free (wc := [(aRi, .inl (cI, 24, .inl ri))]) hD hS hA [1] rfl
  refine va_callv (va_runS (As := [.ref aRi, .int (-1)]) (rest := []) ⟨hx, hb, hml, hown, hts⟩ (c_J7_fill_53178 l dC dI cI cJ cZ aRi H.size ri 24 (-1) (by decide)) (va_cwS 2 hts gX2_unfold_J7_fill_53178 rfl rfl rfl (by decide +kernel) ⟨Nat.le_of_ble_eq_true rfl, Nat.le_of_ble_eq_true rfl⟩) ⟨fun a U g mk q => by obtain ⟨q0, q1, qP, qK, qD, qE⟩ := q; exact ⟨q0, q1, qP, va_K.moved (u := U) (U := U.calling g mk a) (Vm.Alike.refl U.vm) qK, qD, tq_E.same (u := U) rfl qE⟩, fun U hU hW => ⟨rfl, by rw [hU], by rw [hU]; exact hPc, va_K.moved hW.alike hK, hDc.weaken (fun _ _ _ _ => trivial), hE.warm hW⟩⟩ rfl rfl hl.1 rfl (lv_room (Nat.le_of_ble_eq_true rfl)) dX2_unfold_5 ⟨(Nat.zero_le _), (Nat.zero_le _)⟩) hS (fun q _ h => hFc q h) hFc (fun u t H1 locs ht hvm hw9 hB hz1 hk1 hS => ?_)
  obtain ⟨hP1, hK1, hD1⟩ := hB
  rw [ht] at hP1
  obtain ⟨hP, hD⟩ := va_join (wr := [(aR, .inr (2, [.ref aRi, .ref aN, .ref aS])), (aS, .inr (0, [.ref aSm, .ref aSa, .ref aSo, .ref aSdw, .ref aSdp, .ref aSby, .int (nI ck), .ref aN, .ref aSnu, .ref aSwk, .ref aShm, .ref aShw, .ref aShp])), (aSm, .inl (cI, 45, .inl sm)), (aSa, .inl (cI, 45, .inl sa)), (aN, .inr (1, [.ref aNf, .ref aNt, .ref aNw, .ref aNo, .int nc, .int rt, .int ac])), (aNt, .inl (cI, 60, .inl to))]) (w1 := [(aRi, .inl (cI, 24, .inl ((f_J7_fill_53178 ri 24 (-1)))))]) hP hD [1] [0, 2, 3, 4, 5, 6] rfl rfl (by decide) (by decide) hk1 hFc hP1 hD1
  generalize H1 = H at hP hS ⊢
  have hP : va_P (dC, dI) vwCl [(aR, .inr (2, [.ref aRi, .ref aN, .ref aS])), (aS, .inr (0, [.ref aSm, .ref aSa, .ref aSo, .ref aSdw, .ref aSdp, .ref aSby, .int (nI ck), .ref aN, .ref aSnu, .ref aSwk, .ref aShm, .ref aShw, .ref aShp])), (aSm, .inl (cI, 45, .inl sm)), (aSa, .inl (cI, 45, .inl sa)), (aN, .inr (1, [.ref aNf, .ref aNt, .ref aNw, .ref aNo, .int nc, .int rt, .int ac])), (aNt, .inl (cI, 60, .inl to)), (aRi, .inl (cI, 24, .inl ((f_J7_fill_53178 ri 24 (-1)))))] H := hP
  have hD : va_D A [(aR, .inr (2, [.ref aRi, .ref aN, .ref aS])), (aS, .inr (0, [.ref aSm, .ref aSa, .ref aSo, .ref aSdw, .ref aSdp, .ref aSby, .int (nI ck), .ref aN, .ref aSnu, .ref aSwk, .ref aShm, .ref aShw, .ref aShp])), (aSm, .inl (cI, 45, .inl sm)), (aSa, .inl (cI, 45, .inl sa)), (aN, .inr (1, [.ref aNf, .ref aNt, .ref aNw, .ref aNo, .int nc, .int rt, .int ac])), (aNt, .inl (cI, 60, .inl to)), (aRi, .inl (cI, 24, .inl ((f_J7_fill_53178 ri 24 (-1)))))] := hD
  clear hw9
  refine lv_iconst (v := 0) hx hb dX2_unfold_8 (by decide) ?_
  refine lv_istore_n (lv' := [(1, .int 0), (0, .ref aR)]) hx hb dX2_unfold_9 rfl hl (by decide) rfl (fun ls hl => ?_)
  refine lv_aload_n hx hb dX2_unfold_10 rfl (lv_at hl 1 rfl) ?_
  refine va_get (D := (dC, dI)) (ci := 2) (v := .ref aS) (C := RX2) (T := TX2) (N := 3) hx hb hts inX2 hown hK hP 0 rfl rfl 2 (by decide) (hts (.fieldLink RX2 19 "TreeOfArcs$Tree" "nest" "LTreeOfArcs$Nest;") (by decide +kernel)) (fun _ h9 => h9) rfl dX2_unfold_11 ?_
  refine va_get (D := (dC, dI)) (ci := 0) (v := .int (nI ck)) (C := RX0) (T := TX0) (N := 13) hx hb hts inX0 hown hK hP 1 rfl rfl 6 (by decide) (hts (.fieldLink RX2 29 "TreeOfArcs$Nest" "count" "I") (by decide +kernel)) (fun _ h9 => h9) rfl dX2_unfold_14 ?_
  refine lv_iconst (v := 1) hx hb dX2_unfold_17 (by decide) ?_
  refine lv_isub hx hb dX2_unfold_18 ?_
  refine lv_istore_n (lv' := [(2, .int ((nI ck) - 1)), (1, .int 0), (0, .ref aR)]) hx hb dX2_unfold_19 rfl hl (by decide) rfl (fun ls hl => ?_)
  refine tq_loop ck (S := (Nat → Int32) × Int32) (fun i x_ => t_X2_unfold_20 ck to sm sa (((f_J7_fill_53178 ri 24 (-1))), 0) i = x_) (fun x_ => [(aR, .inr (2, [.ref aRi, .ref aN, .ref aS])), (aS, .inr (0, [.ref aSm, .ref aSa, .ref aSo, .ref aSdw, .ref aSdp, .ref aSby, .int (nI ck), .ref aN, .ref aSnu, .ref aSwk, .ref aShm, .ref aShw, .ref aShp])), (aSm, .inl (cI, 45, .inl sm)), (aSa, .inl (cI, 45, .inl sa)), (aN, .inr (1, [.ref aNf, .ref aNt, .ref aNw, .ref aNo, .int nc, .int rt, .int ac])), (aNt, .inl (cI, 60, .inl to)), (aRi, .inl (cI, 24, .inl x_.1))]) (fun i x_ => [(2, .int (nI (ck - i) - 1)), (1, .int x_.2), (0, .ref aR)]) (fun i x_ hi_20 hx_20 ih_20 H locs ls hP hD hS hl => ?_) 0 (((f_J7_fill_53178 ri 24 (-1))), 0) (Nat.zero_le _) rfl _ _ _ hP hD hS (lv_sub hl [0, 1, 2] rfl)
  obtain ⟨yr, en⟩ := x_
  have hP : va_P (dC, dI) vwCl [(aR, .inr (2, [.ref aRi, .ref aN, .ref aS])), (aS, .inr (0, [.ref aSm, .ref aSa, .ref aSo, .ref aSdw, .ref aSdp, .ref aSby, .int (nI ck), .ref aN, .ref aSnu, .ref aSwk, .ref aShm, .ref aShw, .ref aShp])), (aSm, .inl (cI, 45, .inl sm)), (aSa, .inl (cI, 45, .inl sa)), (aN, .inr (1, [.ref aNf, .ref aNt, .ref aNw, .ref aNo, .int nc, .int rt, .int ac])), (aNt, .inl (cI, 60, .inl to)), (aRi, .inl (cI, 24, .inl yr))] H := hP
  have hD : va_D A [(aR, .inr (2, [.ref aRi, .ref aN, .ref aS])), (aS, .inr (0, [.ref aSm, .ref aSa, .ref aSo, .ref aSdw, .ref aSdp, .ref aSby, .int (nI ck), .ref aN, .ref aSnu, .ref aSwk, .ref aShm, .ref aShw, .ref aShp])), (aSm, .inl (cI, 45, .inl sm)), (aSa, .inl (cI, 45, .inl sa)), (aN, .inr (1, [.ref aNf, .ref aNt, .ref aNw, .ref aNo, .int nc, .int rt, .int ac])), (aNt, .inl (cI, 60, .inl to)), (aRi, .inl (cI, 24, .inl yr))] := hD
  have hl : lv_has ls 5 [(2, .int (nI (ck - i) - 1)), (1, .int en), (0, .ref aR)] := hl
  refine lv_iload_n hx hb dX2_unfold_20 rfl (lv_at hl 0 rfl) ?_
  refine lv_if_lt (tgt := 85) hx hb dX2_unfold_21 (by decide) (fun c_2 => ?_) (fun c_2 => ?_)
  · have hiN_20 : i = ck := tq_dn_eq c_2 hi_20 (by omega)
    rw [hiN_20] at hx_20
    have ey_3 : (yr, en) = (t_X2_unfold_20 ck to sm sa (((f_J7_fill_53178 ri 24 (-1))), 0) ck) := hx_20.symm
    have e9 : f_X2_unfold ck to sm sa ri = yr := by unfold f_X2_unfold; rw [← ey_3]; try dsimp only; all_goals rfl
    have hP9 : va_P (dC, dI) vwCl [(aR, .inr (2, [.ref aRi, .ref aN, .ref aS])), (aRi, .inl (cI, 24, .inl ((f_X2_unfold ck to sm sa ri)))), (aS, .inr (0, [.ref aSm, .ref aSa, .ref aSo, .ref aSdw, .ref aSdp, .ref aSby, .int (nI ck), .ref aN, .ref aSnu, .ref aSwk, .ref aShm, .ref aShw, .ref aShp])), (aSm, .inl (cI, 45, .inl sm)), (aSa, .inl (cI, 45, .inl sa)), (aN, .inr (1, [.ref aNf, .ref aNt, .ref aNw, .ref aNo, .int nc, .int rt, .int ac])), (aNt, .inl (cI, 60, .inl to))] H := by rw [e9]; exact hP.sub [0, 6, 1, 2, 3, 4, 5] rfl
    have hD9 : va_D A [(aR, .inr (2, [.ref aRi, .ref aN, .ref aS])), (aRi, .inl (cI, 24, .inl ((f_X2_unfold ck to sm sa ri)))), (aS, .inr (0, [.ref aSm, .ref aSa, .ref aSo, .ref aSdw, .ref aSdp, .ref aSby, .int (nI ck), .ref aN, .ref aSnu, .ref aSwk, .ref aShm, .ref aShw, .ref aShp])), (aSm, .inl (cI, 45, .inl sm)), (aSa, .inl (cI, 45, .inl sa)), (aN, .inr (1, [.ref aNf, .ref aNt, .ref aNw, .ref aNo, .int nc, .int rt, .int ac])), (aNt, .inl (cI, 60, .inl to))] := by rw [e9]; exact hD.sub [0, 6, 1, 2, 3, 4, 5] (by decide) rfl
    exact W.vret hx hb hr (fun t ht hW => ⟨⟨(), rfl, trivial, by rw [ht]; exact hP9, va_K.moved hW.alike hK, hD9⟩, hS.F ht⟩) hS.2.2 dX2_unfold_85
  · have hlt_20 : i < ck := tq_dn_lt c_2 hi_20
    refine lv_aload_n hx hb dX2_unfold_24 rfl (lv_at hl 2 rfl) ?_
    refine va_get (D := (dC, dI)) (ci := 2) (v := .ref aS) (C := RX2) (T := TX2) (N := 3) hx hb hts inX2 hown hK hP 0 rfl rfl 2 (by decide) (hts (.fieldLink RX2 19 "TreeOfArcs$Tree" "nest" "LTreeOfArcs$Nest;") (by decide +kernel)) (fun _ h9 => h9) rfl dX2_unfold_25 ?_
    refine va_get (D := (dC, dI)) (ci := 0) (v := .ref aSa) (C := RX0) (T := TX0) (N := 13) hx hb hts inX0 hown hK hP 1 rfl rfl 1 (by decide) (hts (.fieldLink RX2 35 "TreeOfArcs$Nest" "arcOf" "[I") (by decide +kernel)) (fun _ h9 => h9) rfl dX2_unfold_28 ?_
    refine lv_iload_n hx hb dX2_unfold_31 rfl (lv_at hl 0 rfl) ?_
    refine tq_iald hx hb hK hP 3 0 rfl rfl (ck - i - 1) (tq_dn_ix hlt_20) (by omega) (by decide) dX2_unfold_32 ?_
    refine lv_istore_n (lv' := [(3, .int (sa (ck - i - 1))), (2, .int (nI (ck - i) - 1)), (1, .int en), (0, .ref aR)]) hx hb dX2_unfold_33 rfl hl (by decide) rfl (fun ls hl => ?_)
    refine lv_iload_n hx hb dX2_unfold_34 rfl (lv_at hl 0 rfl) ?_
    refine lv_iconst (v := (-1)) hx hb dX2_unfold_35 (by decide) ?_
    refine lv_icmp_eq (tgt := 79) hx hb dX2_unfold_36 (by decide) (fun c_4 => ?_) (fun c_4 => ?_)
    · refine lv_iinc (v := (nI (ck - (i + 1)) - 1)) (lv' := [(2, .int (nI (ck - (i + 1)) - 1)), (3, .int (sa (ck - i - 1))), (1, .int en), (0, .ref aR)]) hx hb dX2_unfold_79 hl (k := 1) rfl (tq_dn_step hlt_20) (by decide) rfl (fun ls hl => ?_)
      refine lv_goto (tgt := 20) hx hb dX2_unfold_82 (by decide) ?_
      have e9 : t_X2_unfold_20 ck to sm sa (((f_J7_fill_53178 ri 24 (-1))), 0) (i + 1) = (yr, en) := by refine (tq_it_go hx_20).trans ?_; show b_X2_unfold_20 ck to sm sa i yr en = _; unfold b_X2_unfold_20; rw [if_pos c_4]
      exact ih_20 (yr, en) hlt_20 e9 _ _ _ (hP.sub [0, 1, 2, 3, 4, 5, 6] rfl) (hD.sub [0, 1, 2, 3, 4, 5, 6] (by decide) rfl) hS (lv_sub hl [0, 2, 3] rfl)
    · refine lv_aload_n hx hb dX2_unfold_39 rfl (lv_at hl 3 rfl) ?_
      refine va_get (D := (dC, dI)) (ci := 2) (v := .ref aS) (C := RX2) (T := TX2) (N := 3) hx hb hts inX2 hown hK hP 0 rfl rfl 2 (by decide) (hts (.fieldLink RX2 19 "TreeOfArcs$Tree" "nest" "LTreeOfArcs$Nest;") (by decide +kernel)) (fun _ h9 => h9) rfl dX2_unfold_40 ?_
      refine va_get (D := (dC, dI)) (ci := 0) (v := .ref aSm) (C := RX0) (T := TX0) (N := 13) hx hb hts inX0 hown hK hP 1 rfl rfl 0 (by decide) (hts (.fieldLink RX2 38 "TreeOfArcs$Nest" "members" "[I") (by decide +kernel)) (fun _ h9 => h9) rfl dX2_unfold_43 ?_
      refine lv_iload_n hx hb dX2_unfold_46 rfl (lv_at hl 1 rfl) ?_
      refine tq_iald hx hb hK hP 2 0 rfl rfl (ck - i - 1) (tq_dn_ix hlt_20) (by omega) (by decide) dX2_unfold_47 ?_
      refine lv_iload_n hx hb dX2_unfold_48 rfl (lv_at hl 2 rfl) ?_
      refine lv_iand hx hb dX2_unfold_49 ?_
      refine lv_if_ne (tgt := 79) hx hb dX2_unfold_50 (by decide) (fun c_5 => ?_) (fun c_5 => ?_)
      · refine lv_iinc (v := (nI (ck - (i + 1)) - 1)) (lv' := [(2, .int (nI (ck - (i + 1)) - 1)), (3, .int (sa (ck - i - 1))), (1, .int en), (0, .ref aR)]) hx hb dX2_unfold_79 hl (k := 1) rfl (tq_dn_step hlt_20) (by decide) rfl (fun ls hl => ?_)
        refine lv_goto (tgt := 20) hx hb dX2_unfold_82 (by decide) ?_
        have e9 : t_X2_unfold_20 ck to sm sa (((f_J7_fill_53178 ri 24 (-1))), 0) (i + 1) = (yr, en) := by refine (tq_it_go hx_20).trans ?_; show b_X2_unfold_20 ck to sm sa i yr en = _; unfold b_X2_unfold_20; rw [if_neg c_4, if_neg c_5]
        exact ih_20 (yr, en) hlt_20 e9 _ _ _ (hP.sub [0, 1, 2, 3, 4, 5, 6] rfl) (hD.sub [0, 1, 2, 3, 4, 5, 6] (by decide) rfl) hS (lv_sub hl [0, 2, 3] rfl)
      · refine lv_aload_n hx hb dX2_unfold_53 rfl (lv_at hl 3 rfl) ?_
        refine va_get (D := (dC, dI)) (ci := 2) (v := .ref aN) (C := RX2) (T := TX2) (N := 3) hx hb hts inX2 hown hK hP 0 rfl rfl 1 (by decide) (hts (.fieldLink RX2 15 "TreeOfArcs$Tree" "net" "LTreeOfArcs$Net;") (by decide +kernel)) (fun _ h9 => h9) rfl dX2_unfold_54 ?_
        refine va_get (D := (dC, dI)) (ci := 1) (v := .ref aNt) (C := RX1) (T := TX1) (N := 7) hx hb hts inX1 hown hK hP 4 rfl rfl 1 (by decide) (hts (.fieldLink RX2 41 "TreeOfArcs$Net" "to" "[I") (by decide +kernel)) (fun _ h9 => h9) rfl dX2_unfold_57 ?_
        refine lv_iload_n hx hb dX2_unfold_60 rfl (lv_at hl 0 rfl) ?_
        refine tq_iald hx hb hK hP 5 0 rfl rfl (tq_x (sa (ck - i - 1))) ((hsa _ (by omega)).resolve_left c_4).1 ((hsa _ (by omega)).resolve_left c_4).2 (by decide) dX2_unfold_61 ?_
        refine lv_istore (lv' := [(4, .int (to (tq_x (sa (ck - i - 1))))), (3, .int (sa (ck - i - 1))), (2, .int (nI (ck - i) - 1)), (1, .int en), (0, .ref aR)]) hx hb dX2_unfold_62 hl (by decide) rfl (fun ls hl => ?_)
        refine lv_aload_n hx hb dX2_unfold_64 rfl (lv_at hl 4 rfl) ?_
        refine va_get (D := (dC, dI)) (ci := 2) (v := .ref aRi) (C := RX2) (T := TX2) (N := 3) hx hb hts inX2 hown hK hP 0 rfl rfl 0 (by decide) (hts (.fieldLink RX2 9 "TreeOfArcs$Tree" "arcInto" "[I") (by decide +kernel)) (fun _ h9 => h9) rfl dX2_unfold_65 ?_
        refine lv_iload hx hb dX2_unfold_68 (lv_at hl 0 rfl) ?_
        refine lv_iload_n hx hb dX2_unfold_70 rfl (lv_at hl 1 rfl) ?_
        refine tq_iast hx hb hK hP hD hS 6 0 rfl rfl (tq_x (to (tq_x (sa (ck - i - 1))))) (hto _ ((hsa _ (by omega)).resolve_left c_4).2).1 (hto _ ((hsa _ (by omega)).resolve_left c_4).2).2 (by decide) dX2_unfold_71 (fun H locs hP hD hS => ?_)
        have hP : va_P (dC, dI) vwCl [(aR, .inr (2, [.ref aRi, .ref aN, .ref aS])), (aS, .inr (0, [.ref aSm, .ref aSa, .ref aSo, .ref aSdw, .ref aSdp, .ref aSby, .int (nI ck), .ref aN, .ref aSnu, .ref aSwk, .ref aShm, .ref aShw, .ref aShp])), (aSm, .inl (cI, 45, .inl sm)), (aSa, .inl (cI, 45, .inl sa)), (aN, .inr (1, [.ref aNf, .ref aNt, .ref aNw, .ref aNo, .int nc, .int rt, .int ac])), (aNt, .inl (cI, 60, .inl to)), (aRi, .inl (cI, 24, .inl (upd yr (tq_x (to (tq_x (sa (ck - i - 1))))) (sa (ck - i - 1)))))] H := hP
        have hD : va_D A [(aR, .inr (2, [.ref aRi, .ref aN, .ref aS])), (aS, .inr (0, [.ref aSm, .ref aSa, .ref aSo, .ref aSdw, .ref aSdp, .ref aSby, .int (nI ck), .ref aN, .ref aSnu, .ref aSwk, .ref aShm, .ref aShw, .ref aShp])), (aSm, .inl (cI, 45, .inl sm)), (aSa, .inl (cI, 45, .inl sa)), (aN, .inr (1, [.ref aNf, .ref aNt, .ref aNw, .ref aNo, .int nc, .int rt, .int ac])), (aNt, .inl (cI, 60, .inl to)), (aRi, .inl (cI, 24, .inl (upd yr (tq_x (to (tq_x (sa (ck - i - 1))))) (sa (ck - i - 1)))))] := hD
        refine lv_iload_n hx hb dX2_unfold_72 rfl (lv_at hl 3 rfl) ?_
        refine lv_iconst (v := 1) hx hb dX2_unfold_73 (by decide) ?_
        refine lv_iload hx hb dX2_unfold_74 (lv_at hl 0 rfl) ?_
        refine lv_ishl hx hb dX2_unfold_76 ?_
        refine lv_ior hx hb dX2_unfold_77 ?_
        refine lv_istore_n (lv' := [(1, .int (en ||| (1 <<< ((to (tq_x (sa (ck - i - 1)))) &&& 31)))), (4, .int (to (tq_x (sa (ck - i - 1))))), (3, .int (sa (ck - i - 1))), (2, .int (nI (ck - i) - 1)), (0, .ref aR)]) hx hb dX2_unfold_78 rfl hl (by decide) rfl (fun ls hl => ?_)
        refine lv_iinc (v := (nI (ck - (i + 1)) - 1)) (lv' := [(2, .int (nI (ck - (i + 1)) - 1)), (1, .int (en ||| (1 <<< ((to (tq_x (sa (ck - i - 1)))) &&& 31)))), (4, .int (to (tq_x (sa (ck - i - 1))))), (3, .int (sa (ck - i - 1))), (0, .ref aR)]) hx hb dX2_unfold_79 hl (k := 3) rfl (tq_dn_step hlt_20) (by decide) rfl (fun ls hl => ?_)
        refine lv_goto (tgt := 20) hx hb dX2_unfold_82 (by decide) ?_
        have e9 : t_X2_unfold_20 ck to sm sa (((f_J7_fill_53178 ri 24 (-1))), 0) (i + 1) = ((upd yr (tq_x (to (tq_x (sa (ck - i - 1))))) (sa (ck - i - 1))), (en ||| (1 <<< ((to (tq_x (sa (ck - i - 1)))) &&& 31)))) := by refine (tq_it_go hx_20).trans ?_; show b_X2_unfold_20 ck to sm sa i yr en = _; unfold b_X2_unfold_20; rw [if_neg c_4, if_pos c_5]
        exact ih_20 ((upd yr (tq_x (to (tq_x (sa (ck - i - 1))))) (sa (ck - i - 1))), (en ||| (1 <<< ((to (tq_x (sa (ck - i - 1)))) &&& 31)))) hlt_20 e9 _ _ _ (hP.sub [0, 1, 2, 3, 4, 5, 6] rfl) (hD.sub [0, 1, 2, 3, 4, 5, 6] (by decide) rfl) hS (lv_sub hl [0, 1, 4] rfl)
def f_X2_hasArc (to : (Nat → Int32)) (ri : (Nat → Int32)) (p0 : Int32) : Int32 := (if (ri (tq_x (to (tq_x p0)))) = p0 then 1 else 0)
set_option maxHeartbeats 4000000 in
set_option maxRecDepth 100000 in
theorem c_X2_hasArc (l : Launch) (dC : Nat → ClassId) (dI : Nat → Nat → Nat) (cI cJ cZ : ClassId) (aR aRi aN aS aNf aNt aNw aNo : Nat) (sz : Nat) (nc : Int32) (rt : Int32) (ac : Int32) (to : (Nat → Int32)) (ri : (Nat → Int32)) (p0 : Int32) (hp : tq_r 60 p0) (hto : ∀ j, j < 60 → tq_r 24 (to j)) : Met l yX2_hasArc wsX2_hasArc ({ frames := 0, cells := 0, slots := 0, locals := 0 }) (va_Pc [.ref aR, .int p0] (fun U => U.heap.size = sz ∧ va_P (dC, dI) vwCl [(aR, .inr (2, [.ref aRi, .ref aN, .ref aS])), (aRi, .inl (cI, 24, .inl ri)), (aN, .inr (1, [.ref aNf, .ref aNt, .ref aNw, .ref aNo, .int nc, .int rt, .int ac])), (aNt, .inl (cI, 60, .inl to))] U.heap ∧ va_K (dC, dI) vwCl [(cI, .int), (cJ, .long), (cZ, .boolean)] U ∧ va_D (fun _ => True) [(aR, .inr (2, [.ref aRi, .ref aN, .ref aS])), (aRi, .inl (cI, 24, .inl ri)), (aN, .inr (1, [.ref aNf, .ref aNt, .ref aNw, .ref aNo, .int nc, .int rt, .int ac])), (aNt, .inl (cI, 60, .inl to))] ∧ tq_E U)) (va_Qi (fun (r : Int32) (_ : Unit) => r = (f_X2_hasArc to ri p0)) (fun (_ : Unit) t => va_P (dC, dI) vwCl [(aR, .inr (2, [.ref aRi, .ref aN, .ref aS])), (aRi, .inl (cI, 24, .inl ri)), (aN, .inr (1, [.ref aNf, .ref aNt, .ref aNw, .ref aNo, .int nc, .int rt, .int ac])), (aNt, .inl (cI, 60, .inl to))] t.heap ∧ va_K (dC, dI) vwCl [(cI, .int), (cJ, .long), (cZ, .boolean)] t ∧ va_D (va_A [(aR, .inr (2, [.ref aRi, .ref aN, .ref aS])), (aRi, .inl (cI, 24, .inl ri)), (aN, .inr (1, [.ref aNf, .ref aNt, .ref aNw, .ref aNo, .int nc, .int rt, .int ac])), (aNt, .inl (cI, 60, .inl to))] sz) [(aR, .inr (2, [.ref aRi, .ref aN, .ref aS])), (aRi, .inl (cI, 24, .inl ri)), (aN, .inr (1, [.ref aNf, .ref aNt, .ref aNw, .ref aNo, .int nc, .int rt, .int ac])), (aNt, .inl (cI, 60, .inl to))]) (va_A [(aR, .inr (2, [.ref aRi, .ref aN, .ref aS])), (aRi, .inl (cI, 24, .inl ri)), (aN, .inr (1, [.ref aNf, .ref aNt, .ref aNw, .ref aNo, .int nc, .int rt, .int ac])), (aNt, .inl (cI, 60, .inl to))] sz)) 0 0 (va_A [(aR, .inr (2, [.ref aRi, .ref aN, .ref aS])), (aRi, .inl (cI, 24, .inl ri)), (aN, .inr (1, [.ref aNf, .ref aNt, .ref aNw, .ref aNo, .int nc, .int rt, .int ac])), (aNt, .inl (cI, 60, .inl to))] sz) := by
  refine Met.ofW (cc := cX2_hasArc) (maxL := 2) (ret := (some .boolean)) (by decide) rfl ?_
  intro p e s m args below meth c s₁ B hml hv
  obtain ⟨rfl, hsz, hP, hK, hD0, hE⟩ := hv
  have hx := B.exec
  have hb := B.bytes
  have hr := B.returns
  have hts := atoms_spec (ws := wsX2_hasArc) B.pre
  have hown : s.vm.findClass RX2 = some m.cls := findClass_of_methodNamed B.named
  have hlocks := B.notSynchronized
  subst hsz
  have hD := hD0.self (sz := s.heap.size)
  generalize hAe : va_A [(aR, .inr (2, [.ref aRi, .ref aN, .ref aS])), (aRi, .inl (cI, 24, .inl ri)), (aN, .inr (1, [.ref aNf, .ref aNt, .ref aNw, .ref aNo, .int nc, .int rt, .int ac])), (aNt, .inl (cI, 60, .inl to))] s.heap.size = A at hD ⊢
  have hA : ∀ q : Nat, s.heap.size ≤ q → A q := fun q h => by rw [← hAe]; exact Or.inr h
  have hl := lv_entry ([.ref aR, .int p0]) (n := 2) (Nat.le_of_ble_eq_true rfl)
  rw [lg_entry_eq]
  generalize (lg_sl ([.ref aR, .int p0]) ++ List.replicate (2 - (lg_sl ([.ref aR, .int p0])).length) Slot.unset).toArray = ls at hl ⊢
  have hl : lv_has ls 2 [(0, .ref aR), (1, .int p0)] := hl
  have inX1 : ∀ w ∈ wsX10, w ∈ wsX2_hasArc := by decide +kernel
  have inX2 : ∀ w ∈ wsX20, w ∈ wsX2_hasArc := by decide +kernel
  refine tq_begin (A := A) hP (fun H locs hP hS => ?_)
  refine lv_aload_n hx hb dX2_hasArc_0 rfl (lv_at hl 0 rfl) ?_
  refine va_get (D := (dC, dI)) (ci := 2) (v := .ref aRi) (C := RX2) (T := TX2) (N := 3) hx hb hts inX2 hown hK hP 0 rfl rfl 0 (by decide) (hts (.fieldLink RX2 9 "TreeOfArcs$Tree" "arcInto" "[I") (by decide +kernel)) (fun _ h9 => h9) rfl dX2_hasArc_1 ?_
  refine lv_aload_n hx hb dX2_hasArc_4 rfl (lv_at hl 0 rfl) ?_
  refine va_get (D := (dC, dI)) (ci := 2) (v := .ref aN) (C := RX2) (T := TX2) (N := 3) hx hb hts inX2 hown hK hP 0 rfl rfl 1 (by decide) (hts (.fieldLink RX2 15 "TreeOfArcs$Tree" "net" "LTreeOfArcs$Net;") (by decide +kernel)) (fun _ h9 => h9) rfl dX2_hasArc_5 ?_
  refine va_get (D := (dC, dI)) (ci := 1) (v := .ref aNt) (C := RX1) (T := TX1) (N := 7) hx hb hts inX1 hown hK hP 2 rfl rfl 1 (by decide) (hts (.fieldLink RX2 41 "TreeOfArcs$Net" "to" "[I") (by decide +kernel)) (fun _ h9 => h9) rfl dX2_hasArc_8 ?_
  refine lv_iload_n hx hb dX2_hasArc_11 rfl (lv_at hl 1 rfl) ?_
  refine tq_iald hx hb hK hP 3 0 rfl rfl (tq_x p0) hp.1 hp.2 (by decide) dX2_hasArc_12 ?_
  refine tq_iald hx hb hK hP 1 0 rfl rfl (tq_x (to (tq_x p0))) (hto _ hp.2).1 (hto _ hp.2).2 (by decide) dX2_hasArc_13 ?_
  refine lv_iload_n hx hb dX2_hasArc_14 rfl (lv_at hl 1 rfl) ?_
  refine lv_icmp_ne (tgt := 22) hx hb dX2_hasArc_15 (by decide) (fun c_1 => ?_) (fun c_1 => ?_)
  · refine lv_iconst (v := 0) hx hb dX2_hasArc_22 (by decide) ?_
    have e9 : f_X2_hasArc to ri p0 = 0 := by unfold f_X2_hasArc; rw [if_neg c_1]
    have hP9 : va_P (dC, dI) vwCl [(aR, .inr (2, [.ref aRi, .ref aN, .ref aS])), (aRi, .inl (cI, 24, .inl ri)), (aN, .inr (1, [.ref aNf, .ref aNt, .ref aNw, .ref aNo, .int nc, .int rt, .int ac])), (aNt, .inl (cI, 60, .inl to))] H := by exact hP.sub [0, 1, 2, 3] rfl
    have hD9 : va_D A [(aR, .inr (2, [.ref aRi, .ref aN, .ref aS])), (aRi, .inl (cI, 24, .inl ri)), (aN, .inr (1, [.ref aNf, .ref aNt, .ref aNw, .ref aNo, .int nc, .int rt, .int ac])), (aNt, .inl (cI, 60, .inl to))] := by exact hD.sub [0, 1, 2, 3] (by decide) rfl
    exact W.zret (v := 0) hx hb hr rfl (fun t ht hW => ⟨⟨_, (), rfl, (by rw [e9]), by rw [ht]; exact hP9, va_K.moved hW.alike hK, hD9⟩, hS.F ht⟩) hS.2.2 dX2_hasArc_23
  · refine lv_iconst (v := 1) hx hb dX2_hasArc_18 (by decide) ?_
    refine lv_goto (tgt := 23) hx hb dX2_hasArc_19 (by decide) ?_
    have e9 : f_X2_hasArc to ri p0 = 1 := by unfold f_X2_hasArc; rw [if_pos c_1]
    have hP9 : va_P (dC, dI) vwCl [(aR, .inr (2, [.ref aRi, .ref aN, .ref aS])), (aRi, .inl (cI, 24, .inl ri)), (aN, .inr (1, [.ref aNf, .ref aNt, .ref aNw, .ref aNo, .int nc, .int rt, .int ac])), (aNt, .inl (cI, 60, .inl to))] H := by exact hP.sub [0, 1, 2, 3] rfl
    have hD9 : va_D A [(aR, .inr (2, [.ref aRi, .ref aN, .ref aS])), (aRi, .inl (cI, 24, .inl ri)), (aN, .inr (1, [.ref aNf, .ref aNt, .ref aNw, .ref aNo, .int nc, .int rt, .int ac])), (aNt, .inl (cI, 60, .inl to))] := by exact hD.sub [0, 1, 2, 3] (by decide) rfl
    exact W.zret (v := 1) hx hb hr rfl (fun t ht hW => ⟨⟨_, (), rfl, (by rw [e9]), by rw [ht]; exact hP9, va_K.moved hW.alike hK, hD9⟩, hS.F ht⟩) hS.2.2 dX2_hasArc_23
def b_X2_sumOfWeights_4 (wt : (Nat → Int64)) (ri : (Nat → Int32)) (i : Nat) (sum : Int64) : Int64 := (if (ri i) = (-1) then sum else (sum + (wt (tq_x (ri i)))))
def t_X2_sumOfWeights_4 (wt : (Nat → Int64)) (ri : (Nat → Int32)) (x0_ : Int64) (k_ : Nat) : Int64 := tq_it (fun i x_ => b_X2_sumOfWeights_4 wt ri i x_) x0_ k_
def f_X2_sumOfWeights (nk : Nat) (wt : (Nat → Int64)) (ri : (Nat → Int32)) : Int64 := (t_X2_sumOfWeights_4 wt ri 0 nk)
set_option maxHeartbeats 4000000 in
set_option maxRecDepth 100000 in
theorem c_X2_sumOfWeights (l : Launch) (dC : Nat → ClassId) (dI : Nat → Nat → Nat) (cI cJ cZ : ClassId) (aR aRi aN aS aNf aNt aNw aNo : Nat) (sz : Nat) (nk : Nat) (rt : Int32) (ac : Int32) (wt : (Nat → Int64)) (ri : (Nat → Int32)) (hnk : nk ≤ 24) (hri : ∀ j, j < 24 → ri j = -1 ∨ tq_r 60 (ri j)) : Met l yX2_sumOfWeights wsX2_sumOfWeights ({ frames := 0, cells := 0, slots := 0, locals := 0 }) (va_Pc [.ref aR] (fun U => U.heap.size = sz ∧ va_P (dC, dI) vwCl [(aR, .inr (2, [.ref aRi, .ref aN, .ref aS])), (aRi, .inl (cI, 24, .inl ri)), (aN, .inr (1, [.ref aNf, .ref aNt, .ref aNw, .ref aNo, .int (nI nk), .int rt, .int ac])), (aNw, .inl (cJ, 60, .inr (.inl wt)))] U.heap ∧ va_K (dC, dI) vwCl [(cI, .int), (cJ, .long), (cZ, .boolean)] U ∧ va_D (fun _ => True) [(aR, .inr (2, [.ref aRi, .ref aN, .ref aS])), (aRi, .inl (cI, 24, .inl ri)), (aN, .inr (1, [.ref aNf, .ref aNt, .ref aNw, .ref aNo, .int (nI nk), .int rt, .int ac])), (aNw, .inl (cJ, 60, .inr (.inl wt)))] ∧ tq_E U)) (va_Ql (fun (r : Int64) (_ : Unit) => r = (f_X2_sumOfWeights nk wt ri)) (fun (_ : Unit) t => va_P (dC, dI) vwCl [(aR, .inr (2, [.ref aRi, .ref aN, .ref aS])), (aRi, .inl (cI, 24, .inl ri)), (aN, .inr (1, [.ref aNf, .ref aNt, .ref aNw, .ref aNo, .int (nI nk), .int rt, .int ac])), (aNw, .inl (cJ, 60, .inr (.inl wt)))] t.heap ∧ va_K (dC, dI) vwCl [(cI, .int), (cJ, .long), (cZ, .boolean)] t ∧ va_D (va_A [(aR, .inr (2, [.ref aRi, .ref aN, .ref aS])), (aRi, .inl (cI, 24, .inl ri)), (aN, .inr (1, [.ref aNf, .ref aNt, .ref aNw, .ref aNo, .int (nI nk), .int rt, .int ac])), (aNw, .inl (cJ, 60, .inr (.inl wt)))] sz) [(aR, .inr (2, [.ref aRi, .ref aN, .ref aS])), (aRi, .inl (cI, 24, .inl ri)), (aN, .inr (1, [.ref aNf, .ref aNt, .ref aNw, .ref aNo, .int (nI nk), .int rt, .int ac])), (aNw, .inl (cJ, 60, .inr (.inl wt)))]) (va_A [(aR, .inr (2, [.ref aRi, .ref aN, .ref aS])), (aRi, .inl (cI, 24, .inl ri)), (aN, .inr (1, [.ref aNf, .ref aNt, .ref aNw, .ref aNo, .int (nI nk), .int rt, .int ac])), (aNw, .inl (cJ, 60, .inr (.inl wt)))] sz)) 0 0 (va_A [(aR, .inr (2, [.ref aRi, .ref aN, .ref aS])), (aRi, .inl (cI, 24, .inl ri)), (aN, .inr (1, [.ref aNf, .ref aNt, .ref aNw, .ref aNo, .int (nI nk), .int rt, .int ac])), (aNw, .inl (cJ, 60, .inr (.inl wt)))] sz) := by
  refine Met.ofW (cc := cX2_sumOfWeights) (maxL := 5) (ret := (some .long)) (by decide) rfl ?_
  intro p e s m args below meth c s₁ B hml hv
  obtain ⟨rfl, hsz, hP, hK, hD0, hE⟩ := hv
  have hx := B.exec
  have hb := B.bytes
  have hr := B.returns
  have hts := atoms_spec (ws := wsX2_sumOfWeights) B.pre
  have hown : s.vm.findClass RX2 = some m.cls := findClass_of_methodNamed B.named
  have hlocks := B.notSynchronized
  subst hsz
  have hD := hD0.self (sz := s.heap.size)
  generalize hAe : va_A [(aR, .inr (2, [.ref aRi, .ref aN, .ref aS])), (aRi, .inl (cI, 24, .inl ri)), (aN, .inr (1, [.ref aNf, .ref aNt, .ref aNw, .ref aNo, .int (nI nk), .int rt, .int ac])), (aNw, .inl (cJ, 60, .inr (.inl wt)))] s.heap.size = A at hD ⊢
  have hA : ∀ q : Nat, s.heap.size ≤ q → A q := fun q h => by rw [← hAe]; exact Or.inr h
  have hl := lv_entry ([.ref aR]) (n := 5) (Nat.le_of_ble_eq_true rfl)
  rw [lg_entry_eq]
  generalize (lg_sl ([.ref aR]) ++ List.replicate (5 - (lg_sl ([.ref aR])).length) Slot.unset).toArray = ls at hl ⊢
  have hl : lv_has ls 5 [(0, .ref aR)] := hl
  have inX1 : ∀ w ∈ wsX10, w ∈ wsX2_sumOfWeights := by decide +kernel
  have inX2 : ∀ w ∈ wsX20, w ∈ wsX2_sumOfWeights := by decide +kernel
  refine tq_begin (A := A) hP (fun H locs hP hS => ?_)
  refine lv_lconst (v := 0) hx hb dX2_sumOfWeights_0 (by decide) ?_
  refine lv_lstore_n (lv' := [(1, .long 0), (0, .ref aR)]) hx hb dX2_sumOfWeights_1 rfl hl (by decide) rfl (fun ls hl => ?_)
  refine lv_iconst (v := 0) hx hb dX2_sumOfWeights_2 (by decide) ?_
  refine lv_istore_n (lv' := [(3, .int 0), (1, .long 0), (0, .ref aR)]) hx hb dX2_sumOfWeights_3 rfl hl (by decide) rfl (fun ls hl => ?_)
  refine tq_loop nk (S := Int64) (fun i x_ => t_X2_sumOfWeights_4 wt ri 0 i = x_) (fun x_ => [(aR, .inr (2, [.ref aRi, .ref aN, .ref aS])), (aRi, .inl (cI, 24, .inl ri)), (aN, .inr (1, [.ref aNf, .ref aNt, .ref aNw, .ref aNo, .int (nI nk), .int rt, .int ac])), (aNw, .inl (cJ, 60, .inr (.inl wt)))]) (fun i x_ => [(3, .int (nI i)), (1, .long x_), (0, .ref aR)]) (fun i sum hi_4 hx_4 ih_4 H locs ls hP hD hS hl => ?_) 0 0 (Nat.zero_le _) rfl _ _ _ hP hD hS (lv_sub hl [0, 1, 2] rfl)
  have hP : va_P (dC, dI) vwCl [(aR, .inr (2, [.ref aRi, .ref aN, .ref aS])), (aRi, .inl (cI, 24, .inl ri)), (aN, .inr (1, [.ref aNf, .ref aNt, .ref aNw, .ref aNo, .int (nI nk), .int rt, .int ac])), (aNw, .inl (cJ, 60, .inr (.inl wt)))] H := hP
  have hD : va_D A [(aR, .inr (2, [.ref aRi, .ref aN, .ref aS])), (aRi, .inl (cI, 24, .inl ri)), (aN, .inr (1, [.ref aNf, .ref aNt, .ref aNw, .ref aNo, .int (nI nk), .int rt, .int ac])), (aNw, .inl (cJ, 60, .inr (.inl wt)))] := hD
  have hl : lv_has ls 5 [(3, .int (nI i)), (1, .long sum), (0, .ref aR)] := hl
  refine lv_iload_n hx hb dX2_sumOfWeights_4 rfl (lv_at hl 0 rfl) ?_
  refine lv_aload_n hx hb dX2_sumOfWeights_5 rfl (lv_at hl 2 rfl) ?_
  refine va_get (D := (dC, dI)) (ci := 2) (v := .ref aN) (C := RX2) (T := TX2) (N := 3) hx hb hts inX2 hown hK hP 0 rfl rfl 1 (by decide) (hts (.fieldLink RX2 15 "TreeOfArcs$Tree" "net" "LTreeOfArcs$Net;") (by decide +kernel)) (fun _ h9 => h9) rfl dX2_sumOfWeights_6 ?_
  refine va_get (D := (dC, dI)) (ci := 1) (v := .int (nI nk)) (C := RX1) (T := TX1) (N := 7) hx hb hts inX1 hown hK hP 2 rfl rfl 4 (by decide) (hts (.fieldLink RX2 46 "TreeOfArcs$Net" "nodeCount" "I") (by decide +kernel)) (fun _ h9 => h9) rfl dX2_sumOfWeights_9 ?_
  refine lv_icmp_ge (tgt := 48) hx hb dX2_sumOfWeights_12 (by decide) (fun c_1 => ?_) (fun c_1 => ?_)
  · have hiN_4 : i = nk := Nat.le_antisymm hi_4 (tq_ge c_1 (by omega) (by omega))
    rw [hiN_4] at hx_4
    have ey_2 : sum = (t_X2_sumOfWeights_4 wt ri 0 nk) := hx_4.symm
    refine lv_lload_n hx hb dX2_sumOfWeights_48 rfl (lv_at hl 1 rfl) ?_
    have e9 : f_X2_sumOfWeights nk wt ri = sum := by unfold f_X2_sumOfWeights; rw [← ey_2]; try dsimp only; all_goals rfl
    have hP9 : va_P (dC, dI) vwCl [(aR, .inr (2, [.ref aRi, .ref aN, .ref aS])), (aRi, .inl (cI, 24, .inl ri)), (aN, .inr (1, [.ref aNf, .ref aNt, .ref aNw, .ref aNo, .int (nI nk), .int rt, .int ac])), (aNw, .inl (cJ, 60, .inr (.inl wt)))] H := by exact hP.sub [0, 1, 2, 3] rfl
    have hD9 : va_D A [(aR, .inr (2, [.ref aRi, .ref aN, .ref aS])), (aRi, .inl (cI, 24, .inl ri)), (aN, .inr (1, [.ref aNf, .ref aNt, .ref aNw, .ref aNo, .int (nI nk), .int rt, .int ac])), (aNw, .inl (cJ, 60, .inr (.inl wt)))] := by exact hD.sub [0, 1, 2, 3] (by decide) rfl
    exact W.lret (v := sum) hx hb hr (fun t ht hW => ⟨⟨_, (), rfl, (by rw [e9]), by rw [ht]; exact hP9, va_K.moved hW.alike hK, hD9⟩, hS.F ht⟩) hS.2.2 dX2_sumOfWeights_49
  · have hlt_4 : i < nk := tq_lt c_1 (by omega) (by omega)
    refine lv_aload_n hx hb dX2_sumOfWeights_15 rfl (lv_at hl 2 rfl) ?_
    refine va_get (D := (dC, dI)) (ci := 2) (v := .ref aRi) (C := RX2) (T := TX2) (N := 3) hx hb hts inX2 hown hK hP 0 rfl rfl 0 (by decide) (hts (.fieldLink RX2 9 "TreeOfArcs$Tree" "arcInto" "[I") (by decide +kernel)) (fun _ h9 => h9) rfl dX2_sumOfWeights_16 ?_
    refine lv_iload_n hx hb dX2_sumOfWeights_19 rfl (lv_at hl 0 rfl) ?_
    refine tq_iald hx hb hK hP 1 0 rfl rfl i rfl (by omega) (by decide) dX2_sumOfWeights_20 ?_
    refine lv_istore (lv' := [(4, .int (ri i)), (3, .int (nI i)), (1, .long sum), (0, .ref aR)]) hx hb dX2_sumOfWeights_21 hl (by decide) rfl (fun ls hl => ?_)
    refine lv_iload hx hb dX2_sumOfWeights_23 (lv_at hl 0 rfl) ?_
    refine lv_iconst (v := (-1)) hx hb dX2_sumOfWeights_25 (by decide) ?_
    refine lv_icmp_eq (tgt := 42) hx hb dX2_sumOfWeights_26 (by decide) (fun c_3 => ?_) (fun c_3 => ?_)
    · refine lv_iinc (v := (nI (i + 1))) (lv' := [(3, .int (nI (i + 1))), (4, .int (ri i)), (1, .long sum), (0, .ref aR)]) hx hb dX2_sumOfWeights_42 hl (k := 1) rfl (nI_1 _) (by decide) rfl (fun ls hl => ?_)
      refine lv_goto (tgt := 4) hx hb dX2_sumOfWeights_45 (by decide) ?_
      have e9 : t_X2_sumOfWeights_4 wt ri 0 (i + 1) = sum := by refine (tq_it_go hx_4).trans ?_; show b_X2_sumOfWeights_4 wt ri i sum = _; unfold b_X2_sumOfWeights_4; rw [if_pos c_3]
      exact ih_4 sum hlt_4 e9 _ _ _ (hP.sub [0, 1, 2, 3] rfl) (hD.sub [0, 1, 2, 3] (by decide) rfl) hS (lv_sub hl [0, 2, 3] rfl)
    · refine lv_lload_n hx hb dX2_sumOfWeights_29 rfl (lv_at hl 2 rfl) ?_
      refine lv_aload_n hx hb dX2_sumOfWeights_30 rfl (lv_at hl 3 rfl) ?_
      refine va_get (D := (dC, dI)) (ci := 2) (v := .ref aN) (C := RX2) (T := TX2) (N := 3) hx hb hts inX2 hown hK hP 0 rfl rfl 1 (by decide) (hts (.fieldLink RX2 15 "TreeOfArcs$Tree" "net" "LTreeOfArcs$Net;") (by decide +kernel)) (fun _ h9 => h9) rfl dX2_sumOfWeights_31 ?_
      refine va_get (D := (dC, dI)) (ci := 1) (v := .ref aNw) (C := RX1) (T := TX1) (N := 7) hx hb hts inX1 hown hK hP 2 rfl rfl 2 (by decide) (hts (.fieldLink RX2 49 "TreeOfArcs$Net" "weight" "[J") (by decide +kernel)) (fun _ h9 => h9) rfl dX2_sumOfWeights_34 ?_
      refine lv_iload hx hb dX2_sumOfWeights_37 (lv_at hl 0 rfl) ?_
      refine tq_lald hx hb hK hP 3 1 rfl rfl (tq_x (ri i)) ((hri i (by omega)).resolve_left c_3).1 ((hri i (by omega)).resolve_left c_3).2 (by decide) dX2_sumOfWeights_39 ?_
      refine lv_ladd hx hb dX2_sumOfWeights_40 ?_
      refine lv_lstore_n (lv' := [(1, .long (sum + (wt (tq_x (ri i))))), (4, .int (ri i)), (3, .int (nI i)), (0, .ref aR)]) hx hb dX2_sumOfWeights_41 rfl hl (by decide) rfl (fun ls hl => ?_)
      refine lv_iinc (v := (nI (i + 1))) (lv' := [(3, .int (nI (i + 1))), (1, .long (sum + (wt (tq_x (ri i))))), (4, .int (ri i)), (0, .ref aR)]) hx hb dX2_sumOfWeights_42 hl (k := 2) rfl (nI_1 _) (by decide) rfl (fun ls hl => ?_)
      refine lv_goto (tgt := 4) hx hb dX2_sumOfWeights_45 (by decide) ?_
      have e9 : t_X2_sumOfWeights_4 wt ri 0 (i + 1) = (sum + (wt (tq_x (ri i)))) := by refine (tq_it_go hx_4).trans ?_; show b_X2_sumOfWeights_4 wt ri i sum = _; unfold b_X2_sumOfWeights_4; rw [if_neg c_3]
      exact ih_4 (sum + (wt (tq_x (ri i)))) hlt_4 e9 _ _ _ (hP.sub [0, 1, 2, 3] rfl) (hD.sub [0, 1, 2, 3] (by decide) rfl) hS (lv_sub hl [0, 1, 3] rfl)
def b_X2_arcsOnWayTo_9 (fr : (Nat → Int32)) (ri : (Nat → Int32)) (i : Nat) (cn_ : Int32) (arc : Int32) : Bool × Int32 × Int32 := (if arc = (-1) then (true, (cn_, arc)) else (false, ((cn_ + 1), (ri (tq_x (fr (tq_x arc)))))))
def t_X2_arcsOnWayTo_9 (fr : (Nat → Int32)) (ri : (Nat → Int32)) (x0_ : Int32 × Int32) (k_ : Nat) : Bool × Int32 × Int32 := tq_br (fun i x_ => b_X2_arcsOnWayTo_9 fr ri i x_.1 x_.2) x0_ k_
def f_X2_arcsOnWayTo (fr : (Nat → Int32)) (ri : (Nat → Int32)) (p0 : Int32) : Int32 := (t_X2_arcsOnWayTo_9 fr ri (0, (ri (tq_x p0))) 24).2.1
set_option maxHeartbeats 4000000 in
set_option maxRecDepth 100000 in
theorem c_X2_arcsOnWayTo (l : Launch) (dC : Nat → ClassId) (dI : Nat → Nat → Nat) (cI cJ cZ : ClassId) (aR aRi aN aS aNf aNt aNw aNo : Nat) (sz : Nat) (nc : Int32) (rt : Int32) (ac : Int32) (fr : (Nat → Int32)) (ri : (Nat → Int32)) (p0 : Int32) (hp : tq_r 24 p0) (hfr : ∀ j, j < 60 → tq_r 24 (fr j)) (hri : ∀ j, j < 24 → ri j = -1 ∨ tq_r 60 (ri j)) : Met l yX2_arcsOnWayTo wsX2_arcsOnWayTo ({ frames := 0, cells := 0, slots := 0, locals := 0 }) (va_Pc [.ref aR, .int p0] (fun U => U.heap.size = sz ∧ va_P (dC, dI) vwCl [(aR, .inr (2, [.ref aRi, .ref aN, .ref aS])), (aRi, .inl (cI, 24, .inl ri)), (aN, .inr (1, [.ref aNf, .ref aNt, .ref aNw, .ref aNo, .int nc, .int rt, .int ac])), (aNf, .inl (cI, 60, .inl fr))] U.heap ∧ va_K (dC, dI) vwCl [(cI, .int), (cJ, .long), (cZ, .boolean)] U ∧ va_D (fun _ => True) [(aR, .inr (2, [.ref aRi, .ref aN, .ref aS])), (aRi, .inl (cI, 24, .inl ri)), (aN, .inr (1, [.ref aNf, .ref aNt, .ref aNw, .ref aNo, .int nc, .int rt, .int ac])), (aNf, .inl (cI, 60, .inl fr))] ∧ tq_E U)) (va_Qi (fun (r : Int32) (_ : Unit) => r = (f_X2_arcsOnWayTo fr ri p0)) (fun (_ : Unit) t => va_P (dC, dI) vwCl [(aR, .inr (2, [.ref aRi, .ref aN, .ref aS])), (aRi, .inl (cI, 24, .inl ri)), (aN, .inr (1, [.ref aNf, .ref aNt, .ref aNw, .ref aNo, .int nc, .int rt, .int ac])), (aNf, .inl (cI, 60, .inl fr))] t.heap ∧ va_K (dC, dI) vwCl [(cI, .int), (cJ, .long), (cZ, .boolean)] t ∧ va_D (va_A [(aR, .inr (2, [.ref aRi, .ref aN, .ref aS])), (aRi, .inl (cI, 24, .inl ri)), (aN, .inr (1, [.ref aNf, .ref aNt, .ref aNw, .ref aNo, .int nc, .int rt, .int ac])), (aNf, .inl (cI, 60, .inl fr))] sz) [(aR, .inr (2, [.ref aRi, .ref aN, .ref aS])), (aRi, .inl (cI, 24, .inl ri)), (aN, .inr (1, [.ref aNf, .ref aNt, .ref aNw, .ref aNo, .int nc, .int rt, .int ac])), (aNf, .inl (cI, 60, .inl fr))]) (va_A [(aR, .inr (2, [.ref aRi, .ref aN, .ref aS])), (aRi, .inl (cI, 24, .inl ri)), (aN, .inr (1, [.ref aNf, .ref aNt, .ref aNw, .ref aNo, .int nc, .int rt, .int ac])), (aNf, .inl (cI, 60, .inl fr))] sz)) 0 0 (va_A [(aR, .inr (2, [.ref aRi, .ref aN, .ref aS])), (aRi, .inl (cI, 24, .inl ri)), (aN, .inr (1, [.ref aNf, .ref aNt, .ref aNw, .ref aNo, .int nc, .int rt, .int ac])), (aNf, .inl (cI, 60, .inl fr))] sz) := by
  refine Met.ofW (cc := cX2_arcsOnWayTo) (maxL := 4) (ret := (some .int)) (by decide) rfl ?_
  intro p e s m args below meth c s₁ B hml hv
  obtain ⟨rfl, hsz, hP, hK, hD0, hE⟩ := hv
  have hx := B.exec
  have hb := B.bytes
  have hr := B.returns
  have hts := atoms_spec (ws := wsX2_arcsOnWayTo) B.pre
  have hown : s.vm.findClass RX2 = some m.cls := findClass_of_methodNamed B.named
  have hlocks := B.notSynchronized
  subst hsz
  have hD := hD0.self (sz := s.heap.size)
  generalize hAe : va_A [(aR, .inr (2, [.ref aRi, .ref aN, .ref aS])), (aRi, .inl (cI, 24, .inl ri)), (aN, .inr (1, [.ref aNf, .ref aNt, .ref aNw, .ref aNo, .int nc, .int rt, .int ac])), (aNf, .inl (cI, 60, .inl fr))] s.heap.size = A at hD ⊢
  have hA : ∀ q : Nat, s.heap.size ≤ q → A q := fun q h => by rw [← hAe]; exact Or.inr h
  have hl := lv_entry ([.ref aR, .int p0]) (n := 4) (Nat.le_of_ble_eq_true rfl)
  rw [lg_entry_eq]
  generalize (lg_sl ([.ref aR, .int p0]) ++ List.replicate (4 - (lg_sl ([.ref aR, .int p0])).length) Slot.unset).toArray = ls at hl ⊢
  have hl : lv_has ls 4 [(0, .ref aR), (1, .int p0)] := hl
  have inX1 : ∀ w ∈ wsX10, w ∈ wsX2_arcsOnWayTo := by decide +kernel
  have inX2 : ∀ w ∈ wsX20, w ∈ wsX2_arcsOnWayTo := by decide +kernel
  refine tq_begin (A := A) hP (fun H locs hP hS => ?_)
  refine lv_iconst (v := 0) hx hb dX2_arcsOnWayTo_0 (by decide) ?_
  refine lv_istore_n (lv' := [(2, .int 0), (0, .ref aR), (1, .int p0)]) hx hb dX2_arcsOnWayTo_1 rfl hl (by decide) rfl (fun ls hl => ?_)
  refine lv_aload_n hx hb dX2_arcsOnWayTo_2 rfl (lv_at hl 1 rfl) ?_
  refine va_get (D := (dC, dI)) (ci := 2) (v := .ref aRi) (C := RX2) (T := TX2) (N := 3) hx hb hts inX2 hown hK hP 0 rfl rfl 0 (by decide) (hts (.fieldLink RX2 9 "TreeOfArcs$Tree" "arcInto" "[I") (by decide +kernel)) (fun _ h9 => h9) rfl dX2_arcsOnWayTo_3 ?_
  refine lv_iload_n hx hb dX2_arcsOnWayTo_6 rfl (lv_at hl 2 rfl) ?_
  refine tq_iald hx hb hK hP 1 0 rfl rfl (tq_x p0) hp.1 hp.2 (by decide) dX2_arcsOnWayTo_7 ?_
  refine lv_istore_n (lv' := [(3, .int (ri (tq_x p0))), (2, .int 0), (0, .ref aR), (1, .int p0)]) hx hb dX2_arcsOnWayTo_8 rfl hl (by decide) rfl (fun ls hl => ?_)
  refine tq_loop 24 (S := Int32 × Int32) (fun i x_ => t_X2_arcsOnWayTo_9 fr ri (0, (ri (tq_x p0))) i = (false, x_) ∧ x_.1 = nI i ∧ (x_.2 = -1 ∨ tq_r 60 x_.2)) (fun x_ => [(aR, .inr (2, [.ref aRi, .ref aN, .ref aS])), (aRi, .inl (cI, 24, .inl ri)), (aN, .inr (1, [.ref aNf, .ref aNt, .ref aNw, .ref aNo, .int nc, .int rt, .int ac])), (aNf, .inl (cI, 60, .inl fr))]) (fun i x_ => [(3, .int x_.2), (2, .int x_.1), (0, .ref aR), (1, .int p0)]) (fun i x_ hi_9 hx_9 ih_9 H locs ls hP hD hS hl => ?_) 0 (0, (ri (tq_x p0))) (Nat.zero_le _) ⟨rfl, ⟨rfl, hri _ hp.2⟩⟩ _ _ _ hP hD hS (lv_sub hl [0, 1, 2, 3] rfl)
  obtain ⟨cn_, arc⟩ := x_
  have hP : va_P (dC, dI) vwCl [(aR, .inr (2, [.ref aRi, .ref aN, .ref aS])), (aRi, .inl (cI, 24, .inl ri)), (aN, .inr (1, [.ref aNf, .ref aNt, .ref aNw, .ref aNo, .int nc, .int rt, .int ac])), (aNf, .inl (cI, 60, .inl fr))] H := hP
  have hD : va_D A [(aR, .inr (2, [.ref aRi, .ref aN, .ref aS])), (aRi, .inl (cI, 24, .inl ri)), (aN, .inr (1, [.ref aNf, .ref aNt, .ref aNw, .ref aNo, .int nc, .int rt, .int ac])), (aNf, .inl (cI, 60, .inl fr))] := hD
  have hl : lv_has ls 4 [(3, .int arc), (2, .int cn_), (0, .ref aR), (1, .int p0)] := hl
  have iv_9 : cn_ = nI i ∧ (arc = -1 ∨ tq_r 60 arc) := hx_9.2
  have hx_9 := hx_9.1
  refine lv_iload_n hx hb dX2_arcsOnWayTo_9 rfl (lv_at hl 0 rfl) ?_
  refine lv_iconst (v := (-1)) hx hb dX2_arcsOnWayTo_10 (by decide) ?_
  refine lv_icmp_eq (tgt := 41) hx hb dX2_arcsOnWayTo_11 (by decide) (fun c_1 => ?_) (fun c_1 => ?_)
  · have ex_2 : (t_X2_arcsOnWayTo_9 fr ri (0, (ri (tq_x p0))) 24).2 = (cn_, arc) := tq_br_stop2 hx_9 (by show b_X2_arcsOnWayTo_9 fr ri i cn_ arc = _; unfold b_X2_arcsOnWayTo_9; rw [if_pos c_1]) hi_9
    obtain ⟨cn__2, hcn__2⟩ : ∃ y : Int32, y = cn_ := ⟨_, rfl⟩
    obtain ⟨arc_2, harc_2⟩ : ∃ y : Int32, y = arc := ⟨_, rfl⟩
    have ey_2 : (cn__2, arc_2) = (t_X2_arcsOnWayTo_9 fr ri (0, (ri (tq_x p0))) 24).2 := by rw [hcn__2, harc_2, ex_2]
    have hl : lv_has ls 4 [(3, .int arc_2), (2, .int cn__2), (0, .ref aR), (1, .int p0)] := by rw [hcn__2, harc_2]; exact hl
    refine lv_iload_n hx hb dX2_arcsOnWayTo_41 rfl (lv_at hl 1 rfl) ?_
    have e9 : f_X2_arcsOnWayTo fr ri p0 = cn__2 := by unfold f_X2_arcsOnWayTo; rw [← ey_2]; try dsimp only; all_goals rfl
    have hP9 : va_P (dC, dI) vwCl [(aR, .inr (2, [.ref aRi, .ref aN, .ref aS])), (aRi, .inl (cI, 24, .inl ri)), (aN, .inr (1, [.ref aNf, .ref aNt, .ref aNw, .ref aNo, .int nc, .int rt, .int ac])), (aNf, .inl (cI, 60, .inl fr))] H := by exact hP.sub [0, 1, 2, 3] rfl
    have hD9 : va_D A [(aR, .inr (2, [.ref aRi, .ref aN, .ref aS])), (aRi, .inl (cI, 24, .inl ri)), (aN, .inr (1, [.ref aNf, .ref aNt, .ref aNw, .ref aNo, .int nc, .int rt, .int ac])), (aNf, .inl (cI, 60, .inl fr))] := by exact hD.sub [0, 1, 2, 3] (by decide) rfl
    exact W.iret (v := cn__2) hx hb hr (fun t ht hW => ⟨⟨_, (), rfl, (by rw [e9]), by rw [ht]; exact hP9, va_K.moved hW.alike hK, hD9⟩, hS.F ht⟩) hS.2.2 dX2_arcsOnWayTo_42
  · refine lv_iload_n hx hb dX2_arcsOnWayTo_14 rfl (lv_at hl 1 rfl) ?_
    refine lv_bipush (v := 24) hx hb dX2_arcsOnWayTo_15 (by decide) ?_
    refine lv_icmp_ge (tgt := 41) hx hb dX2_arcsOnWayTo_17 (by decide) (fun c_3 => ?_) (fun c_3 => ?_)
    · have hiN_9 : i = 24 := Nat.le_antisymm hi_9 (tq_ge (by rw [iv_9.1] at c_3; exact c_3) (by omega) (by omega))
      rw [hiN_9] at hx_9
      have ey_4 : (cn_, arc) = (t_X2_arcsOnWayTo_9 fr ri (0, (ri (tq_x p0))) 24).2 := by rw [hx_9]
      refine lv_iload_n hx hb dX2_arcsOnWayTo_41 rfl (lv_at hl 1 rfl) ?_
      have e9 : f_X2_arcsOnWayTo fr ri p0 = cn_ := by unfold f_X2_arcsOnWayTo; rw [← ey_4]; try dsimp only; all_goals rfl
      have hP9 : va_P (dC, dI) vwCl [(aR, .inr (2, [.ref aRi, .ref aN, .ref aS])), (aRi, .inl (cI, 24, .inl ri)), (aN, .inr (1, [.ref aNf, .ref aNt, .ref aNw, .ref aNo, .int nc, .int rt, .int ac])), (aNf, .inl (cI, 60, .inl fr))] H := by exact hP.sub [0, 1, 2, 3] rfl
      have hD9 : va_D A [(aR, .inr (2, [.ref aRi, .ref aN, .ref aS])), (aRi, .inl (cI, 24, .inl ri)), (aN, .inr (1, [.ref aNf, .ref aNt, .ref aNw, .ref aNo, .int nc, .int rt, .int ac])), (aNf, .inl (cI, 60, .inl fr))] := by exact hD.sub [0, 1, 2, 3] (by decide) rfl
      exact W.iret (v := cn_) hx hb hr (fun t ht hW => ⟨⟨_, (), rfl, (by rw [e9]), by rw [ht]; exact hP9, va_K.moved hW.alike hK, hD9⟩, hS.F ht⟩) hS.2.2 dX2_arcsOnWayTo_42
    · have hlt_9 : i < 24 := tq_lt (by rw [iv_9.1] at c_3; exact c_3) (by omega) (by omega)
      refine lv_iinc (v := (cn_ + 1)) (lv' := [(2, .int (cn_ + 1)), (3, .int arc), (0, .ref aR), (1, .int p0)]) hx hb dX2_arcsOnWayTo_20 hl (k := 1) rfl rfl (by decide) rfl (fun ls hl => ?_)
      refine lv_aload_n hx hb dX2_arcsOnWayTo_23 rfl (lv_at hl 2 rfl) ?_
      refine va_get (D := (dC, dI)) (ci := 2) (v := .ref aRi) (C := RX2) (T := TX2) (N := 3) hx hb hts inX2 hown hK hP 0 rfl rfl 0 (by decide) (hts (.fieldLink RX2 9 "TreeOfArcs$Tree" "arcInto" "[I") (by decide +kernel)) (fun _ h9 => h9) rfl dX2_arcsOnWayTo_24 ?_
      refine lv_aload_n hx hb dX2_arcsOnWayTo_27 rfl (lv_at hl 2 rfl) ?_
      refine va_get (D := (dC, dI)) (ci := 2) (v := .ref aN) (C := RX2) (T := TX2) (N := 3) hx hb hts inX2 hown hK hP 0 rfl rfl 1 (by decide) (hts (.fieldLink RX2 15 "TreeOfArcs$Tree" "net" "LTreeOfArcs$Net;") (by decide +kernel)) (fun _ h9 => h9) rfl dX2_arcsOnWayTo_28 ?_
      refine va_get (D := (dC, dI)) (ci := 1) (v := .ref aNf) (C := RX1) (T := TX1) (N := 7) hx hb hts inX1 hown hK hP 2 rfl rfl 0 (by decide) (hts (.fieldLink RX2 53 "TreeOfArcs$Net" "from" "[I") (by decide +kernel)) (fun _ h9 => h9) rfl dX2_arcsOnWayTo_31 ?_
      refine lv_iload_n hx hb dX2_arcsOnWayTo_34 rfl (lv_at hl 1 rfl) ?_
      refine tq_iald hx hb hK hP 3 0 rfl rfl (tq_x arc) (iv_9.2.resolve_left c_1).1 (iv_9.2.resolve_left c_1).2 (by decide) dX2_arcsOnWayTo_35 ?_
      refine tq_iald hx hb hK hP 1 0 rfl rfl (tq_x (fr (tq_x arc))) (hfr _ (iv_9.2.resolve_left c_1).2).1 (hfr _ (iv_9.2.resolve_left c_1).2).2 (by decide) dX2_arcsOnWayTo_36 ?_
      refine lv_istore_n (lv' := [(3, .int (ri (tq_x (fr (tq_x arc))))), (2, .int (cn_ + 1)), (0, .ref aR), (1, .int p0)]) hx hb dX2_arcsOnWayTo_37 rfl hl (by decide) rfl (fun ls hl => ?_)
      refine lv_goto (tgt := 9) hx hb dX2_arcsOnWayTo_38 (by decide) ?_
      have e9 : t_X2_arcsOnWayTo_9 fr ri (0, (ri (tq_x p0))) (i + 1) = (false, ((cn_ + 1), (ri (tq_x (fr (tq_x arc)))))) := by refine (tq_br_go hx_9).trans ?_; show b_X2_arcsOnWayTo_9 fr ri i cn_ arc = _; unfold b_X2_arcsOnWayTo_9; rw [if_neg c_1]
      exact ih_9 ((cn_ + 1), (ri (tq_x (fr (tq_x arc))))) hlt_9 ⟨e9, ⟨by rw [iv_9.1, tq_n1], hri _ (hfr _ (iv_9.2.resolve_left c_1).2).2⟩⟩ _ _ _ (hP.sub [0, 1, 2, 3] rfl) (hD.sub [0, 1, 2, 3] (by decide) rfl) hS (lv_sub hl [0, 1, 2, 3] rfl)
def b_X2_weightOfWayTo_13 (fr : (Nat → Int32)) (wt : (Nat → Int64)) (ri : (Nat → Int32)) (i : Nat) (sum : Int64) (arc : Int32) : Bool × Int64 × Int32 := (if arc = (-1) then (true, (sum, arc)) else (false, ((sum + (wt (tq_x arc))), (ri (tq_x (fr (tq_x arc)))))))
def t_X2_weightOfWayTo_13 (fr : (Nat → Int32)) (wt : (Nat → Int64)) (ri : (Nat → Int32)) (x0_ : Int64 × Int32) (k_ : Nat) : Bool × Int64 × Int32 := tq_br (fun i x_ => b_X2_weightOfWayTo_13 fr wt ri i x_.1 x_.2) x0_ k_
def f_X2_weightOfWayTo (fr : (Nat → Int32)) (wt : (Nat → Int64)) (ri : (Nat → Int32)) (p0 : Int32) : Int64 := (t_X2_weightOfWayTo_13 fr wt ri (0, (ri (tq_x p0))) 24).2.1
set_option maxHeartbeats 4000000 in
set_option maxRecDepth 100000 in
theorem c_X2_weightOfWayTo (l : Launch) (dC : Nat → ClassId) (dI : Nat → Nat → Nat) (cI cJ cZ : ClassId) (aR aRi aN aS aNf aNt aNw aNo : Nat) (sz : Nat) (nc : Int32) (rt : Int32) (ac : Int32) (fr : (Nat → Int32)) (wt : (Nat → Int64)) (ri : (Nat → Int32)) (p0 : Int32) (hp : tq_r 24 p0) (hfr : ∀ j, j < 60 → tq_r 24 (fr j)) (hri : ∀ j, j < 24 → ri j = -1 ∨ tq_r 60 (ri j)) : Met l yX2_weightOfWayTo wsX2_weightOfWayTo ({ frames := 0, cells := 0, slots := 0, locals := 0 }) (va_Pc [.ref aR, .int p0] (fun U => U.heap.size = sz ∧ va_P (dC, dI) vwCl [(aR, .inr (2, [.ref aRi, .ref aN, .ref aS])), (aRi, .inl (cI, 24, .inl ri)), (aN, .inr (1, [.ref aNf, .ref aNt, .ref aNw, .ref aNo, .int nc, .int rt, .int ac])), (aNf, .inl (cI, 60, .inl fr)), (aNw, .inl (cJ, 60, .inr (.inl wt)))] U.heap ∧ va_K (dC, dI) vwCl [(cI, .int), (cJ, .long), (cZ, .boolean)] U ∧ va_D (fun _ => True) [(aR, .inr (2, [.ref aRi, .ref aN, .ref aS])), (aRi, .inl (cI, 24, .inl ri)), (aN, .inr (1, [.ref aNf, .ref aNt, .ref aNw, .ref aNo, .int nc, .int rt, .int ac])), (aNf, .inl (cI, 60, .inl fr)), (aNw, .inl (cJ, 60, .inr (.inl wt)))] ∧ tq_E U)) (va_Ql (fun (r : Int64) (_ : Unit) => r = (f_X2_weightOfWayTo fr wt ri p0)) (fun (_ : Unit) t => va_P (dC, dI) vwCl [(aR, .inr (2, [.ref aRi, .ref aN, .ref aS])), (aRi, .inl (cI, 24, .inl ri)), (aN, .inr (1, [.ref aNf, .ref aNt, .ref aNw, .ref aNo, .int nc, .int rt, .int ac])), (aNf, .inl (cI, 60, .inl fr)), (aNw, .inl (cJ, 60, .inr (.inl wt)))] t.heap ∧ va_K (dC, dI) vwCl [(cI, .int), (cJ, .long), (cZ, .boolean)] t ∧ va_D (va_A [(aR, .inr (2, [.ref aRi, .ref aN, .ref aS])), (aRi, .inl (cI, 24, .inl ri)), (aN, .inr (1, [.ref aNf, .ref aNt, .ref aNw, .ref aNo, .int nc, .int rt, .int ac])), (aNf, .inl (cI, 60, .inl fr)), (aNw, .inl (cJ, 60, .inr (.inl wt)))] sz) [(aR, .inr (2, [.ref aRi, .ref aN, .ref aS])), (aRi, .inl (cI, 24, .inl ri)), (aN, .inr (1, [.ref aNf, .ref aNt, .ref aNw, .ref aNo, .int nc, .int rt, .int ac])), (aNf, .inl (cI, 60, .inl fr)), (aNw, .inl (cJ, 60, .inr (.inl wt)))]) (va_A [(aR, .inr (2, [.ref aRi, .ref aN, .ref aS])), (aRi, .inl (cI, 24, .inl ri)), (aN, .inr (1, [.ref aNf, .ref aNt, .ref aNw, .ref aNo, .int nc, .int rt, .int ac])), (aNf, .inl (cI, 60, .inl fr)), (aNw, .inl (cJ, 60, .inr (.inl wt)))] sz)) 0 0 (va_A [(aR, .inr (2, [.ref aRi, .ref aN, .ref aS])), (aRi, .inl (cI, 24, .inl ri)), (aN, .inr (1, [.ref aNf, .ref aNt, .ref aNw, .ref aNo, .int nc, .int rt, .int ac])), (aNf, .inl (cI, 60, .inl fr)), (aNw, .inl (cJ, 60, .inr (.inl wt)))] sz) := by
  refine Met.ofW (cc := cX2_weightOfWayTo) (maxL := 6) (ret := (some .long)) (by decide) rfl ?_
  intro p e s m args below meth c s₁ B hml hv
  obtain ⟨rfl, hsz, hP, hK, hD0, hE⟩ := hv
  have hx := B.exec
  have hb := B.bytes
  have hr := B.returns
  have hts := atoms_spec (ws := wsX2_weightOfWayTo) B.pre
  have hown : s.vm.findClass RX2 = some m.cls := findClass_of_methodNamed B.named
  have hlocks := B.notSynchronized
  subst hsz
  have hD := hD0.self (sz := s.heap.size)
  generalize hAe : va_A [(aR, .inr (2, [.ref aRi, .ref aN, .ref aS])), (aRi, .inl (cI, 24, .inl ri)), (aN, .inr (1, [.ref aNf, .ref aNt, .ref aNw, .ref aNo, .int nc, .int rt, .int ac])), (aNf, .inl (cI, 60, .inl fr)), (aNw, .inl (cJ, 60, .inr (.inl wt)))] s.heap.size = A at hD ⊢
  have hA : ∀ q : Nat, s.heap.size ≤ q → A q := fun q h => by rw [← hAe]; exact Or.inr h
  have hl := lv_entry ([.ref aR, .int p0]) (n := 6) (Nat.le_of_ble_eq_true rfl)
  rw [lg_entry_eq]
  generalize (lg_sl ([.ref aR, .int p0]) ++ List.replicate (6 - (lg_sl ([.ref aR, .int p0])).length) Slot.unset).toArray = ls at hl ⊢
  have hl : lv_has ls 6 [(0, .ref aR), (1, .int p0)] := hl
  have inX1 : ∀ w ∈ wsX10, w ∈ wsX2_weightOfWayTo := by decide +kernel
  have inX2 : ∀ w ∈ wsX20, w ∈ wsX2_weightOfWayTo := by decide +kernel
  refine tq_begin (A := A) hP (fun H locs hP hS => ?_)
  refine lv_lconst (v := 0) hx hb dX2_weightOfWayTo_0 (by decide) ?_
  refine lv_lstore_n (lv' := [(2, .long 0), (0, .ref aR), (1, .int p0)]) hx hb dX2_weightOfWayTo_1 rfl hl (by decide) rfl (fun ls hl => ?_)
  refine lv_aload_n hx hb dX2_weightOfWayTo_2 rfl (lv_at hl 1 rfl) ?_
  refine va_get (D := (dC, dI)) (ci := 2) (v := .ref aRi) (C := RX2) (T := TX2) (N := 3) hx hb hts inX2 hown hK hP 0 rfl rfl 0 (by decide) (hts (.fieldLink RX2 9 "TreeOfArcs$Tree" "arcInto" "[I") (by decide +kernel)) (fun _ h9 => h9) rfl dX2_weightOfWayTo_3 ?_
  refine lv_iload_n hx hb dX2_weightOfWayTo_6 rfl (lv_at hl 2 rfl) ?_
  refine tq_iald hx hb hK hP 1 0 rfl rfl (tq_x p0) hp.1 hp.2 (by decide) dX2_weightOfWayTo_7 ?_
  refine lv_istore (lv' := [(4, .int (ri (tq_x p0))), (2, .long 0), (0, .ref aR), (1, .int p0)]) hx hb dX2_weightOfWayTo_8 hl (by decide) rfl (fun ls hl => ?_)
  refine lv_iconst (v := 0) hx hb dX2_weightOfWayTo_10 (by decide) ?_
  refine lv_istore (lv' := [(5, .int 0), (4, .int (ri (tq_x p0))), (2, .long 0), (0, .ref aR), (1, .int p0)]) hx hb dX2_weightOfWayTo_11 hl (by decide) rfl (fun ls hl => ?_)
  refine tq_loop 24 (S := Int64 × Int32) (fun i x_ => t_X2_weightOfWayTo_13 fr wt ri (0, (ri (tq_x p0))) i = (false, x_) ∧ (x_.2 = -1 ∨ tq_r 60 x_.2)) (fun x_ => [(aR, .inr (2, [.ref aRi, .ref aN, .ref aS])), (aRi, .inl (cI, 24, .inl ri)), (aN, .inr (1, [.ref aNf, .ref aNt, .ref aNw, .ref aNo, .int nc, .int rt, .int ac])), (aNf, .inl (cI, 60, .inl fr)), (aNw, .inl (cJ, 60, .inr (.inl wt)))]) (fun i x_ => [(5, .int (nI i)), (4, .int x_.2), (2, .long x_.1), (0, .ref aR), (1, .int p0)]) (fun i x_ hi_13 hx_13 ih_13 H locs ls hP hD hS hl => ?_) 0 (0, (ri (tq_x p0))) (Nat.zero_le _) ⟨rfl, (hri _ hp.2)⟩ _ _ _ hP hD hS (lv_sub hl [0, 1, 2, 3, 4] rfl)
  obtain ⟨sum, arc⟩ := x_
  have hP : va_P (dC, dI) vwCl [(aR, .inr (2, [.ref aRi, .ref aN, .ref aS])), (aRi, .inl (cI, 24, .inl ri)), (aN, .inr (1, [.ref aNf, .ref aNt, .ref aNw, .ref aNo, .int nc, .int rt, .int ac])), (aNf, .inl (cI, 60, .inl fr)), (aNw, .inl (cJ, 60, .inr (.inl wt)))] H := hP
  have hD : va_D A [(aR, .inr (2, [.ref aRi, .ref aN, .ref aS])), (aRi, .inl (cI, 24, .inl ri)), (aN, .inr (1, [.ref aNf, .ref aNt, .ref aNw, .ref aNo, .int nc, .int rt, .int ac])), (aNf, .inl (cI, 60, .inl fr)), (aNw, .inl (cJ, 60, .inr (.inl wt)))] := hD
  have hl : lv_has ls 6 [(5, .int (nI i)), (4, .int arc), (2, .long sum), (0, .ref aR), (1, .int p0)] := hl
  have iv_13 : (arc = -1 ∨ tq_r 60 arc) := hx_13.2
  have hx_13 := hx_13.1
  refine lv_iload hx hb dX2_weightOfWayTo_13 (lv_at hl 0 rfl) ?_
  refine lv_bipush (v := 24) hx hb dX2_weightOfWayTo_15 (by decide) ?_
  refine lv_icmp_ge (tgt := 62) hx hb dX2_weightOfWayTo_17 (by decide) (fun c_1 => ?_) (fun c_1 => ?_)
  · have hiN_13 : i = 24 := Nat.le_antisymm hi_13 (tq_ge c_1 (by omega) (by omega))
    rw [hiN_13] at hx_13
    have ey_2 : (sum, arc) = (t_X2_weightOfWayTo_13 fr wt ri (0, (ri (tq_x p0))) 24).2 := by rw [hx_13]
    refine lv_lload_n hx hb dX2_weightOfWayTo_62 rfl (lv_at hl 2 rfl) ?_
    have e9 : f_X2_weightOfWayTo fr wt ri p0 = sum := by unfold f_X2_weightOfWayTo; rw [← ey_2]; try dsimp only; all_goals rfl
    have hP9 : va_P (dC, dI) vwCl [(aR, .inr (2, [.ref aRi, .ref aN, .ref aS])), (aRi, .inl (cI, 24, .inl ri)), (aN, .inr (1, [.ref aNf, .ref aNt, .ref aNw, .ref aNo, .int nc, .int rt, .int ac])), (aNf, .inl (cI, 60, .inl fr)), (aNw, .inl (cJ, 60, .inr (.inl wt)))] H := by exact hP.sub [0, 1, 2, 3, 4] rfl
    have hD9 : va_D A [(aR, .inr (2, [.ref aRi, .ref aN, .ref aS])), (aRi, .inl (cI, 24, .inl ri)), (aN, .inr (1, [.ref aNf, .ref aNt, .ref aNw, .ref aNo, .int nc, .int rt, .int ac])), (aNf, .inl (cI, 60, .inl fr)), (aNw, .inl (cJ, 60, .inr (.inl wt)))] := by exact hD.sub [0, 1, 2, 3, 4] (by decide) rfl
    exact W.lret (v := sum) hx hb hr (fun t ht hW => ⟨⟨_, (), rfl, (by rw [e9]), by rw [ht]; exact hP9, va_K.moved hW.alike hK, hD9⟩, hS.F ht⟩) hS.2.2 dX2_weightOfWayTo_63
  · have hlt_13 : i < 24 := tq_lt c_1 (by omega) (by omega)
    refine lv_iload hx hb dX2_weightOfWayTo_20 (lv_at hl 1 rfl) ?_
    refine lv_iconst (v := (-1)) hx hb dX2_weightOfWayTo_22 (by decide) ?_
    refine lv_icmp_eq (tgt := 62) hx hb dX2_weightOfWayTo_23 (by decide) (fun c_3 => ?_) (fun c_3 => ?_)
    · have ex_4 : t_X2_weightOfWayTo_13 fr wt ri (0, (ri (tq_x p0))) 24 = (true, (sum, arc)) := tq_br_stop hx_13 (by show b_X2_weightOfWayTo_13 fr wt ri i sum arc = _; unfold b_X2_weightOfWayTo_13; rw [if_pos c_3]) hlt_13
      obtain ⟨sum_4, hsum_4⟩ : ∃ y : Int64, y = sum := ⟨_, rfl⟩
      obtain ⟨arc_4, harc_4⟩ : ∃ y : Int32, y = arc := ⟨_, rfl⟩
      have ey_4 : (sum_4, arc_4) = (t_X2_weightOfWayTo_13 fr wt ri (0, (ri (tq_x p0))) 24).2 := by rw [hsum_4, harc_4, ex_4]
      have hl : lv_has ls 6 [(5, .int (nI i)), (4, .int arc_4), (2, .long sum_4), (0, .ref aR), (1, .int p0)] := by rw [hsum_4, harc_4]; exact hl
      refine lv_lload_n hx hb dX2_weightOfWayTo_62 rfl (lv_at hl 2 rfl) ?_
      have e9 : f_X2_weightOfWayTo fr wt ri p0 = sum_4 := by unfold f_X2_weightOfWayTo; rw [← ey_4]; try dsimp only; all_goals rfl
      have hP9 : va_P (dC, dI) vwCl [(aR, .inr (2, [.ref aRi, .ref aN, .ref aS])), (aRi, .inl (cI, 24, .inl ri)), (aN, .inr (1, [.ref aNf, .ref aNt, .ref aNw, .ref aNo, .int nc, .int rt, .int ac])), (aNf, .inl (cI, 60, .inl fr)), (aNw, .inl (cJ, 60, .inr (.inl wt)))] H := by exact hP.sub [0, 1, 2, 3, 4] rfl
      have hD9 : va_D A [(aR, .inr (2, [.ref aRi, .ref aN, .ref aS])), (aRi, .inl (cI, 24, .inl ri)), (aN, .inr (1, [.ref aNf, .ref aNt, .ref aNw, .ref aNo, .int nc, .int rt, .int ac])), (aNf, .inl (cI, 60, .inl fr)), (aNw, .inl (cJ, 60, .inr (.inl wt)))] := by exact hD.sub [0, 1, 2, 3, 4] (by decide) rfl
      exact W.lret (v := sum_4) hx hb hr (fun t ht hW => ⟨⟨_, (), rfl, (by rw [e9]), by rw [ht]; exact hP9, va_K.moved hW.alike hK, hD9⟩, hS.F ht⟩) hS.2.2 dX2_weightOfWayTo_63
    · refine lv_lload_n hx hb dX2_weightOfWayTo_26 rfl (lv_at hl 2 rfl) ?_
      refine lv_aload_n hx hb dX2_weightOfWayTo_27 rfl (lv_at hl 3 rfl) ?_
      refine va_get (D := (dC, dI)) (ci := 2) (v := .ref aN) (C := RX2) (T := TX2) (N := 3) hx hb hts inX2 hown hK hP 0 rfl rfl 1 (by decide) (hts (.fieldLink RX2 15 "TreeOfArcs$Tree" "net" "LTreeOfArcs$Net;") (by decide +kernel)) (fun _ h9 => h9) rfl dX2_weightOfWayTo_28 ?_
      refine va_get (D := (dC, dI)) (ci := 1) (v := .ref aNw) (C := RX1) (T := TX1) (N := 7) hx hb hts inX1 hown hK hP 2 rfl rfl 2 (by decide) (hts (.fieldLink RX2 49 "TreeOfArcs$Net" "weight" "[J") (by decide +kernel)) (fun _ h9 => h9) rfl dX2_weightOfWayTo_31 ?_
      refine lv_iload hx hb dX2_weightOfWayTo_34 (lv_at hl 1 rfl) ?_
      refine tq_lald hx hb hK hP 4 1 rfl rfl (tq_x arc) (iv_13.resolve_left c_3).1 (iv_13.resolve_left c_3).2 (by decide) dX2_weightOfWayTo_36 ?_
      refine lv_ladd hx hb dX2_weightOfWayTo_37 ?_
      refine lv_lstore_n (lv' := [(2, .long (sum + (wt (tq_x arc)))), (5, .int (nI i)), (4, .int arc), (0, .ref aR), (1, .int p0)]) hx hb dX2_weightOfWayTo_38 rfl hl (by decide) rfl (fun ls hl => ?_)
      refine lv_aload_n hx hb dX2_weightOfWayTo_39 rfl (lv_at hl 3 rfl) ?_
      refine va_get (D := (dC, dI)) (ci := 2) (v := .ref aRi) (C := RX2) (T := TX2) (N := 3) hx hb hts inX2 hown hK hP 0 rfl rfl 0 (by decide) (hts (.fieldLink RX2 9 "TreeOfArcs$Tree" "arcInto" "[I") (by decide +kernel)) (fun _ h9 => h9) rfl dX2_weightOfWayTo_40 ?_
      refine lv_aload_n hx hb dX2_weightOfWayTo_43 rfl (lv_at hl 3 rfl) ?_
      refine va_get (D := (dC, dI)) (ci := 2) (v := .ref aN) (C := RX2) (T := TX2) (N := 3) hx hb hts inX2 hown hK hP 0 rfl rfl 1 (by decide) (hts (.fieldLink RX2 15 "TreeOfArcs$Tree" "net" "LTreeOfArcs$Net;") (by decide +kernel)) (fun _ h9 => h9) rfl dX2_weightOfWayTo_44 ?_
      refine va_get (D := (dC, dI)) (ci := 1) (v := .ref aNf) (C := RX1) (T := TX1) (N := 7) hx hb hts inX1 hown hK hP 2 rfl rfl 0 (by decide) (hts (.fieldLink RX2 53 "TreeOfArcs$Net" "from" "[I") (by decide +kernel)) (fun _ h9 => h9) rfl dX2_weightOfWayTo_47 ?_
      refine lv_iload hx hb dX2_weightOfWayTo_50 (lv_at hl 2 rfl) ?_
      refine tq_iald hx hb hK hP 3 0 rfl rfl (tq_x arc) (iv_13.resolve_left c_3).1 (iv_13.resolve_left c_3).2 (by decide) dX2_weightOfWayTo_52 ?_
      refine tq_iald hx hb hK hP 1 0 rfl rfl (tq_x (fr (tq_x arc))) (hfr _ (iv_13.resolve_left c_3).2).1 (hfr _ (iv_13.resolve_left c_3).2).2 (by decide) dX2_weightOfWayTo_53 ?_
      refine lv_istore (lv' := [(4, .int (ri (tq_x (fr (tq_x arc))))), (2, .long (sum + (wt (tq_x arc)))), (5, .int (nI i)), (0, .ref aR), (1, .int p0)]) hx hb dX2_weightOfWayTo_54 hl (by decide) rfl (fun ls hl => ?_)
      refine lv_iinc (v := (nI (i + 1))) (lv' := [(5, .int (nI (i + 1))), (4, .int (ri (tq_x (fr (tq_x arc))))), (2, .long (sum + (wt (tq_x arc)))), (0, .ref aR), (1, .int p0)]) hx hb dX2_weightOfWayTo_56 hl (k := 2) rfl (nI_1 _) (by decide) rfl (fun ls hl => ?_)
      refine lv_goto (tgt := 13) hx hb dX2_weightOfWayTo_59 (by decide) ?_
      have e9 : t_X2_weightOfWayTo_13 fr wt ri (0, (ri (tq_x p0))) (i + 1) = (false, ((sum + (wt (tq_x arc))), (ri (tq_x (fr (tq_x arc)))))) := by refine (tq_br_go hx_13).trans ?_; show b_X2_weightOfWayTo_13 fr wt ri i sum arc = _; unfold b_X2_weightOfWayTo_13; rw [if_neg c_3]
      exact ih_13 ((sum + (wt (tq_x arc))), (ri (tq_x (fr (tq_x arc))))) hlt_13 ⟨e9, (hri _ (hfr _ (iv_13.resolve_left c_3).2).2)⟩ _ _ _ (hP.sub [0, 1, 2, 3, 4] rfl) (hD.sub [0, 1, 2, 3, 4] (by decide) rfl) hS (lv_sub hl [0, 1, 2, 3, 4] rfl)
