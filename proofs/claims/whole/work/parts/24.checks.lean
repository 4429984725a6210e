def f_X3_asNumber (p0 : Int32) : Int32 := (if p0 = 0 then 0 else 1)
set_option maxHeartbeats 4000000 in
set_option maxRecDepth 100000 in
theorem c_X3_asNumber (l : Launch) (dC : Nat → ClassId) (dI : Nat → Nat → Nat) (cI cJ cZ : ClassId) (sz : Nat) (p0 : Int32)  : Met l yX3_asNumber wsX3_asNumber ({ frames := 0, cells := 0, slots := 0, locals := 0 }) (va_Pc [.int p0] (fun U => U.heap.size = sz ∧ va_P (dC, dI) vwCl [] U.heap ∧ va_K (dC, dI) vwCl [(cI, .int), (cJ, .long), (cZ, .boolean)] U ∧ va_D (fun _ => True) [] ∧ tq_E U)) (va_Qi (fun (r : Int32) (_ : Unit) => r = (f_X3_asNumber p0)) (fun (_ : Unit) t => va_P (dC, dI) vwCl [] t.heap ∧ va_K (dC, dI) vwCl [(cI, .int), (cJ, .long), (cZ, .boolean)] t ∧ va_D (va_A [] sz) []) (va_A [] sz)) 0 0 (va_A [] sz) := by
  refine Met.ofW (cc := cX3_asNumber) (maxL := 1) (ret := (some .int)) (by decide) rfl ?_
  intro p e s m args below meth c s₁ B hml hv
  obtain ⟨rfl, hsz, hP, hK, hD0, hE⟩ := hv
  have hx := B.exec
  have hb := B.bytes
  have hr := B.returns
  have hts := atoms_spec (ws := wsX3_asNumber) B.pre
  have hown : s.vm.findClass RX3 = some m.cls := findClass_of_methodNamed B.named
  have hlocks := B.notSynchronized
  subst hsz
  have hD := hD0.self (sz := s.heap.size)
  generalize hAe : va_A [] s.heap.size = A at hD ⊢
  have hA : ∀ q : Nat, s.heap.size ≤ q → A q := fun q h => by rw [← hAe]; exact Or.inr h
  have hl := lv_entry ([.int p0]) (n := 1) (Nat.le_of_ble_eq_true rfl)
  rw [lg_entry_eq]
  generalize (lg_sl ([.int p0]) ++ List.replicate (1 - (lg_sl ([.int p0])).length) Slot.unset).toArray = ls at hl ⊢
  have hl : lv_has ls 1 [(0, .int p0)] := hl
  refine tq_begin (A := A) hP (fun H locs hP hS => ?_)
  refine lv_iload_n hx hb dX3_asNumber_0 rfl (lv_at hl 0 rfl) ?_
  refine lv_if_eq (tgt := 8) hx hb dX3_asNumber_1 (by decide) (fun c_1 => ?_) (fun c_1 => ?_)
  · refine lv_iconst (v := 0) hx hb dX3_asNumber_8 (by decide) ?_
    have e9 : f_X3_asNumber p0 = 0 := by unfold f_X3_asNumber; rw [if_pos c_1]
    have hP9 : va_P (dC, dI) vwCl [] H := by exact hP.sub [] rfl
    have hD9 : va_D A [] := by exact hD.sub [] (by decide) rfl
    exact W.iret (v := 0) hx hb hr (fun t ht hW => ⟨⟨_, (), rfl, (by rw [e9]), by rw [ht]; exact hP9, va_K.moved hW.alike hK, hD9⟩, hS.F ht⟩) hS.2.2 dX3_asNumber_9
  · refine lv_iconst (v := 1) hx hb dX3_asNumber_4 (by decide) ?_
    refine lv_goto (tgt := 9) hx hb dX3_asNumber_5 (by decide) ?_
    have e9 : f_X3_asNumber p0 = 1 := by unfold f_X3_asNumber; rw [if_neg c_1]
    have hP9 : va_P (dC, dI) vwCl [] H := by exact hP.sub [] rfl
    have hD9 : va_D A [] := by exact hD.sub [] (by decide) rfl
    exact W.iret (v := 1) hx hb hr (fun t ht hW => ⟨⟨_, (), rfl, (by rw [e9]), by rw [ht]; exact hP9, va_K.moved hW.alike hK, hD9⟩, hS.F ht⟩) hS.2.2 dX3_asNumber_9
set_option maxHeartbeats 4000000 in
set_option maxRecDepth 100000 in
theorem c_X3_forgetSolution (l : Launch) (dC : Nat → ClassId) (dI : Nat → Nat → Nat) (cI cJ cZ : ClassId) (aT aN aS aR : Nat) (sz : Nat) (sv : Int32) (hv : Int32)  : Met l yX3_forgetSolution wsX3_forgetSolution ({ frames := 0, cells := 0, slots := 0, locals := 0 }) (va_Pc [.ref aT] (fun U => U.heap.size = sz ∧ va_P (dC, dI) vwCl [(aT, .inr (3, [.ref aN, .ref aS, .ref aR, .int sv, .int hv]))] U.heap ∧ va_K (dC, dI) vwCl [(cI, .int), (cJ, .long), (cZ, .boolean)] U ∧ va_D (fun _ => True) [(aT, .inr (3, [.ref aN, .ref aS, .ref aR, .int sv, .int hv]))] ∧ tq_E U)) (va_Qv (fun (_ : Unit) => True) (fun (_ : Unit) t => va_P (dC, dI) vwCl [(aT, .inr (3, [.ref aN, .ref aS, .ref aR, .int (0), .int (0)]))] t.heap ∧ va_K (dC, dI) vwCl [(cI, .int), (cJ, .long), (cZ, .boolean)] t ∧ va_D (va_A [(aT, .inr (3, [.ref aN, .ref aS, .ref aR, .int sv, .int hv]))] sz) [(aT, .inr (3, [.ref aN, .ref aS, .ref aR, .int (0), .int (0)]))]) (va_A [(aT, .inr (3, [.ref aN, .ref aS, .ref aR, .int sv, .int hv]))] sz)) 0 0 (va_A [(aT, .inr (3, [.ref aN, .ref aS, .ref aR, .int sv, .int hv]))] sz) := by
  refine Met.ofW (cc := cX3_forgetSolution) (maxL := 1) (ret := none) (by decide) rfl ?_
  intro p e s m args below meth c s₁ B hml hv
  obtain ⟨rfl, hsz, hP, hK, hD0, hE⟩ := hv
  have hx := B.exec
  have hb := B.bytes
  have hr := B.returns
  have hts := atoms_spec (ws := wsX3_forgetSolution) B.pre
  have hown : s.vm.findClass RX3 = some m.cls := findClass_of_methodNamed B.named
  have hlocks := B.notSynchronized
  subst hsz
  have hD := hD0.self (sz := s.heap.size)
  generalize hAe : va_A [(aT, .inr (3, [.ref aN, .ref aS, .ref aR, .int sv, .int hv]))] s.heap.size = A at hD ⊢
  have hA : ∀ q : Nat, s.heap.size ≤ q → A q := fun q h => by rw [← hAe]; exact Or.inr h
  have hl := lv_entry ([.ref aT]) (n := 1) (Nat.le_of_ble_eq_true rfl)
  rw [lg_entry_eq]
  generalize (lg_sl ([.ref aT]) ++ List.replicate (1 - (lg_sl ([.ref aT])).length) Slot.unset).toArray = ls at hl ⊢
  have hl : lv_has ls 1 [(0, .ref aT)] := hl
  have inX3 : ∀ w ∈ wsX30, w ∈ wsX3_forgetSolution := by decide +kernel
  refine tq_begin (A := A) hP (fun H locs hP hS => ?_)
  refine lv_aload_n hx hb dX3_forgetSolution_0 rfl (lv_at hl 0 rfl) ?_
  refine lv_iconst (v := 0) hx hb dX3_forgetSolution_1 (by decide) ?_
  refine va_put (D := (dC, dI)) (ci := 3) (v := .int 0) (ty := .boolean) (C := RX3) (T := TX3) (N := 5) hx hb hts inX3 tyX3 tyX3_ok nmX3 hown hK hP hD hS 0 rfl rfl 3 (by decide) (hts (.fieldLink RX3 34 "TreeOfArcs" "isSolved" "Z") (by decide +kernel)) (fun _ h9 => h9) rfl (by decide +kernel) rfl rfl (Nat.le_of_ble_eq_true rfl) dX3_forgetSolution_2 (fun H locs hP hD hS => ?_)
  have hP : va_P (dC, dI) vwCl [(aT, .inr (3, [.ref aN, .ref aS, .ref aR, .int 0, .int hv]))] H := hP
  have hD : va_D A [(aT, .inr (3, [.ref aN, .ref aS, .ref aR, .int 0, .int hv]))] := hD
  refine lv_aload_n hx hb dX3_forgetSolution_5 rfl (lv_at hl 0 rfl) ?_
  refine lv_iconst (v := 0) hx hb dX3_forgetSolution_6 (by decide) ?_
  refine va_put (D := (dC, dI)) (ci := 3) (v := .int 0) (ty := .boolean) (C := RX3) (T := TX3) (N := 5) hx hb hts inX3 tyX3 tyX3_ok nmX3 hown hK hP hD hS 0 rfl rfl 4 (by decide) (hts (.fieldLink RX3 38 "TreeOfArcs" "hasTree" "Z") (by decide +kernel)) (fun _ h9 => h9) rfl (by decide +kernel) rfl rfl (Nat.le_of_ble_eq_true rfl) dX3_forgetSolution_7 (fun H locs hP hD hS => ?_)
  have hP : va_P (dC, dI) vwCl [(aT, .inr (3, [.ref aN, .ref aS, .ref aR, .int 0, .int 0]))] H := hP
  have hD : va_D A [(aT, .inr (3, [.ref aN, .ref aS, .ref aR, .int 0, .int 0]))] := hD
  have hP9 : va_P (dC, dI) vwCl [(aT, .inr (3, [.ref aN, .ref aS, .ref aR, .int (0), .int (0)]))] H := by exact hP.sub [0] rfl
  have hD9 : va_D A [(aT, .inr (3, [.ref aN, .ref aS, .ref aR, .int (0), .int (0)]))] := by exact hD.sub [0] (by decide) rfl
  exact W.vret hx hb hr (fun t ht hW => ⟨⟨(), rfl, trivial, by rw [ht]; exact hP9, va_K.moved hW.alike hK, hD9⟩, hS.F ht⟩) hS.2.2 dX3_forgetSolution_10
def x_X3_checkNode (nc : Int32) (p0 : Int32) : Option String := (if ((f_X1_isNode nc p0)) = 0 then (some "java/lang/IndexOutOfBoundsException") else none)
set_option maxHeartbeats 4000000 in
set_option maxRecDepth 100000 in
theorem c_X3_checkNode (l : Launch) (htr : l.stackTraces = false) (dC : Nat → ClassId) (dI : Nat → Nat → Nat) (cI cJ cZ : ClassId) (aT aN aS aR aNf aNt aNw aNo : Nat) (sz : Nat) (sv : Int32) (hv : Int32) (nc : Int32) (rt : Int32) (ac : Int32) (p0 : Int32)  : vx_Met l yX3_checkNode wsX3_checkNode ({ frames := 6, cells := 1, slots := 6, locals := 82 }) (va_Pc [.ref aT, .int p0] (fun U => U.heap.size = sz ∧ va_P (dC, dI) vwCl [(aT, .inr (3, [.ref aN, .ref aS, .ref aR, .int sv, .int hv])), (aN, .inr (1, [.ref aNf, .ref aNt, .ref aNw, .ref aNo, .int nc, .int rt, .int ac]))] U.heap ∧ va_K (dC, dI) vwCl [(cI, .int), (cJ, .long), (cZ, .boolean)] U ∧ va_D (fun _ => True) [(aT, .inr (3, [.ref aN, .ref aS, .ref aR, .int sv, .int hv])), (aN, .inr (1, [.ref aNf, .ref aNt, .ref aNw, .ref aNo, .int nc, .int rt, .int ac]))] ∧ tq_E U ∧ tq_T U ∧ tq_Z (va_A [(aT, .inr (3, [.ref aN, .ref aS, .ref aR, .int sv, .int hv])), (aN, .inr (1, [.ref aNf, .ref aNt, .ref aNw, .ref aNo, .int nc, .int rt, .int ac]))] sz) U U.heap)) (va_Qv (fun (_ : Unit) => x_X3_checkNode nc p0 = none) (fun (_ : Unit) t => va_P (dC, dI) vwCl [(aT, .inr (3, [.ref aN, .ref aS, .ref aR, .int sv, .int hv])), (aN, .inr (1, [.ref aNf, .ref aNt, .ref aNw, .ref aNo, .int nc, .int rt, .int ac]))] t.heap ∧ va_K (dC, dI) vwCl [(cI, .int), (cJ, .long), (cZ, .boolean)] t ∧ va_D (va_A [(aT, .inr (3, [.ref aN, .ref aS, .ref aR, .int sv, .int hv])), (aN, .inr (1, [.ref aNf, .ref aNt, .ref aNw, .ref aNo, .int nc, .int rt, .int ac]))] sz) [(aT, .inr (3, [.ref aN, .ref aS, .ref aR, .int sv, .int hv])), (aN, .inr (1, [.ref aNf, .ref aNt, .ref aNw, .ref aNo, .int nc, .int rt, .int ac]))]) (va_A [(aT, .inr (3, [.ref aN, .ref aS, .ref aR, .int sv, .int hv])), (aN, .inr (1, [.ref aNf, .ref aNt, .ref aNw, .ref aNo, .int nc, .int rt, .int ac]))] sz)) (vx_X (fun (_ : Unit) => True) (fun E (_ : Unit) t => x_X3_checkNode nc p0 = some E ∧ va_P (dC, dI) vwCl [(aT, .inr (3, [.ref aN, .ref aS, .ref aR, .int sv, .int hv])), (aN, .inr (1, [.ref aNf, .ref aNt, .ref aNw, .ref aNo, .int nc, .int rt, .int ac]))] t.heap ∧ va_K (dC, dI) vwCl [(cI, .int), (cJ, .long), (cZ, .boolean)] t ∧ va_D (va_A [(aT, .inr (3, [.ref aN, .ref aS, .ref aR, .int sv, .int hv])), (aN, .inr (1, [.ref aNf, .ref aNt, .ref aNw, .ref aNo, .int nc, .int rt, .int ac]))] sz) [(aT, .inr (3, [.ref aN, .ref aS, .ref aR, .int sv, .int hv])), (aN, .inr (1, [.ref aNf, .ref aNt, .ref aNw, .ref aNo, .int nc, .int rt, .int ac]))]) (va_A [(aT, .inr (3, [.ref aN, .ref aS, .ref aR, .int sv, .int hv])), (aN, .inr (1, [.ref aNf, .ref aNt, .ref aNw, .ref aNo, .int nc, .int rt, .int ac]))] sz)) 1 6 (va_A [(aT, .inr (3, [.ref aN, .ref aS, .ref aR, .int sv, .int hv])), (aN, .inr (1, [.ref aNf, .ref aNt, .ref aNw, .ref aNo, .int nc, .int rt, .int ac]))] sz) := by
  refine vx_ofW (cc := cX3_checkNode) (maxL := 2) (ret := none) (by decide) rfl ?_
  intro p e s m args below meth c s₁ B hml htab hv
  obtain ⟨rfl, hsz, hP, hK, hD0, hE, hT, hZ⟩ := hv
  have hx := B.exec
  have hb := B.bytes
  have hr := B.returns
  have hts := atoms_spec (ws := wsX3_checkNode) B.pre
  have hown : s.vm.findClass RX3 = some m.cls := findClass_of_methodNamed B.named
  have hlocks := B.notSynchronized
  subst hsz
  have hD := hD0.self (sz := s.heap.size)
  generalize hAe : va_A [(aT, .inr (3, [.ref aN, .ref aS, .ref aR, .int sv, .int hv])), (aN, .inr (1, [.ref aNf, .ref aNt, .ref aNw, .ref aNo, .int nc, .int rt, .int ac]))] s.heap.size = A at hD hZ ⊢
  have hA : ∀ q : Nat, s.heap.size ≤ q → A q := fun q h => by rw [← hAe]; exact Or.inr h
  have hl := lv_entry ([.ref aT, .int p0]) (n := 2) (Nat.le_of_ble_eq_true rfl)
  rw [lg_entry_eq]
  generalize (lg_sl ([.ref aT, .int p0]) ++ List.replicate (2 - (lg_sl ([.ref aT, .int p0])).length) Slot.unset).toArray = ls at hl ⊢
  have hl : lv_has ls 2 [(0, .ref aT), (1, .int p0)] := hl
  have inX3 : ∀ w ∈ wsX30, w ∈ wsX3_checkNode := by decide +kernel
  refine tq_begin (A := A) hP (fun H locs hP hS => ?_)
  refine lv_aload_n hx hb dX3_checkNode_0 rfl (lv_at hl 0 rfl) ?_
  refine va_get (D := (dC, dI)) (ci := 3) (v := .ref aN) (C := RX3) (T := TX3) (N := 5) hx hb hts inX3 hown hK hP 0 rfl rfl 0 (by decide) (hts (.fieldLink RX3 12 "TreeOfArcs" "net" "LTreeOfArcs$Net;") (by decide +kernel)) (fun _ h9 => h9) rfl dX3_checkNode_1 ?_
  refine lv_iload_n hx hb dX3_checkNode_4 rfl (lv_at hl 1 rfl) ?_
  have hPc := hP.sub (ws' := [(aN, .inr (1, [.ref aNf, .ref aNt, .ref aNw, .ref aNo, .int nc, .int rt, .int ac]))]) [1] rfl
  have hDc := hD.sub (ws' := [(aN, .inr (1, [.ref aNf, .ref aNt, .ref aNw, .ref aNo, .int nc, .int rt, .int ac]))]) [1] (by decide) rfl
  have hFc := va_free (wc := [(aN, .inr (1, [.ref aNf, .ref aNt, .ref aNw, .ref aNo, .int nc, .int rt, .int ac]))]) hD hS hA [1] rfl
  refine va_calli (va_runV (As := [.int p0]) (rest := []) ⟨hx, hb, hml, hown, hts⟩ (c_X1_isNode l dC dI cI cJ cZ aN aNf aNt aNw aNo H.size nc rt ac p0 ) (cwV 1 hts gX3_checkNode_X1_isNode rfl rfl rfl (by decide +kernel) ⟨Nat.le_of_ble_eq_true rfl, Nat.le_of_ble_eq_true rfl⟩) ⟨fun a U g mk q => by obtain ⟨q0, q1, qP, qK, qD, qE⟩ := q; exact ⟨q0, q1, qP, va_K.moved (u := U) (U := U.calling g mk a) (Vm.Alike.refl U.vm) qK, qD, tq_E.same (u := U) rfl qE⟩, va_recv hK hPc (ci := 1) (q0 := 0) rfl rfl, fun U hU hW => ⟨rfl, by rw [hU], by rw [hU]; exact hPc, va_K.moved hW.alike hK, hDc.weaken (fun _ _ _ _ => trivial), hE.warm hW⟩⟩ rfl rfl hl.1 rfl (lv_room (Nat.le_of_ble_eq_true rfl)) dX3_checkNode_5 ⟨(Nat.zero_le _), (Nat.zero_le _)⟩) hS (fun q _ h => hFc q h) hFc (fun r_1 u t H1 locs ht hvm hw9 hB hz1 hk1 hS => ?_)
  obtain ⟨hP1, hK1, hD1⟩ := hB
  rw [ht] at hP1
  obtain ⟨hP, hD⟩ := va_join (wr := [(aT, .inr (3, [.ref aN, .ref aS, .ref aR, .int sv, .int hv]))]) (w1 := [(aN, .inr (1, [.ref aNf, .ref aNt, .ref aNw, .ref aNo, .int nc, .int rt, .int ac]))]) hP hD [1] [0] rfl rfl (by decide) (by decide) hk1 hFc hP1 hD1
  generalize H1 = H at hP hS ⊢
  have hP : va_P (dC, dI) vwCl [(aT, .inr (3, [.ref aN, .ref aS, .ref aR, .int sv, .int hv])), (aN, .inr (1, [.ref aNf, .ref aNt, .ref aNw, .ref aNo, .int nc, .int rt, .int ac]))] H := hP
  have hD : va_D A [(aT, .inr (3, [.ref aN, .ref aS, .ref aR, .int sv, .int hv])), (aN, .inr (1, [.ref aNf, .ref aNt, .ref aNw, .ref aNo, .int nc, .int rt, .int ac]))] := hD
  subst hw9
  refine lv_if_ne (tgt := 21) hx hb dX3_checkNode_8 (by decide) (fun c_2 => ?_) (fun c_2 => ?_)
  · have x9 : x_X3_checkNode nc p0 = none := by unfold x_X3_checkNode; rw [if_neg c_2]
    have hP9 : va_P (dC, dI) vwCl [(aT, .inr (3, [.ref aN, .ref aS, .ref aR, .int sv, .int hv])), (aN, .inr (1, [.ref aNf, .ref aNt, .ref aNw, .ref aNo, .int nc, .int rt, .int ac]))] H := by exact hP.sub [0, 1] rfl
    have hD9 : va_D A [(aT, .inr (3, [.ref aN, .ref aS, .ref aR, .int sv, .int hv])), (aN, .inr (1, [.ref aNf, .ref aNt, .ref aNw, .ref aNo, .int nc, .int rt, .int ac]))] := by exact hD.sub [0, 1] (by decide) rfl
    refine vx_ret ?_
    exact W.vret hx hb hr (fun t ht hW => ⟨⟨(), rfl, x9, by rw [ht]; exact hP9, va_K.moved hW.alike hK, hD9⟩, hS.F ht⟩) hS.2.2 dX3_checkNode_21
  · have e9 : x_X3_checkNode nc p0 = some "java/lang/IndexOutOfBoundsException" := by unfold x_X3_checkNode; rw [if_pos c_2]
    obtain ⟨sa, hsa9⟩ := hT.1 (186, "there is no such node") (by decide)
    have hat9 : ∀ w ∈ vx_atS RX3 147 "java/lang/IndexOutOfBoundsException" ["java/lang/RuntimeException", "java/lang/Exception"], w.before #[.ref aT, .int p0] s = true := vx_hat (B := [.castable "java/lang/IndexOutOfBoundsException" "java/lang/IndexOutOfBoundsException", .declares (Bundle.initS "java/lang/RuntimeException"), .declares (Bundle.initS "java/lang/Exception"), .declares (Bundle.initS "java/lang/Throwable")]) (fun w hw => hts w (by revert w; decide +kernel)) (by decide +kernel) (vx_c (va_Nw.use rfl (hT.2.1 "java/lang/IndexOutOfBoundsException" (by decide))) (vx_c (va_Nw.use rfl (hT.2.2 "java/lang/RuntimeException" (by decide))) (vx_c (va_Nw.use rfl (hT.2.2 "java/lang/Exception" (by decide))) (vx_c (va_Nw.use rfl (hT.2.2 "java/lang/Throwable" (by decide))) vx_n))))
    refine vx_throwS hx hb htr (own := RX3) (cls := "java/lang/IndexOutOfBoundsException") (text := "there is no such node") (names := ["java/lang/RuntimeException", "java/lang/Exception"]) (ik := 143) (is := 186) (ic := 147) (A := A) hown (by decide) (by decide) (hts (.classLink RX3 143 "java/lang/IndexOutOfBoundsException") (by decide +kernel)) (hts (.initialized "java/lang/IndexOutOfBoundsException") (by decide +kernel)) hsa9 hat9 (by decide +kernel) hZ.1 hZ.2 hS (hl.1.trans hml.symm) dX3_checkNode_11 dX3_checkNode_14 dX3_checkNode_15 dX3_checkNode_17 dX3_checkNode_20 (fun x h => (htab x h).elim) (by decide +kernel) (Nat.le_of_ble_eq_true rfl) (Nat.le_of_ble_eq_true rfl) (Nat.le_of_ble_eq_true rfl) hlocks (fun t hW hz hk => ⟨(), trivial, ⟨e9, (hP.sub [0, 1] rfl : va_P (dC, dI) vwCl [(aT, .inr (3, [.ref aN, .ref aS, .ref aR, .int sv, .int hv])), (aN, .inr (1, [.ref aNf, .ref aNt, .ref aNw, .ref aNo, .int nc, .int rt, .int ac]))] H).kept (fun k q hk9 => hk q.1 ((hP.sub [0, 1] rfl : va_P (dC, dI) vwCl [(aT, .inr (3, [.ref aN, .ref aS, .ref aR, .int sv, .int hv])), (aN, .inr (1, [.ref aNf, .ref aNt, .ref aNw, .ref aNo, .int nc, .int rt, .int ac]))] H) k q hk9).lt), va_K.moved hW hK, hD.sub [0, 1] (by decide) rfl⟩, Nat.le_trans hS.1 hz, fun q h1 h2 => (hk q (Nat.lt_of_lt_of_le h1 hS.1)).trans (hS.2.1 q h1 h2)⟩) hS.2.2 (Nat.le_refl _) (Nat.le_refl _)
def x_X3_checkArc (ac : Int32) (p0 : Int32) : Option String := (if ((f_X1_isArc ac p0)) = 0 then (some "java/lang/IndexOutOfBoundsException") else none)
set_option maxHeartbeats 4000000 in
set_option maxRecDepth 100000 in
theorem c_X3_checkArc (l : Launch) (htr : l.stackTraces = false) (dC : Nat → ClassId) (dI : Nat → Nat → Nat) (cI cJ cZ : ClassId) (aT aN aS aR aNf aNt aNw aNo : Nat) (sz : Nat) (sv : Int32) (hv : Int32) (nc : Int32) (rt : Int32) (ac : Int32) (p0 : Int32)  : vx_Met l yX3_checkArc wsX3_checkArc ({ frames := 6, cells := 1, slots := 6, locals := 82 }) (va_Pc [.ref aT, .int p0] (fun U => U.heap.size = sz ∧ va_P (dC, dI) vwCl [(aT, .inr (3, [.ref aN, .ref aS, .ref aR, .int sv, .int hv])), (aN, .inr (1, [.ref aNf, .ref aNt, .ref aNw, .ref aNo, .int nc, .int rt, .int ac]))] U.heap ∧ va_K (dC, dI) vwCl [(cI, .int), (cJ, .long), (cZ, .boolean)] U ∧ va_D (fun _ => True) [(aT, .inr (3, [.ref aN, .ref aS, .ref aR, .int sv, .int hv])), (aN, .inr (1, [.ref aNf, .ref aNt, .ref aNw, .ref aNo, .int nc, .int rt, .int ac]))] ∧ tq_E U ∧ tq_T U ∧ tq_Z (va_A [(aT, .inr (3, [.ref aN, .ref aS, .ref aR, .int sv, .int hv])), (aN, .inr (1, [.ref aNf, .ref aNt, .ref aNw, .ref aNo, .int nc, .int rt, .int ac]))] sz) U U.heap)) (va_Qv (fun (_ : Unit) => x_X3_checkArc ac p0 = none) (fun (_ : Unit) t => va_P (dC, dI) vwCl [(aT, .inr (3, [.ref aN, .ref aS, .ref aR, .int sv, .int hv])), (aN, .inr (1, [.ref aNf, .ref aNt, .ref aNw, .ref aNo, .int nc, .int rt, .int ac]))] t.heap ∧ va_K (dC, dI) vwCl [(cI, .int), (cJ, .long), (cZ, .boolean)] t ∧ va_D (va_A [(aT, .inr (3, [.ref aN, .ref aS, .ref aR, .int sv, .int hv])), (aN, .inr (1, [.ref aNf, .ref aNt, .ref aNw, .ref aNo, .int nc, .int rt, .int ac]))] sz) [(aT, .inr (3, [.ref aN, .ref aS, .ref aR, .int sv, .int hv])), (aN, .inr (1, [.ref aNf, .ref aNt, .ref aNw, .ref aNo, .int nc, .int rt, .int ac]))]) (va_A [(aT, .inr (3, [.ref aN, .ref aS, .ref aR, .int sv, .int hv])), (aN, .inr (1, [.ref aNf, .ref aNt, .ref aNw, .ref aNo, .int nc, .int rt, .int ac]))] sz)) (vx_X (fun (_ : Unit) => True) (fun E (_ : Unit) t => x_X3_checkArc ac p0 = some E ∧ va_P (dC, dI) vwCl [(aT, .inr (3, [.ref aN, .ref aS, .ref aR, .int sv, .int hv])), (aN, .inr (1, [.ref aNf, .ref aNt, .ref aNw, .ref aNo, .int nc, .int rt, .int ac]))] t.heap ∧ va_K (dC, dI) vwCl [(cI, .int), (cJ, .long), (cZ, .boolean)] t ∧ va_D (va_A [(aT, .inr (3, [.ref aN, .ref aS, .ref aR, .int sv, .int hv])), (aN, .inr (1, [.ref aNf, .ref aNt, .ref aNw, .ref aNo, .int nc, .int rt, .int ac]))] sz) [(aT, .inr (3, [.ref aN, .ref aS, .ref aR, .int sv, .int hv])), (aN, .inr (1, [.ref aNf, .ref aNt, .ref aNw, .ref aNo, .int nc, .int rt, .int ac]))]) (va_A [(aT, .inr (3, [.ref aN, .ref aS, .ref aR, .int sv, .int hv])), (aN, .inr (1, [.ref aNf, .ref aNt, .ref aNw, .ref aNo, .int nc, .int rt, .int ac]))] sz)) 1 6 (va_A [(aT, .inr (3, [.ref aN, .ref aS, .ref aR, .int sv, .int hv])), (aN, .inr (1, [.ref aNf, .ref aNt, .ref aNw, .ref aNo, .int nc, .int rt, .int ac]))] sz) := by
  refine vx_ofW (cc := cX3_checkArc) (maxL := 2) (ret := none) (by decide) rfl ?_
  intro p e s m args below meth c s₁ B hml htab hv
  obtain ⟨rfl, hsz, hP, hK, hD0, hE, hT, hZ⟩ := hv
  have hx := B.exec
  have hb := B.bytes
  have hr := B.returns
  have hts := atoms_spec (ws := wsX3_checkArc) B.pre
  have hown : s.vm.findClass RX3 = some m.cls := findClass_of_methodNamed B.named
  have hlocks := B.notSynchronized
  subst hsz
  have hD := hD0.self (sz := s.heap.size)
  generalize hAe : va_A [(aT, .inr (3, [.ref aN, .ref aS, .ref aR, .int sv, .int hv])), (aN, .inr (1, [.ref aNf, .ref aNt, .ref aNw, .ref aNo, .int nc, .int rt, .int ac]))] s.heap.size = A at hD hZ ⊢
  have hA : ∀ q : Nat, s.heap.size ≤ q → A q := fun q h => by rw [← hAe]; exact Or.inr h
  have hl := lv_entry ([.ref aT, .int p0]) (n := 2) (Nat.le_of_ble_eq_true rfl)
  rw [lg_entry_eq]
  generalize (lg_sl ([.ref aT, .int p0]) ++ List.replicate (2 - (lg_sl ([.ref aT, .int p0])).length) Slot.unset).toArray = ls at hl ⊢
  have hl : lv_has ls 2 [(0, .ref aT), (1, .int p0)] := hl
  have inX3 : ∀ w ∈ wsX30, w ∈ wsX3_checkArc := by decide +kernel
  refine tq_begin (A := A) hP (fun H locs hP hS => ?_)
  refine lv_aload_n hx hb dX3_checkArc_0 rfl (lv_at hl 0 rfl) ?_
  refine va_get (D := (dC, dI)) (ci := 3) (v := .ref aN) (C := RX3) (T := TX3) (N := 5) hx hb hts inX3 hown hK hP 0 rfl rfl 0 (by decide) (hts (.fieldLink RX3 12 "TreeOfArcs" "net" "LTreeOfArcs$Net;") (by decide +kernel)) (fun _ h9 => h9) rfl dX3_checkArc_1 ?_
  refine lv_iload_n hx hb dX3_checkArc_4 rfl (lv_at hl 1 rfl) ?_
  have hPc := hP.sub (ws' := [(aN, .inr (1, [.ref aNf, .ref aNt, .ref aNw, .ref aNo, .int nc, .int rt, .int ac]))]) [1] rfl
  have hDc := hD.sub (ws' := [(aN, .inr (1, [.ref aNf, .ref aNt, .ref aNw, .ref aNo, .int nc, .int rt, .int ac]))]) [1] (by decide) rfl
  have hFc := va_free (wc := [(aN, .inr (1, [.ref aNf, .ref aNt, .ref aNw, .ref aNo, .int nc, .int rt, .int ac]))]) hD hS hA [1] rfl
  refine va_calli (va_runV (As := [.int p0]) (rest := []) ⟨hx, hb, hml, hown, hts⟩ (c_X1_isArc l dC dI cI cJ cZ aN aNf aNt aNw aNo H.size nc rt ac p0 ) (cwV 1 hts gX3_checkArc_X1_isArc rfl rfl rfl (by decide +kernel) ⟨Nat.le_of_ble_eq_true rfl, Nat.le_of_ble_eq_true rfl⟩) ⟨fun a U g mk q => by obtain ⟨q0, q1, qP, qK, qD, qE⟩ := q; exact ⟨q0, q1, qP, va_K.moved (u := U) (U := U.calling g mk a) (Vm.Alike.refl U.vm) qK, qD, tq_E.same (u := U) rfl qE⟩, va_recv hK hPc (ci := 1) (q0 := 0) rfl rfl, fun U hU hW => ⟨rfl, by rw [hU], by rw [hU]; exact hPc, va_K.moved hW.alike hK, hDc.weaken (fun _ _ _ _ => trivial), hE.warm hW⟩⟩ rfl rfl hl.1 rfl (lv_room (Nat.le_of_ble_eq_true rfl)) dX3_checkArc_5 ⟨(Nat.zero_le _), (Nat.zero_le _)⟩) hS (fun q _ h => hFc q h) hFc (fun r_1 u t H1 locs ht hvm hw9 hB hz1 hk1 hS => ?_)
  obtain ⟨hP1, hK1, hD1⟩ := hB
  rw [ht] at hP1
  obtain ⟨hP, hD⟩ := va_join (wr := [(aT, .inr (3, [.ref aN, .ref aS, .ref aR, .int sv, .int hv]))]) (w1 := [(aN, .inr (1, [.ref aNf, .ref aNt, .ref aNw, .ref aNo, .int nc, .int rt, .int ac]))]) hP hD [1] [0] rfl rfl (by decide) (by decide) hk1 hFc hP1 hD1
  generalize H1 = H at hP hS ⊢
  have hP : va_P (dC, dI) vwCl [(aT, .inr (3, [.ref aN, .ref aS, .ref aR, .int sv, .int hv])), (aN, .inr (1, [.ref aNf, .ref aNt, .ref aNw, .ref aNo, .int nc, .int rt, .int ac]))] H := hP
  have hD : va_D A [(aT, .inr (3, [.ref aN, .ref aS, .ref aR, .int sv, .int hv])), (aN, .inr (1, [.ref aNf, .ref aNt, .ref aNw, .ref aNo, .int nc, .int rt, .int ac]))] := hD
  subst hw9
  refine lv_if_ne (tgt := 21) hx hb dX3_checkArc_8 (by decide) (fun c_2 => ?_) (fun c_2 => ?_)
  · have x9 : x_X3_checkArc ac p0 = none := by unfold x_X3_checkArc; rw [if_neg c_2]
    have hP9 : va_P (dC, dI) vwCl [(aT, .inr (3, [.ref aN, .ref aS, .ref aR, .int sv, .int hv])), (aN, .inr (1, [.ref aNf, .ref aNt, .ref aNw, .ref aNo, .int nc, .int rt, .int ac]))] H := by exact hP.sub [0, 1] rfl
    have hD9 : va_D A [(aT, .inr (3, [.ref aN, .ref aS, .ref aR, .int sv, .int hv])), (aN, .inr (1, [.ref aNf, .ref aNt, .ref aNw, .ref aNo, .int nc, .int rt, .int ac]))] := by exact hD.sub [0, 1] (by decide) rfl
    refine vx_ret ?_
    exact W.vret hx hb hr (fun t ht hW => ⟨⟨(), rfl, x9, by rw [ht]; exact hP9, va_K.moved hW.alike hK, hD9⟩, hS.F ht⟩) hS.2.2 dX3_checkArc_21
  · have e9 : x_X3_checkArc ac p0 = some "java/lang/IndexOutOfBoundsException" := by unfold x_X3_checkArc; rw [if_pos c_2]
    obtain ⟨sa, hsa9⟩ := hT.1 (191, "there is no such arc") (by decide)
    have hat9 : ∀ w ∈ vx_atS RX3 147 "java/lang/IndexOutOfBoundsException" ["java/lang/RuntimeException", "java/lang/Exception"], w.before #[.ref aT, .int p0] s = true := vx_hat (B := [.castable "java/lang/IndexOutOfBoundsException" "java/lang/IndexOutOfBoundsException", .declares (Bundle.initS "java/lang/RuntimeException"), .declares (Bundle.initS "java/lang/Exception"), .declares (Bundle.initS "java/lang/Throwable")]) (fun w hw => hts w (by revert w; decide +kernel)) (by decide +kernel) (vx_c (va_Nw.use rfl (hT.2.1 "java/lang/IndexOutOfBoundsException" (by decide))) (vx_c (va_Nw.use rfl (hT.2.2 "java/lang/RuntimeException" (by decide))) (vx_c (va_Nw.use rfl (hT.2.2 "java/lang/Exception" (by decide))) (vx_c (va_Nw.use rfl (hT.2.2 "java/lang/Throwable" (by decide))) vx_n))))
    refine vx_throwS hx hb htr (own := RX3) (cls := "java/lang/IndexOutOfBoundsException") (text := "there is no such arc") (names := ["java/lang/RuntimeException", "java/lang/Exception"]) (ik := 143) (is := 191) (ic := 147) (A := A) hown (by decide) (by decide) (hts (.classLink RX3 143 "java/lang/IndexOutOfBoundsException") (by decide +kernel)) (hts (.initialized "java/lang/IndexOutOfBoundsException") (by decide +kernel)) hsa9 hat9 (by decide +kernel) hZ.1 hZ.2 hS (hl.1.trans hml.symm) dX3_checkArc_11 dX3_checkArc_14 dX3_checkArc_15 dX3_checkArc_17 dX3_checkArc_20 (fun x h => (htab x h).elim) (by decide +kernel) (Nat.le_of_ble_eq_true rfl) (Nat.le_of_ble_eq_true rfl) (Nat.le_of_ble_eq_true rfl) hlocks (fun t hW hz hk => ⟨(), trivial, ⟨e9, (hP.sub [0, 1] rfl : va_P (dC, dI) vwCl [(aT, .inr (3, [.ref aN, .ref aS, .ref aR, .int sv, .int hv])), (aN, .inr (1, [.ref aNf, .ref aNt, .ref aNw, .ref aNo, .int nc, .int rt, .int ac]))] H).kept (fun k q hk9 => hk q.1 ((hP.sub [0, 1] rfl : va_P (dC, dI) vwCl [(aT, .inr (3, [.ref aN, .ref aS, .ref aR, .int sv, .int hv])), (aN, .inr (1, [.ref aNf, .ref aNt, .ref aNw, .ref aNo, .int nc, .int rt, .int ac]))] H) k q hk9).lt), va_K.moved hW hK, hD.sub [0, 1] (by decide) rfl⟩, Nat.le_trans hS.1 hz, fun q h1 h2 => (hk q (Nat.lt_of_lt_of_le h1 hS.1)).trans (hS.2.1 q h1 h2)⟩) hS.2.2 (Nat.le_refl _) (Nat.le_refl _)
def x_X3_checkSet (hv : Int32) (cnt : Int32) (p0 : Int32) : Option String := (if hv = 0 then (some "java/lang/IndexOutOfBoundsException") else (if p0 < 0 then (some "java/lang/IndexOutOfBoundsException") else (if p0 < cnt then none else (some "java/lang/IndexOutOfBoundsException"))))
set_option maxHeartbeats 4000000 in
set_option maxRecDepth 100000 in
theorem c_X3_checkSet (l : Launch) (htr : l.stackTraces = false) (dC : Nat → ClassId) (dI : Nat → Nat → Nat) (cI cJ cZ : ClassId) (aT aN aS aR aSm aSa aSo aSdw aSdp aSby aSnu aSwk aShm aShw aShp : Nat) (sz : Nat) (sv : Int32) (hv : Int32) (cnt : Int32) (p0 : Int32)  : vx_Met l yX3_checkSet wsX3_checkSet ({ frames := 6, cells := 1, slots := 6, locals := 82 }) (va_Pc [.ref aT, .int p0] (fun U => U.heap.size = sz ∧ va_P (dC, dI) vwCl [(aT, .inr (3, [.ref aN, .ref aS, .ref aR, .int sv, .int hv])), (aS, .inr (0, [.ref aSm, .ref aSa, .ref aSo, .ref aSdw, .ref aSdp, .ref aSby, .int cnt, .ref aN, .ref aSnu, .ref aSwk, .ref aShm, .ref aShw, .ref aShp]))] U.heap ∧ va_K (dC, dI) vwCl [(cI, .int), (cJ, .long), (cZ, .boolean)] U ∧ va_D (fun _ => True) [(aT, .inr (3, [.ref aN, .ref aS, .ref aR, .int sv, .int hv])), (aS, .inr (0, [.ref aSm, .ref aSa, .ref aSo, .ref aSdw, .ref aSdp, .ref aSby, .int cnt, .ref aN, .ref aSnu, .ref aSwk, .ref aShm, .ref aShw, .ref aShp]))] ∧ tq_E U ∧ tq_T U ∧ tq_Z (va_A [(aT, .inr (3, [.ref aN, .ref aS, .ref aR, .int sv, .int hv])), (aS, .inr (0, [.ref aSm, .ref aSa, .ref aSo, .ref aSdw, .ref aSdp, .ref aSby, .int cnt, .ref aN, .ref aSnu, .ref aSwk, .ref aShm, .ref aShw, .ref aShp]))] sz) U U.heap)) (va_Qv (fun (_ : Unit) => x_X3_checkSet hv cnt p0 = none) (fun (_ : Unit) t => va_P (dC, dI) vwCl [(aT, .inr (3, [.ref aN, .ref aS, .ref aR, .int sv, .int hv])), (aS, .inr (0, [.ref aSm, .ref aSa, .ref aSo, .ref aSdw, .ref aSdp, .ref aSby, .int cnt, .ref aN, .ref aSnu, .ref aSwk, .ref aShm, .ref aShw, .ref aShp]))] t.heap ∧ va_K (dC, dI) vwCl [(cI, .int), (cJ, .long), (cZ, .boolean)] t ∧ va_D (va_A [(aT, .inr (3, [.ref aN, .ref aS, .ref aR, .int sv, .int hv])), (aS, .inr (0, [.ref aSm, .ref aSa, .ref aSo, .ref aSdw, .ref aSdp, .ref aSby, .int cnt, .ref aN, .ref aSnu, .ref aSwk, .ref aShm, .ref aShw, .ref aShp]))] sz) [(aT, .inr (3, [.ref aN, .ref aS, .ref aR, .int sv, .int hv])), (aS, .inr (0, [.ref aSm, .ref aSa, .ref aSo, .ref aSdw, .ref aSdp, .ref aSby, .int cnt, .ref aN, .ref aSnu, .ref aSwk, .ref aShm, .ref aShw, .ref aShp]))]) (va_A [(aT, .inr (3, [.ref aN, .ref aS, .ref aR, .int sv, .int hv])), (aS, .inr (0, [.ref aSm, .ref aSa, .ref aSo, .ref aSdw, .ref aSdp, .ref aSby, .int cnt, .ref aN, .ref aSnu, .ref aSwk, .ref aShm, .ref aShw, .ref aShp]))] sz)) (vx_X (fun (_ : Unit) => True) (fun E (_ : Unit) t => x_X3_checkSet hv cnt p0 = some E ∧ va_P (dC, dI) vwCl [(aT, .inr (3, [.ref aN, .ref aS, .ref aR, .int sv, .int hv])), (aS, .inr (0, [.ref aSm, .ref aSa, .ref aSo, .ref aSdw, .ref aSdp, .ref aSby, .int cnt, .ref aN, .ref aSnu, .ref aSwk, .ref aShm, .ref aShw, .ref aShp]))] t.heap ∧ va_K (dC, dI) vwCl [(cI, .int), (cJ, .long), (cZ, .boolean)] t ∧ va_D (va_A [(aT, .inr (3, [.ref aN, .ref aS, .ref aR, .int sv, .int hv])), (aS, .inr (0, [.ref aSm, .ref aSa, .ref aSo, .ref aSdw, .ref aSdp, .ref aSby, .int cnt, .ref aN, .ref aSnu, .ref aSwk, .ref aShm, .ref aShw, .ref aShp]))] sz) [(aT, .inr (3, [.ref aN, .ref aS, .ref aR, .int sv, .int hv])), (aS, .inr (0, [.ref aSm, .ref aSa, .ref aSo, .ref aSdw, .ref aSdp, .ref aSby, .int cnt, .ref aN, .ref aSnu, .ref aSwk, .ref aShm, .ref aShw, .ref aShp]))]) (va_A [(aT, .inr (3, [.ref aN, .ref aS, .ref aR, .int sv, .int hv])), (aS, .inr (0, [.ref aSm, .ref aSa, .ref aSo, .ref aSdw, .ref aSdp, .ref aSby, .int cnt, .ref aN, .ref aSnu, .ref aSwk, .ref aShm, .ref aShw, .ref aShp]))] sz)) 1 6 (va_A [(aT, .inr (3, [.ref aN, .ref aS, .ref aR, .int sv, .int hv])), (aS, .inr (0, [.ref aSm, .ref aSa, .ref aSo, .ref aSdw, .ref aSdp, .ref aSby, .int cnt, .ref aN, .ref aSnu, .ref aSwk, .ref aShm, .ref aShw, .ref aShp]))] sz) := by
  refine vx_ofW (cc := cX3_checkSet) (maxL := 2) (ret := none) (by decide) rfl ?_
  intro p e s m args below meth c s₁ B hml htab hv
  obtain ⟨rfl, hsz, hP, hK, hD0, hE, hT, hZ⟩ := hv
  have hx := B.exec
  have hb := B.bytes
  have hr := B.returns
  have hts := atoms_spec (ws := wsX3_checkSet) B.pre
  have hown : s.vm.findClass RX3 = some m.cls := findClass_of_methodNamed B.named
  have hlocks := B.notSynchronized
  subst hsz
  have hD := hD0.self (sz := s.heap.size)
  generalize hAe : va_A [(aT, .inr (3, [.ref aN, .ref aS, .ref aR, .int sv, .int hv])), (aS, .inr (0, [.ref aSm, .ref aSa, .ref aSo, .ref aSdw, .ref aSdp, .ref aSby, .int cnt, .ref aN, .ref aSnu, .ref aSwk, .ref aShm, .ref aShw, .ref aShp]))] s.heap.size = A at hD hZ ⊢
  have hA : ∀ q : Nat, s.heap.size ≤ q → A q := fun q h => by rw [← hAe]; exact Or.inr h
  have hl := lv_entry ([.ref aT, .int p0]) (n := 2) (Nat.le_of_ble_eq_true rfl)
  rw [lg_entry_eq]
  generalize (lg_sl ([.ref aT, .int p0]) ++ List.replicate (2 - (lg_sl ([.ref aT, .int p0])).length) Slot.unset).toArray = ls at hl ⊢
  have hl : lv_has ls 2 [(0, .ref aT), (1, .int p0)] := hl
  have inX0 : ∀ w ∈ wsX00, w ∈ wsX3_checkSet := by decide +kernel
  have inX3 : ∀ w ∈ wsX30, w ∈ wsX3_checkSet := by decide +kernel
  refine tq_begin (A := A) hP (fun H locs hP hS => ?_)
  refine lv_aload_n hx hb dX3_checkSet_0 rfl (lv_at hl 0 rfl) ?_
  refine va_get (D := (dC, dI)) (ci := 3) (v := .int hv) (C := RX3) (T := TX3) (N := 5) hx hb hts inX3 hown hK hP 0 rfl rfl 4 (by decide) (hts (.fieldLink RX3 38 "TreeOfArcs" "hasTree" "Z") (by decide +kernel)) (fun _ h9 => h9) rfl dX3_checkSet_1 ?_
  refine lv_if_eq (tgt := 22) hx hb dX3_checkSet_4 (by decide) (fun c_1 => ?_) (fun c_1 => ?_)
  · have e9 : x_X3_checkSet hv cnt p0 = some "java/lang/IndexOutOfBoundsException" := by unfold x_X3_checkSet; rw [if_pos c_1]
    obtain ⟨sa, hsa9⟩ := hT.1 (193, "there is no such set") (by decide)
    have hat9 : ∀ w ∈ vx_atS RX3 147 "java/lang/IndexOutOfBoundsException" ["java/lang/RuntimeException", "java/lang/Exception"], w.before #[.ref aT, .int p0] s = true := vx_hat (B := [.castable "java/lang/IndexOutOfBoundsException" "java/lang/IndexOutOfBoundsException", .declares (Bundle.initS "java/lang/RuntimeException"), .declares (Bundle.initS "java/lang/Exception"), .declares (Bundle.initS "java/lang/Throwable")]) (fun w hw => hts w (by revert w; decide +kernel)) (by decide +kernel) (vx_c (va_Nw.use rfl (hT.2.1 "java/lang/IndexOutOfBoundsException" (by decide))) (vx_c (va_Nw.use rfl (hT.2.2 "java/lang/RuntimeException" (by decide))) (vx_c (va_Nw.use rfl (hT.2.2 "java/lang/Exception" (by decide))) (vx_c (va_Nw.use rfl (hT.2.2 "java/lang/Throwable" (by decide))) vx_n))))
    refine vx_throwS hx hb htr (own := RX3) (cls := "java/lang/IndexOutOfBoundsException") (text := "there is no such set") (names := ["java/lang/RuntimeException", "java/lang/Exception"]) (ik := 143) (is := 193) (ic := 147) (A := A) hown (by decide) (by decide) (hts (.classLink RX3 143 "java/lang/IndexOutOfBoundsException") (by decide +kernel)) (hts (.initialized "java/lang/IndexOutOfBoundsException") (by decide +kernel)) hsa9 hat9 (by decide +kernel) hZ.1 hZ.2 hS (hl.1.trans hml.symm) dX3_checkSet_22 dX3_checkSet_25 dX3_checkSet_26 dX3_checkSet_28 dX3_checkSet_31 (fun x h => (htab x h).elim) (by decide +kernel) (Nat.le_of_ble_eq_true rfl) (Nat.le_of_ble_eq_true rfl) (Nat.le_of_ble_eq_true rfl) hlocks (fun t hW hz hk => ⟨(), trivial, ⟨e9, (hP.sub [0, 1] rfl : va_P (dC, dI) vwCl [(aT, .inr (3, [.ref aN, .ref aS, .ref aR, .int sv, .int hv])), (aS, .inr (0, [.ref aSm, .ref aSa, .ref aSo, .ref aSdw, .ref aSdp, .ref aSby, .int cnt, .ref aN, .ref aSnu, .ref aSwk, .ref aShm, .ref aShw, .ref aShp]))] H).kept (fun k q hk9 => hk q.1 ((hP.sub [0, 1] rfl : va_P (dC, dI) vwCl [(aT, .inr (3, [.ref aN, .ref aS, .ref aR, .int sv, .int hv])), (aS, .inr (0, [.ref aSm, .ref aSa, .ref aSo, .ref aSdw, .ref aSdp, .ref aSby, .int cnt, .ref aN, .ref aSnu, .ref aSwk, .ref aShm, .ref aShw, .ref aShp]))] H) k q hk9).lt), va_K.moved hW hK, hD.sub [0, 1] (by decide) rfl⟩, Nat.le_trans hS.1 hz, fun q h1 h2 => (hk q (Nat.lt_of_lt_of_le h1 hS.1)).trans (hS.2.1 q h1 h2)⟩) hS.2.2 (Nat.le_refl _) (Nat.le_refl _)
  · refine lv_iload_n hx hb dX3_checkSet_7 rfl (lv_at hl 1 rfl) ?_
    refine lv_if_lt (tgt := 22) hx hb dX3_checkSet_8 (by decide) (fun c_2 => ?_) (fun c_2 => ?_)
    · have e9 : x_X3_checkSet hv cnt p0 = some "java/lang/IndexOutOfBoundsException" := by unfold x_X3_checkSet; rw [if_neg c_1, if_pos c_2]
      obtain ⟨sa, hsa9⟩ := hT.1 (193, "there is no such set") (by decide)
      have hat9 : ∀ w ∈ vx_atS RX3 147 "java/lang/IndexOutOfBoundsException" ["java/lang/RuntimeException", "java/lang/Exception"], w.before #[.ref aT, .int p0] s = true := vx_hat (B := [.castable "java/lang/IndexOutOfBoundsException" "java/lang/IndexOutOfBoundsException", .declares (Bundle.initS "java/lang/RuntimeException"), .declares (Bundle.initS "java/lang/Exception"), .declares (Bundle.initS "java/lang/Throwable")]) (fun w hw => hts w (by revert w; decide +kernel)) (by decide +kernel) (vx_c (va_Nw.use rfl (hT.2.1 "java/lang/IndexOutOfBoundsException" (by decide))) (vx_c (va_Nw.use rfl (hT.2.2 "java/lang/RuntimeException" (by decide))) (vx_c (va_Nw.use rfl (hT.2.2 "java/lang/Exception" (by decide))) (vx_c (va_Nw.use rfl (hT.2.2 "java/lang/Throwable" (by decide))) vx_n))))
      refine vx_throwS hx hb htr (own := RX3) (cls := "java/lang/IndexOutOfBoundsException") (text := "there is no such set") (names := ["java/lang/RuntimeException", "java/lang/Exception"]) (ik := 143) (is := 193) (ic := 147) (A := A) hown (by decide) (by decide) (hts (.classLink RX3 143 "java/lang/IndexOutOfBoundsException") (by decide +kernel)) (hts (.initialized "java/lang/IndexOutOfBoundsException") (by decide +kernel)) hsa9 hat9 (by decide +kernel) hZ.1 hZ.2 hS (hl.1.trans hml.symm) dX3_checkSet_22 dX3_checkSet_25 dX3_checkSet_26 dX3_checkSet_28 dX3_checkSet_31 (fun x h => (htab x h).elim) (by decide +kernel) (Nat.le_of_ble_eq_true rfl) (Nat.le_of_ble_eq_true rfl) (Nat.le_of_ble_eq_true rfl) hlocks (fun t hW hz hk => ⟨(), trivial, ⟨e9, (hP.sub [0, 1] rfl : va_P (dC, dI) vwCl [(aT, .inr (3, [.ref aN, .ref aS, .ref aR, .int sv, .int hv])), (aS, .inr (0, [.ref aSm, .ref aSa, .ref aSo, .ref aSdw, .ref aSdp, .ref aSby, .int cnt, .ref aN, .ref aSnu, .ref aSwk, .ref aShm, .ref aShw, .ref aShp]))] H).kept (fun k q hk9 => hk q.1 ((hP.sub [0, 1] rfl : va_P (dC, dI) vwCl [(aT, .inr (3, [.ref aN, .ref aS, .ref aR, .int sv, .int hv])), (aS, .inr (0, [.ref aSm, .ref aSa, .ref aSo, .ref aSdw, .ref aSdp, .ref aSby, .int cnt, .ref aN, .ref aSnu, .ref aSwk, .ref aShm, .ref aShw, .ref aShp]))] H) k q hk9).lt), va_K.moved hW hK, hD.sub [0, 1] (by decide) rfl⟩, Nat.le_trans hS.1 hz, fun q h1 h2 => (hk q (Nat.lt_of_lt_of_le h1 hS.1)).trans (hS.2.1 q h1 h2)⟩) hS.2.2 (Nat.le_refl _) (Nat.le_refl _)
    · refine lv_iload_n hx hb dX3_checkSet_11 rfl (lv_at hl 1 rfl) ?_
      refine lv_aload_n hx hb dX3_checkSet_12 rfl (lv_at hl 0 rfl) ?_
      refine va_get (D := (dC, dI)) (ci := 3) (v := .ref aS) (C := RX3) (T := TX3) (N := 5) hx hb hts inX3 hown hK hP 0 rfl rfl 1 (by decide) (hts (.fieldLink RX3 21 "TreeOfArcs" "nest" "LTreeOfArcs$Nest;") (by decide +kernel)) (fun _ h9 => h9) rfl dX3_checkSet_13 ?_
      refine va_get (D := (dC, dI)) (ci := 0) (v := .int cnt) (C := RX0) (T := TX0) (N := 13) hx hb hts inX0 hown hK hP 1 rfl rfl 6 (by decide) (hts (.fieldLink RX3 118 "TreeOfArcs$Nest" "count" "I") (by decide +kernel)) (fun _ h9 => h9) rfl dX3_checkSet_16 ?_
      refine lv_icmp_lt (tgt := 32) hx hb dX3_checkSet_19 (by decide) (fun c_3 => ?_) (fun c_3 => ?_)
      · have x9 : x_X3_checkSet hv cnt p0 = none := by unfold x_X3_checkSet; rw [if_neg c_1, if_neg c_2, if_pos c_3]
        have hP9 : va_P (dC, dI) vwCl [(aT, .inr (3, [.ref aN, .ref aS, .ref aR, .int sv, .int hv])), (aS, .inr (0, [.ref aSm, .ref aSa, .ref aSo, .ref aSdw, .ref aSdp, .ref aSby, .int cnt, .ref aN, .ref aSnu, .ref aSwk, .ref aShm, .ref aShw, .ref aShp]))] H := by exact hP.sub [0, 1] rfl
        have hD9 : va_D A [(aT, .inr (3, [.ref aN, .ref aS, .ref aR, .int sv, .int hv])), (aS, .inr (0, [.ref aSm, .ref aSa, .ref aSo, .ref aSdw, .ref aSdp, .ref aSby, .int cnt, .ref aN, .ref aSnu, .ref aSwk, .ref aShm, .ref aShw, .ref aShp]))] := by exact hD.sub [0, 1] (by decide) rfl
        refine vx_ret ?_
        exact W.vret hx hb hr (fun t ht hW => ⟨⟨(), rfl, x9, by rw [ht]; exact hP9, va_K.moved hW.alike hK, hD9⟩, hS.F ht⟩) hS.2.2 dX3_checkSet_32
      · have e9 : x_X3_checkSet hv cnt p0 = some "java/lang/IndexOutOfBoundsException" := by unfold x_X3_checkSet; rw [if_neg c_1, if_neg c_2, if_neg c_3]
        obtain ⟨sa, hsa9⟩ := hT.1 (193, "there is no such set") (by decide)
        have hat9 : ∀ w ∈ vx_atS RX3 147 "java/lang/IndexOutOfBoundsException" ["java/lang/RuntimeException", "java/lang/Exception"], w.before #[.ref aT, .int p0] s = true := vx_hat (B := [.castable "java/lang/IndexOutOfBoundsException" "java/lang/IndexOutOfBoundsException", .declares (Bundle.initS "java/lang/RuntimeException"), .declares (Bundle.initS "java/lang/Exception"), .declares (Bundle.initS "java/lang/Throwable")]) (fun w hw => hts w (by revert w; decide +kernel)) (by decide +kernel) (vx_c (va_Nw.use rfl (hT.2.1 "java/lang/IndexOutOfBoundsException" (by decide))) (vx_c (va_Nw.use rfl (hT.2.2 "java/lang/RuntimeException" (by decide))) (vx_c (va_Nw.use rfl (hT.2.2 "java/lang/Exception" (by decide))) (vx_c (va_Nw.use rfl (hT.2.2 "java/lang/Throwable" (by decide))) vx_n))))
        refine vx_throwS hx hb htr (own := RX3) (cls := "java/lang/IndexOutOfBoundsException") (text := "there is no such set") (names := ["java/lang/RuntimeException", "java/lang/Exception"]) (ik := 143) (is := 193) (ic := 147) (A := A) hown (by decide) (by decide) (hts (.classLink RX3 143 "java/lang/IndexOutOfBoundsException") (by decide +kernel)) (hts (.initialized "java/lang/IndexOutOfBoundsException") (by decide +kernel)) hsa9 hat9 (by decide +kernel) hZ.1 hZ.2 hS (hl.1.trans hml.symm) dX3_checkSet_22 dX3_checkSet_25 dX3_checkSet_26 dX3_checkSet_28 dX3_checkSet_31 (fun x h => (htab x h).elim) (by decide +kernel) (Nat.le_of_ble_eq_true rfl) (Nat.le_of_ble_eq_true rfl) (Nat.le_of_ble_eq_true rfl) hlocks (fun t hW hz hk => ⟨(), trivial, ⟨e9, (hP.sub [0, 1] rfl : va_P (dC, dI) vwCl [(aT, .inr (3, [.ref aN, .ref aS, .ref aR, .int sv, .int hv])), (aS, .inr (0, [.ref aSm, .ref aSa, .ref aSo, .ref aSdw, .ref aSdp, .ref aSby, .int cnt, .ref aN, .ref aSnu, .ref aSwk, .ref aShm, .ref aShw, .ref aShp]))] H).kept (fun k q hk9 => hk q.1 ((hP.sub [0, 1] rfl : va_P (dC, dI) vwCl [(aT, .inr (3, [.ref aN, .ref aS, .ref aR, .int sv, .int hv])), (aS, .inr (0, [.ref aSm, .ref aSa, .ref aSo, .ref aSdw, .ref aSdp, .ref aSby, .int cnt, .ref aN, .ref aSnu, .ref aSwk, .ref aShm, .ref aShw, .ref aShp]))] H) k q hk9).lt), va_K.moved hW hK, hD.sub [0, 1] (by decide) rfl⟩, Nat.le_trans hS.1 hz, fun q h1 h2 => (hk q (Nat.lt_of_lt_of_le h1 hS.1)).trans (hS.2.1 q h1 h2)⟩) hS.2.2 (Nat.le_refl _) (Nat.le_refl _)
def x_X3_checkWeight (p0 : Int64) : Option String := (if (lg_cmp p0 0) < 0 then (some "java/lang/IllegalArgumentException") else (if (lg_cmp p0 (1099511627776)) ≤ 0 then none else (some "java/lang/IllegalArgumentException")))
set_option maxHeartbeats 4000000 in
set_option maxRecDepth 100000 in
theorem c_X3_checkWeight (l : Launch) (htr : l.stackTraces = false) (dC : Nat → ClassId) (dI : Nat → Nat → Nat) (cI cJ cZ : ClassId) (sz : Nat) (p0 : Int64)  : vx_Met l yX3_checkWeight wsX3_checkWeight ({ frames := 6, cells := 1, slots := 6, locals := 82 }) (va_Pc [.long p0] (fun U => U.heap.size = sz ∧ va_P (dC, dI) vwCl [] U.heap ∧ va_K (dC, dI) vwCl [(cI, .int), (cJ, .long), (cZ, .boolean)] U ∧ va_D (fun _ => True) [] ∧ tq_E U ∧ tq_T U ∧ tq_Z (va_A [] sz) U U.heap)) (va_Qv (fun (_ : Unit) => x_X3_checkWeight p0 = none) (fun (_ : Unit) t => va_P (dC, dI) vwCl [] t.heap ∧ va_K (dC, dI) vwCl [(cI, .int), (cJ, .long), (cZ, .boolean)] t ∧ va_D (va_A [] sz) []) (va_A [] sz)) (vx_X (fun (_ : Unit) => True) (fun E (_ : Unit) t => x_X3_checkWeight p0 = some E ∧ va_P (dC, dI) vwCl [] t.heap ∧ va_K (dC, dI) vwCl [(cI, .int), (cJ, .long), (cZ, .boolean)] t ∧ va_D (va_A [] sz) []) (va_A [] sz)) 1 6 (va_A [] sz) := by
  refine vx_ofW (cc := cX3_checkWeight) (maxL := 2) (ret := none) (by decide) rfl ?_
  intro p e s m args below meth c s₁ B hml htab hv
  obtain ⟨rfl, hsz, hP, hK, hD0, hE, hT, hZ⟩ := hv
  have hx := B.exec
  have hb := B.bytes
  have hr := B.returns
  have hts := atoms_spec (ws := wsX3_checkWeight) B.pre
  have hown : s.vm.findClass RX3 = some m.cls := findClass_of_methodNamed B.named
  have hlocks := B.notSynchronized
  subst hsz
  have hD := hD0.self (sz := s.heap.size)
  generalize hAe : va_A [] s.heap.size = A at hD hZ ⊢
  have hA : ∀ q : Nat, s.heap.size ≤ q → A q := fun q h => by rw [← hAe]; exact Or.inr h
  have hl := lv_entry ([.long p0]) (n := 2) (Nat.le_of_ble_eq_true rfl)
  rw [lg_entry_eq]
  generalize (lg_sl ([.long p0]) ++ List.replicate (2 - (lg_sl ([.long p0])).length) Slot.unset).toArray = ls at hl ⊢
  have hl : lv_has ls 2 [(0, .long p0)] := hl
  refine tq_begin (A := A) hP (fun H locs hP hS => ?_)
  refine lv_lload_n hx hb dX3_checkWeight_0 rfl (lv_at hl 0 rfl) ?_
  refine lv_lconst (v := 0) hx hb dX3_checkWeight_1 (by decide) ?_
  refine W.lcmp hx hb dX3_checkWeight_2 ?_
  refine lv_if_lt (tgt := 14) hx hb dX3_checkWeight_3 (by decide) (fun c_1 => ?_) (fun c_1 => ?_)
  · have e9 : x_X3_checkWeight p0 = some "java/lang/IllegalArgumentException" := by unfold x_X3_checkWeight; rw [if_pos c_1]
    obtain ⟨sa, hsa9⟩ := hT.1 (197, "the weight is not 0 .. 2^40") (by decide)
    have hat9 : ∀ w ∈ vx_atS RX3 45 "java/lang/IllegalArgumentException" ["java/lang/RuntimeException", "java/lang/Exception"], w.before #[.long p0] s = true := vx_hat (B := [.castable "java/lang/IllegalArgumentException" "java/lang/IllegalArgumentException", .declares (Bundle.initS "java/lang/RuntimeException"), .declares (Bundle.initS "java/lang/Exception"), .declares (Bundle.initS "java/lang/Throwable")]) (fun w hw => hts w (by revert w; decide +kernel)) (by decide +kernel) (vx_c (va_Nw.use rfl (hT.2.1 "java/lang/IllegalArgumentException" (by decide))) (vx_c (va_Nw.use rfl (hT.2.2 "java/lang/RuntimeException" (by decide))) (vx_c (va_Nw.use rfl (hT.2.2 "java/lang/Exception" (by decide))) (vx_c (va_Nw.use rfl (hT.2.2 "java/lang/Throwable" (by decide))) vx_n))))
    refine vx_throwS hx hb htr (own := RX3) (cls := "java/lang/IllegalArgumentException") (text := "the weight is not 0 .. 2^40") (names := ["java/lang/RuntimeException", "java/lang/Exception"]) (ik := 41) (is := 197) (ic := 45) (A := A) hown (by decide) (by decide) (hts (.classLink RX3 41 "java/lang/IllegalArgumentException") (by decide +kernel)) (hts (.initialized "java/lang/IllegalArgumentException") (by decide +kernel)) hsa9 hat9 (by decide +kernel) hZ.1 hZ.2 hS (hl.1.trans hml.symm) dX3_checkWeight_14 dX3_checkWeight_17 dX3_checkWeight_18 dX3_checkWeight_20 dX3_checkWeight_23 (fun x h => (htab x h).elim) (by decide +kernel) (Nat.le_of_ble_eq_true rfl) (Nat.le_of_ble_eq_true rfl) (Nat.le_of_ble_eq_true rfl) hlocks (fun t hW hz hk => ⟨(), trivial, ⟨e9, (hP.sub [] rfl : va_P (dC, dI) vwCl [] H).kept (fun k q hk9 => hk q.1 ((hP.sub [] rfl : va_P (dC, dI) vwCl [] H) k q hk9).lt), va_K.moved hW hK, hD.sub [] (by decide) rfl⟩, Nat.le_trans hS.1 hz, fun q h1 h2 => (hk q (Nat.lt_of_lt_of_le h1 hS.1)).trans (hS.2.1 q h1 h2)⟩) hS.2.2 (Nat.le_refl _) (Nat.le_refl _)
  · refine lv_lload_n hx hb dX3_checkWeight_6 rfl (lv_at hl 0 rfl) ?_
    refine lv_ldc2 hx hb hown (hts (.constantLong RX3 195 (1099511627776)) (by decide +kernel)) dX3_checkWeight_7 ?_
    refine W.lcmp hx hb dX3_checkWeight_10 ?_
    refine lv_if_le (tgt := 24) hx hb dX3_checkWeight_11 (by decide) (fun c_2 => ?_) (fun c_2 => ?_)
    · have x9 : x_X3_checkWeight p0 = none := by unfold x_X3_checkWeight; rw [if_neg c_1, if_pos c_2]
      have hP9 : va_P (dC, dI) vwCl [] H := by exact hP.sub [] rfl
      have hD9 : va_D A [] := by exact hD.sub [] (by decide) rfl
      refine vx_ret ?_
      exact W.vret hx hb hr (fun t ht hW => ⟨⟨(), rfl, x9, by rw [ht]; exact hP9, va_K.moved hW.alike hK, hD9⟩, hS.F ht⟩) hS.2.2 dX3_checkWeight_24
    · have e9 : x_X3_checkWeight p0 = some "java/lang/IllegalArgumentException" := by unfold x_X3_checkWeight; rw [if_neg c_1, if_neg c_2]
      obtain ⟨sa, hsa9⟩ := hT.1 (197, "the weight is not 0 .. 2^40") (by decide)
      have hat9 : ∀ w ∈ vx_atS RX3 45 "java/lang/IllegalArgumentException" ["java/lang/RuntimeException", "java/lang/Exception"], w.before #[.long p0] s = true := vx_hat (B := [.castable "java/lang/IllegalArgumentException" "java/lang/IllegalArgumentException", .declares (Bundle.initS "java/lang/RuntimeException"), .declares (Bundle.initS "java/lang/Exception"), .declares (Bundle.initS "java/lang/Throwable")]) (fun w hw => hts w (by revert w; decide +kernel)) (by decide +kernel) (vx_c (va_Nw.use rfl (hT.2.1 "java/lang/IllegalArgumentException" (by decide))) (vx_c (va_Nw.use rfl (hT.2.2 "java/lang/RuntimeException" (by decide))) (vx_c (va_Nw.use rfl (hT.2.2 "java/lang/Exception" (by decide))) (vx_c (va_Nw.use rfl (hT.2.2 "java/lang/Throwable" (by decide))) vx_n))))
      refine vx_throwS hx hb htr (own := RX3) (cls := "java/lang/IllegalArgumentException") (text := "the weight is not 0 .. 2^40") (names := ["java/lang/RuntimeException", "java/lang/Exception"]) (ik := 41) (is := 197) (ic := 45) (A := A) hown (by decide) (by decide) (hts (.classLink RX3 41 "java/lang/IllegalArgumentException") (by decide +kernel)) (hts (.initialized "java/lang/IllegalArgumentException") (by decide +kernel)) hsa9 hat9 (by decide +kernel) hZ.1 hZ.2 hS (hl.1.trans hml.symm) dX3_checkWeight_14 dX3_checkWeight_17 dX3_checkWeight_18 dX3_checkWeight_20 dX3_checkWeight_23 (fun x h => (htab x h).elim) (by decide +kernel) (Nat.le_of_ble_eq_true rfl) (Nat.le_of_ble_eq_true rfl) (Nat.le_of_ble_eq_true rfl) hlocks (fun t hW hz hk => ⟨(), trivial, ⟨e9, (hP.sub [] rfl : va_P (dC, dI) vwCl [] H).kept (fun k q hk9 => hk q.1 ((hP.sub [] rfl : va_P (dC, dI) vwCl [] H) k q hk9).lt), va_K.moved hW hK, hD.sub [] (by decide) rfl⟩, Nat.le_trans hS.1 hz, fun q h1 h2 => (hk q (Nat.lt_of_lt_of_le h1 hS.1)).trans (hS.2.1 q h1 h2)⟩) hS.2.2 (Nat.le_refl _) (Nat.le_refl _)
theorem tq_cn {nk : Nat} {p0 : Int32} (h : (x_X3_checkNode (nI nk) p0) = none) (hnk : nk ≤ 24) : tq_r nk p0 := by
  unfold x_X3_checkNode f_X1_isNode at h
  by_cases c1 : p0 < 0
  · simp [c1] at h
  · by_cases c2 : nI nk ≤ p0
    · simp [c1, c2] at h
    · exact tq_r_of c1 (Int32.not_le.mp c2) (by omega)
theorem tq_ca {ak : Nat} {p0 : Int32} (h : (x_X3_checkArc (nI ak) p0) = none) (hak : ak ≤ 60) : tq_r ak p0 := by
  unfold x_X3_checkArc f_X1_isArc at h
  by_cases c1 : p0 < 0
  · simp [c1] at h
  · by_cases c2 : nI ak ≤ p0
    · simp [c1, c2] at h
    · exact tq_r_of c1 (Int32.not_le.mp c2) (by omega)
theorem tq_cs {ck : Nat} {hv p0 : Int32} (h : (x_X3_checkSet hv (nI ck) p0) = none) (hck : ck ≤ 45) : tq_r ck p0 := by
  unfold x_X3_checkSet at h
  split at h
  · exact absurd h (Option.some_ne_none _)
  · split at h
    · exact absurd h (Option.some_ne_none _)
    · split at h
      · exact tq_r_of (by assumption) (by assumption) (by omega)
      · exact absurd h (Option.some_ne_none _)
theorem tq_hb (a b : Int32) : f_X3_holds a b = 0 ∨ f_X3_holds a b = 1 := by
  unfold f_X3_holds
  split
  · first | exact Or.inl rfl | exact Or.inr rfl
  · first | exact Or.inl rfl | exact Or.inr rfl
theorem k_grow {nk : Nat} {rt : Int32} {ak : Nat} {fr to : Nat → Int32} {wt : Nat → Int64} {op sm sa so : Nat → Int32} {dw dp : Nat → Int64} {wk hm : Nat → Int32} {hw hp : Nat → Int64} {nu by_ : Nat → Int32} (hnk : nk ≤ 24) (hak : ak ≤ 60) (hfr : ∀ j, j < 60 → tq_r 24 (fr j)) (hsa : ∀ j, j < 45 → sa j = -1 ∨ tq_r 60 (sa j)) :
    (f_X0_grow nk rt ak fr to wt op sm sa so dw dp wk hm hw hp nu by_).1 ≤ 45 ∧ (∀ j, j < 45 → (f_X0_grow nk rt ak fr to wt op sm sa so dw dp wk hm hw hp nu by_).2.2.1 j = -1 ∨ tq_r 60 ((f_X0_grow nk rt ak fr to wt op sm sa so dw dp wk hm hw hp nu by_).2.2.1 j)) := by
  have h1 : ∀ n, n ≤ nk → (t_X0_grow_31 nk rt ak fr to wt op (0, sm, sa, so, dw, dp, wk, f_J7_fill_53178 hm 24 (-1), f_J7_fill_d0a16 hw 24 0, f_J7_fill_d0a16 hp 24 0) n).1 ≤ 45 ∧ (∀ j, j < 45 → (t_X0_grow_31 nk rt ak fr to wt op (0, sm, sa, so, dw, dp, wk, f_J7_fill_53178 hm 24 (-1), f_J7_fill_d0a16 hw 24 0, f_J7_fill_d0a16 hp 24 0) n).2.2.1 j = -1 ∨ tq_r 60 ((t_X0_grow_31 nk rt ak fr to wt op (0, sm, sa, so, dw, dp, wk, f_J7_fill_53178 hm 24 (-1), f_J7_fill_d0a16 hw 24 0, f_J7_fill_d0a16 hp 24 0) n).2.2.1 j)) ∧ (∀ j, j < 24 → (t_X0_grow_31 nk rt ak fr to wt op (0, sm, sa, so, dw, dp, wk, f_J7_fill_53178 hm 24 (-1), f_J7_fill_d0a16 hw 24 0, f_J7_fill_d0a16 hp 24 0) n).2.2.2.2.2.2.2.1 j = -1 ∨ tq_r 45 ((t_X0_grow_31 nk rt ak fr to wt op (0, sm, sa, so, dw, dp, wk, f_J7_fill_53178 hm 24 (-1), f_J7_fill_d0a16 hw 24 0, f_J7_fill_d0a16 hp 24 0) n).2.2.2.2.2.2.2.1 j)) := by
    unfold t_X0_grow_31
    refine tq_it_inv (N := nk) (fun _ (x : Nat × (Nat → Int32) × (Nat → Int32) × (Nat → Int32) × (Nat → Int64) × (Nat → Int64) × (Nat → Int32) × (Nat → Int32) × (Nat → Int64) × (Nat → Int64)) => x.1 ≤ 45 ∧ (∀ j, j < 45 → x.2.2.1 j = -1 ∨ tq_r 60 (x.2.2.1 j)) ∧ (∀ j, j < 24 → x.2.2.2.2.2.2.2.1 j = -1 ∨ tq_r 45 (x.2.2.2.2.2.2.2.1 j))) ⟨Nat.zero_le _, hsa, fun j hj => Or.inl (k_fillI j hj)⟩ (fun i x hi h => ?_)
    try dsimp only
    unfold b_X0_grow_31
    split
    · exact h
    · exact (k_addSet hak h.1 h.2.1 h.2.2).2
  have h1 := h1 nk (Nat.le_refl _)
  have h2 : ∀ (y : Nat × (Nat → Int32) × (Nat → Int32) × (Nat → Int32) × (Nat → Int64) × (Nat → Int64) × (Nat → Int32) × (Nat → Int32) × (Nat → Int64) × (Nat → Int64)), (y.1 ≤ 45 ∧ (∀ j, j < 45 → y.2.2.1 j = -1 ∨ tq_r 60 (y.2.2.1 j)) ∧ (∀ j, j < 24 → y.2.2.2.2.2.2.2.1 j = -1 ∨ tq_r 45 (y.2.2.2.2.2.2.2.1 j))) → ∀ n, n ≤ nk → (t_X0_grow_69 nk ak fr to wt op y n).1 ≤ 45 ∧ (∀ j, j < 45 → (t_X0_grow_69 nk ak fr to wt op y n).2.2.1 j = -1 ∨ tq_r 60 ((t_X0_grow_69 nk ak fr to wt op y n).2.2.1 j)) ∧ (∀ j, j < 24 → (t_X0_grow_69 nk ak fr to wt op y n).2.2.2.2.2.2.2.1 j = -1 ∨ tq_r 45 ((t_X0_grow_69 nk ak fr to wt op y n).2.2.2.2.2.2.2.1 j)) := by
    intro y hy
    unfold t_X0_grow_69
    refine tq_it_inv (N := nk) (fun _ (x : Nat × (Nat → Int32) × (Nat → Int32) × (Nat → Int32) × (Nat → Int64) × (Nat → Int64) × (Nat → Int32) × (Nat → Int32) × (Nat → Int64) × (Nat → Int64)) => x.1 ≤ 45 ∧ (∀ j, j < 45 → x.2.2.1 j = -1 ∨ tq_r 60 (x.2.2.1 j)) ∧ (∀ j, j < 24 → x.2.2.2.2.2.2.2.1 j = -1 ∨ tq_r 45 (x.2.2.2.2.2.2.2.1 j))) hy (fun i x hi h => ?_)
    try dsimp only
    unfold b_X0_grow_69
    have h9 := k_walk (nk := nk) (ak := ak) (ck := x.1) (fr := fr) (to := to) (wt := wt) (op := op) (sm := x.2.1) (sa := x.2.2.1) (so := x.2.2.2.1) (dw := x.2.2.2.2.1) (dp := x.2.2.2.2.2.1) (wk := x.2.2.2.2.2.2.1) (hm := x.2.2.2.2.2.2.2.1) (hw := x.2.2.2.2.2.2.2.2.1) (hp := x.2.2.2.2.2.2.2.2.2) (v := i) hak h.1 hfr h.2.1 h.2.2 (by omega)
    revert h9
    generalize f_X0_walkBackFrom nk ak x.1 fr to wt op x.2.1 x.2.2.1 x.2.2.2.1 x.2.2.2.2.1 x.2.2.2.2.2.1 x.2.2.2.2.2.2.1 x.2.2.2.2.2.2.2.1 x.2.2.2.2.2.2.2.2.1 x.2.2.2.2.2.2.2.2.2 i = z
    exact fun h9 => h9
  unfold f_X0_grow
  revert h1
  generalize t_X0_grow_31 nk rt ak fr to wt op (0, sm, sa, so, dw, dp, wk, f_J7_fill_53178 hm 24 (-1), f_J7_fill_d0a16 hw 24 0, f_J7_fill_d0a16 hp 24 0) nk = y
  intro h1
  have h3 := h2 y h1 nk (Nat.le_refl _)
  exact ⟨h3.1, h3.2.1⟩
