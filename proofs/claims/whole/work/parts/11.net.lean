def f_X3_holds (p0 : Int32) (p1 : Int32) : Int32 := (if ((p0 >>> (p1 &&& 31)) &&& 1) = 1 then 1 else 0)
set_option maxHeartbeats 4000000 in
set_option maxRecDepth 100000 in
theorem c_X3_holds (l : Launch) (dC : Nat → ClassId) (dI : Nat → Nat → Nat) (cI cJ cZ : ClassId) (sz : Nat) (p0 : Int32) (p1 : Int32)  : Met l yX3_holds wsX3_holds ({ frames := 0, cells := 0, slots := 0, locals := 0 }) (va_Pc [.int p0, .int p1] (fun U => U.heap.size = sz ∧ va_P (dC, dI) vwCl [] U.heap ∧ va_K (dC, dI) vwCl [(cI, .int), (cJ, .long), (cZ, .boolean)] U ∧ va_D (fun _ => True) [] ∧ tq_E U)) (va_Qi (fun (r : Int32) (_ : Unit) => r = (f_X3_holds p0 p1)) (fun (_ : Unit) t => va_P (dC, dI) vwCl [] t.heap ∧ va_K (dC, dI) vwCl [(cI, .int), (cJ, .long), (cZ, .boolean)] t ∧ va_D (va_A [] sz) []) (va_A [] sz)) 0 0 (va_A [] sz) := by
  refine Met.ofW (cc := cX3_holds) (maxL := 2) (ret := (some .boolean)) (by decide) rfl ?_
  intro p e s m args below meth c s₁ B hml hv
  obtain ⟨rfl, hsz, hP, hK, hD0, hE⟩ := hv
  have hx := B.exec
  have hb := B.bytes
  have hr := B.returns
  have hts := atoms_spec (ws := wsX3_holds) B.pre
  have hown : s.vm.findClass RX3 = some m.cls := findClass_of_methodNamed B.named
  have hlocks := B.notSynchronized
  subst hsz
  have hD := hD0.self (sz := s.heap.size)
  generalize hAe : va_A [] s.heap.size = A at hD ⊢
  have hA : ∀ q : Nat, s.heap.size ≤ q → A q := fun q h => by rw [← hAe]; exact Or.inr h
  have hl := lv_entry ([.int p0, .int p1]) (n := 2) (Nat.le_of_ble_eq_true rfl)
  rw [lg_entry_eq]
  generalize (lg_sl ([.int p0, .int p1]) ++ List.replicate (2 - (lg_sl ([.int p0, .int p1])).length) Slot.unset).toArray = ls at hl ⊢
  have hl : lv_has ls 2 [(0, .int p0), (1, .int p1)] := hl
  refine tq_begin (A := A) hP (fun H locs hP hS => ?_)
  refine lv_iload_n hx hb dX3_holds_0 rfl (lv_at hl 0 rfl) ?_
  refine lv_iload_n hx hb dX3_holds_1 rfl (lv_at hl 1 rfl) ?_
  refine lv_ishr hx hb dX3_holds_2 ?_
  refine lv_iconst (v := 1) hx hb dX3_holds_3 (by decide) ?_
  refine lv_iand hx hb dX3_holds_4 ?_
  refine lv_iconst (v := 1) hx hb dX3_holds_5 (by decide) ?_
  refine lv_icmp_ne (tgt := 13) hx hb dX3_holds_6 (by decide) (fun c_1 => ?_) (fun c_1 => ?_)
  · refine lv_iconst (v := 0) hx hb dX3_holds_13 (by decide) ?_
    have e9 : f_X3_holds p0 p1 = 0 := by unfold f_X3_holds; rw [if_neg c_1]
    have hP9 : va_P (dC, dI) vwCl [] H := by exact hP.sub [] rfl
    have hD9 : va_D A [] := by exact hD.sub [] (by decide) rfl
    exact W.zret (v := 0) hx hb hr rfl (fun t ht hW => ⟨⟨_, (), rfl, (by rw [e9]), by rw [ht]; exact hP9, va_K.moved hW.alike hK, hD9⟩, hS.F ht⟩) hS.2.2 dX3_holds_14
  · refine lv_iconst (v := 1) hx hb dX3_holds_9 (by decide) ?_
    refine lv_goto (tgt := 14) hx hb dX3_holds_10 (by decide) ?_
    have e9 : f_X3_holds p0 p1 = 1 := by unfold f_X3_holds; rw [if_pos c_1]
    have hP9 : va_P (dC, dI) vwCl [] H := by exact hP.sub [] rfl
    have hD9 : va_D A [] := by exact hD.sub [] (by decide) rfl
    exact W.zret (v := 1) hx hb hr rfl (fun t ht hW => ⟨⟨_, (), rfl, (by rw [e9]), by rw [ht]; exact hP9, va_K.moved hW.alike hK, hD9⟩, hS.F ht⟩) hS.2.2 dX3_holds_14
def f_X1_isNode (nc : Int32) (p0 : Int32) : Int32 := (if p0 < 0 then 0 else (if nc ≤ p0 then 0 else 1))
set_option maxHeartbeats 4000000 in
set_option maxRecDepth 100000 in
theorem c_X1_isNode (l : Launch) (dC : Nat → ClassId) (dI : Nat → Nat → Nat) (cI cJ cZ : ClassId) (aN aNf aNt aNw aNo : Nat) (sz : Nat) (nc : Int32) (rt : Int32) (ac : Int32) (p0 : Int32)  : Met l yX1_isNode wsX1_isNode ({ frames := 0, cells := 0, slots := 0, locals := 0 }) (va_Pc [.ref aN, .int p0] (fun U => U.heap.size = sz ∧ va_P (dC, dI) vwCl [(aN, .inr (1, [.ref aNf, .ref aNt, .ref aNw, .ref aNo, .int nc, .int rt, .int ac]))] U.heap ∧ va_K (dC, dI) vwCl [(cI, .int), (cJ, .long), (cZ, .boolean)] U ∧ va_D (fun _ => True) [(aN, .inr (1, [.ref aNf, .ref aNt, .ref aNw, .ref aNo, .int nc, .int rt, .int ac]))] ∧ tq_E U)) (va_Qi (fun (r : Int32) (_ : Unit) => r = (f_X1_isNode nc p0)) (fun (_ : Unit) t => va_P (dC, dI) vwCl [(aN, .inr (1, [.ref aNf, .ref aNt, .ref aNw, .ref aNo, .int nc, .int rt, .int ac]))] t.heap ∧ va_K (dC, dI) vwCl [(cI, .int), (cJ, .long), (cZ, .boolean)] t ∧ va_D (va_A [(aN, .inr (1, [.ref aNf, .ref aNt, .ref aNw, .ref aNo, .int nc, .int rt, .int ac]))] sz) [(aN, .inr (1, [.ref aNf, .ref aNt, .ref aNw, .ref aNo, .int nc, .int rt, .int ac]))]) (va_A [(aN, .inr (1, [.ref aNf, .ref aNt, .ref aNw, .ref aNo, .int nc, .int rt, .int ac]))] sz)) 0 0 (va_A [(aN, .inr (1, [.ref aNf, .ref aNt, .ref aNw, .ref aNo, .int nc, .int rt, .int ac]))] sz) := by
  refine Met.ofW (cc := cX1_isNode) (maxL := 2) (ret := (some .boolean)) (by decide) rfl ?_
  intro p e s m args below meth c s₁ B hml hv
  obtain ⟨rfl, hsz, hP, hK, hD0, hE⟩ := hv
  have hx := B.exec
  have hb := B.bytes
  have hr := B.returns
  have hts := atoms_spec (ws := wsX1_isNode) B.pre
  have hown : s.vm.findClass RX1 = some m.cls := findClass_of_methodNamed B.named
  have hlocks := B.notSynchronized
  subst hsz
  have hD := hD0.self (sz := s.heap.size)
  generalize hAe : va_A [(aN, .inr (1, [.ref aNf, .ref aNt, .ref aNw, .ref aNo, .int nc, .int rt, .int ac]))] s.heap.size = A at hD ⊢
  have hA : ∀ q : Nat, s.heap.size ≤ q → A q := fun q h => by rw [← hAe]; exact Or.inr h
  have hl := lv_entry ([.ref aN, .int p0]) (n := 2) (Nat.le_of_ble_eq_true rfl)
  rw [lg_entry_eq]
  generalize (lg_sl ([.ref aN, .int p0]) ++ List.replicate (2 - (lg_sl ([.ref aN, .int p0])).length) Slot.unset).toArray = ls at hl ⊢
  have hl : lv_has ls 2 [(0, .ref aN), (1, .int p0)] := hl
  have inX1 : ∀ w ∈ wsX10, w ∈ wsX1_isNode := by decide +kernel
  refine tq_begin (A := A) hP (fun H locs hP hS => ?_)
  refine lv_iload_n hx hb dX1_isNode_0 rfl (lv_at hl 1 rfl) ?_
  refine lv_if_lt (tgt := 16) hx hb dX1_isNode_1 (by decide) (fun c_1 => ?_) (fun c_1 => ?_)
  · refine lv_iconst (v := 0) hx hb dX1_isNode_16 (by decide) ?_
    have e9 : f_X1_isNode nc p0 = 0 := by unfold f_X1_isNode; rw [if_pos c_1]
    have hP9 : va_P (dC, dI) vwCl [(aN, .inr (1, [.ref aNf, .ref aNt, .ref aNw, .ref aNo, .int nc, .int rt, .int ac]))] H := by exact hP.sub [0] rfl
    have hD9 : va_D A [(aN, .inr (1, [.ref aNf, .ref aNt, .ref aNw, .ref aNo, .int nc, .int rt, .int ac]))] := by exact hD.sub [0] (by decide) rfl
    exact W.zret (v := 0) hx hb hr rfl (fun t ht hW => ⟨⟨_, (), rfl, (by rw [e9]), by rw [ht]; exact hP9, va_K.moved hW.alike hK, hD9⟩, hS.F ht⟩) hS.2.2 dX1_isNode_17
  · refine lv_iload_n hx hb dX1_isNode_4 rfl (lv_at hl 1 rfl) ?_
    refine lv_aload_n hx hb dX1_isNode_5 rfl (lv_at hl 0 rfl) ?_
    refine va_get (D := (dC, dI)) (ci := 1) (v := .int nc) (C := RX1) (T := TX1) (N := 7) hx hb hts inX1 hown hK hP 0 rfl rfl 4 (by decide) (hts (.fieldLink RX1 26 "TreeOfArcs$Net" "nodeCount" "I") (by decide +kernel)) (fun _ h9 => h9) rfl dX1_isNode_6 ?_
    refine lv_icmp_ge (tgt := 16) hx hb dX1_isNode_9 (by decide) (fun c_2 => ?_) (fun c_2 => ?_)
    · refine lv_iconst (v := 0) hx hb dX1_isNode_16 (by decide) ?_
      have e9 : f_X1_isNode nc p0 = 0 := by unfold f_X1_isNode; rw [if_neg c_1, if_pos c_2]
      have hP9 : va_P (dC, dI) vwCl [(aN, .inr (1, [.ref aNf, .ref aNt, .ref aNw, .ref aNo, .int nc, .int rt, .int ac]))] H := by exact hP.sub [0] rfl
      have hD9 : va_D A [(aN, .inr (1, [.ref aNf, .ref aNt, .ref aNw, .ref aNo, .int nc, .int rt, .int ac]))] := by exact hD.sub [0] (by decide) rfl
      exact W.zret (v := 0) hx hb hr rfl (fun t ht hW => ⟨⟨_, (), rfl, (by rw [e9]), by rw [ht]; exact hP9, va_K.moved hW.alike hK, hD9⟩, hS.F ht⟩) hS.2.2 dX1_isNode_17
    · refine lv_iconst (v := 1) hx hb dX1_isNode_12 (by decide) ?_
      refine lv_goto (tgt := 17) hx hb dX1_isNode_13 (by decide) ?_
      have e9 : f_X1_isNode nc p0 = 1 := by unfold f_X1_isNode; rw [if_neg c_1, if_neg c_2]
      have hP9 : va_P (dC, dI) vwCl [(aN, .inr (1, [.ref aNf, .ref aNt, .ref aNw, .ref aNo, .int nc, .int rt, .int ac]))] H := by exact hP.sub [0] rfl
      have hD9 : va_D A [(aN, .inr (1, [.ref aNf, .ref aNt, .ref aNw, .ref aNo, .int nc, .int rt, .int ac]))] := by exact hD.sub [0] (by decide) rfl
      exact W.zret (v := 1) hx hb hr rfl (fun t ht hW => ⟨⟨_, (), rfl, (by rw [e9]), by rw [ht]; exact hP9, va_K.moved hW.alike hK, hD9⟩, hS.F ht⟩) hS.2.2 dX1_isNode_17
def f_X1_isArc (ac : Int32) (p0 : Int32) : Int32 := (if p0 < 0 then 0 else (if ac ≤ p0 then 0 else 1))
set_option maxHeartbeats 4000000 in
set_option maxRecDepth 100000 in
theorem c_X1_isArc (l : Launch) (dC : Nat → ClassId) (dI : Nat → Nat → Nat) (cI cJ cZ : ClassId) (aN aNf aNt aNw aNo : Nat) (sz : Nat) (nc : Int32) (rt : Int32) (ac : Int32) (p0 : Int32)  : Met l yX1_isArc wsX1_isArc ({ frames := 0, cells := 0, slots := 0, locals := 0 }) (va_Pc [.ref aN, .int p0] (fun U => U.heap.size = sz ∧ va_P (dC, dI) vwCl [(aN, .inr (1, [.ref aNf, .ref aNt, .ref aNw, .ref aNo, .int nc, .int rt, .int ac]))] U.heap ∧ va_K (dC, dI) vwCl [(cI, .int), (cJ, .long), (cZ, .boolean)] U ∧ va_D (fun _ => True) [(aN, .inr (1, [.ref aNf, .ref aNt, .ref aNw, .ref aNo, .int nc, .int rt, .int ac]))] ∧ tq_E U)) (va_Qi (fun (r : Int32) (_ : Unit) => r = (f_X1_isArc ac p0)) (fun (_ : Unit) t => va_P (dC, dI) vwCl [(aN, .inr (1, [.ref aNf, .ref aNt, .ref aNw, .ref aNo, .int nc, .int rt, .int ac]))] t.heap ∧ va_K (dC, dI) vwCl [(cI, .int), (cJ, .long), (cZ, .boolean)] t ∧ va_D (va_A [(aN, .inr (1, [.ref aNf, .ref aNt, .ref aNw, .ref aNo, .int nc, .int rt, .int ac]))] sz) [(aN, .inr (1, [.ref aNf, .ref aNt, .ref aNw, .ref aNo, .int nc, .int rt, .int ac]))]) (va_A [(aN, .inr (1, [.ref aNf, .ref aNt, .ref aNw, .ref aNo, .int nc, .int rt, .int ac]))] sz)) 0 0 (va_A [(aN, .inr (1, [.ref aNf, .ref aNt, .ref aNw, .ref aNo, .int nc, .int rt, .int ac]))] sz) := by
  refine Met.ofW (cc := cX1_isArc) (maxL := 2) (ret := (some .boolean)) (by decide) rfl ?_
  intro p e s m args below meth c s₁ B hml hv
  obtain ⟨rfl, hsz, hP, hK, hD0, hE⟩ := hv
  have hx := B.exec
  have hb := B.bytes
  have hr := B.returns
  have hts := atoms_spec (ws := wsX1_isArc) B.pre
  have hown : s.vm.findClass RX1 = some m.cls := findClass_of_methodNamed B.named
  have hlocks := B.notSynchronized
  subst hsz
  have hD := hD0.self (sz := s.heap.size)
  generalize hAe : va_A [(aN, .inr (1, [.ref aNf, .ref aNt, .ref aNw, .ref aNo, .int nc, .int rt, .int ac]))] s.heap.size = A at hD ⊢
  have hA : ∀ q : Nat, s.heap.size ≤ q → A q := fun q h => by rw [← hAe]; exact Or.inr h
  have hl := lv_entry ([.ref aN, .int p0]) (n := 2) (Nat.le_of_ble_eq_true rfl)
  rw [lg_entry_eq]
  generalize (lg_sl ([.ref aN, .int p0]) ++ List.replicate (2 - (lg_sl ([.ref aN, .int p0])).length) Slot.unset).toArray = ls at hl ⊢
  have hl : lv_has ls 2 [(0, .ref aN), (1, .int p0)] := hl
  have inX1 : ∀ w ∈ wsX10, w ∈ wsX1_isArc := by decide +kernel
  refine tq_begin (A := A) hP (fun H locs hP hS => ?_)
  refine lv_iload_n hx hb dX1_isArc_0 rfl (lv_at hl 1 rfl) ?_
  refine lv_if_lt (tgt := 16) hx hb dX1_isArc_1 (by decide) (fun c_1 => ?_) (fun c_1 => ?_)
  · refine lv_iconst (v := 0) hx hb dX1_isArc_16 (by decide) ?_
    have e9 : f_X1_isArc ac p0 = 0 := by unfold f_X1_isArc; rw [if_pos c_1]
    have hP9 : va_P (dC, dI) vwCl [(aN, .inr (1, [.ref aNf, .ref aNt, .ref aNw, .ref aNo, .int nc, .int rt, .int ac]))] H := by exact hP.sub [0] rfl
    have hD9 : va_D A [(aN, .inr (1, [.ref aNf, .ref aNt, .ref aNw, .ref aNo, .int nc, .int rt, .int ac]))] := by exact hD.sub [0] (by decide) rfl
    exact W.zret (v := 0) hx hb hr rfl (fun t ht hW => ⟨⟨_, (), rfl, (by rw [e9]), by rw [ht]; exact hP9, va_K.moved hW.alike hK, hD9⟩, hS.F ht⟩) hS.2.2 dX1_isArc_17
  · refine lv_iload_n hx hb dX1_isArc_4 rfl (lv_at hl 1 rfl) ?_
    refine lv_aload_n hx hb dX1_isArc_5 rfl (lv_at hl 0 rfl) ?_
    refine va_get (D := (dC, dI)) (ci := 1) (v := .int ac) (C := RX1) (T := TX1) (N := 7) hx hb hts inX1 hown hK hP 0 rfl rfl 6 (by decide) (hts (.fieldLink RX1 33 "TreeOfArcs$Net" "arcCount" "I") (by decide +kernel)) (fun _ h9 => h9) rfl dX1_isArc_6 ?_
    refine lv_icmp_ge (tgt := 16) hx hb dX1_isArc_9 (by decide) (fun c_2 => ?_) (fun c_2 => ?_)
    · refine lv_iconst (v := 0) hx hb dX1_isArc_16 (by decide) ?_
      have e9 : f_X1_isArc ac p0 = 0 := by unfold f_X1_isArc; rw [if_neg c_1, if_pos c_2]
      have hP9 : va_P (dC, dI) vwCl [(aN, .inr (1, [.ref aNf, .ref aNt, .ref aNw, .ref aNo, .int nc, .int rt, .int ac]))] H := by exact hP.sub [0] rfl
      have hD9 : va_D A [(aN, .inr (1, [.ref aNf, .ref aNt, .ref aNw, .ref aNo, .int nc, .int rt, .int ac]))] := by exact hD.sub [0] (by decide) rfl
      exact W.zret (v := 0) hx hb hr rfl (fun t ht hW => ⟨⟨_, (), rfl, (by rw [e9]), by rw [ht]; exact hP9, va_K.moved hW.alike hK, hD9⟩, hS.F ht⟩) hS.2.2 dX1_isArc_17
    · refine lv_iconst (v := 1) hx hb dX1_isArc_12 (by decide) ?_
      refine lv_goto (tgt := 17) hx hb dX1_isArc_13 (by decide) ?_
      have e9 : f_X1_isArc ac p0 = 1 := by unfold f_X1_isArc; rw [if_neg c_1, if_neg c_2]
      have hP9 : va_P (dC, dI) vwCl [(aN, .inr (1, [.ref aNf, .ref aNt, .ref aNw, .ref aNo, .int nc, .int rt, .int ac]))] H := by exact hP.sub [0] rfl
      have hD9 : va_D A [(aN, .inr (1, [.ref aNf, .ref aNt, .ref aNw, .ref aNo, .int nc, .int rt, .int ac]))] := by exact hD.sub [0] (by decide) rfl
      exact W.zret (v := 1) hx hb hr rfl (fun t ht hW => ⟨⟨_, (), rfl, (by rw [e9]), by rw [ht]; exact hP9, va_K.moved hW.alike hK, hD9⟩, hS.F ht⟩) hS.2.2 dX1_isArc_17
def b_X1_openCount_4 (op : (Nat → Int32)) (i : Nat) (cnt : Int32) : Int32 := (if (op i) = 0 then cnt else (cnt + 1))
def f_X1_openCount (ak : Nat) (op : (Nat → Int32)) : Int32 := (tq_it (fun i (x : Int32) => b_X1_openCount_4 op i x) 0 ak)
set_option maxHeartbeats 4000000 in
set_option maxRecDepth 100000 in
theorem c_X1_openCount (l : Launch) (dC : Nat → ClassId) (dI : Nat → Nat → Nat) (cI cJ cZ : ClassId) (aN aNf aNt aNw aNo : Nat) (sz : Nat) (nc : Int32) (rt : Int32) (ak : Nat) (op : (Nat → Int32)) (hak : ak ≤ 60) : Met l yX1_openCount wsX1_openCount ({ frames := 0, cells := 0, slots := 0, locals := 0 }) (va_Pc [.ref aN] (fun U => U.heap.size = sz ∧ va_P (dC, dI) vwCl [(aN, .inr (1, [.ref aNf, .ref aNt, .ref aNw, .ref aNo, .int nc, .int rt, .int (nI ak)])), (aNo, .inl (cZ, 60, .inl op))] U.heap ∧ va_K (dC, dI) vwCl [(cI, .int), (cJ, .long), (cZ, .boolean)] U ∧ va_D (fun _ => True) [(aN, .inr (1, [.ref aNf, .ref aNt, .ref aNw, .ref aNo, .int nc, .int rt, .int (nI ak)])), (aNo, .inl (cZ, 60, .inl op))] ∧ tq_E U)) (va_Qi (fun (r : Int32) (_ : Unit) => r = (f_X1_openCount ak op)) (fun (_ : Unit) t => va_P (dC, dI) vwCl [(aN, .inr (1, [.ref aNf, .ref aNt, .ref aNw, .ref aNo, .int nc, .int rt, .int (nI ak)])), (aNo, .inl (cZ, 60, .inl op))] t.heap ∧ va_K (dC, dI) vwCl [(cI, .int), (cJ, .long), (cZ, .boolean)] t ∧ va_D (va_A [(aN, .inr (1, [.ref aNf, .ref aNt, .ref aNw, .ref aNo, .int nc, .int rt, .int (nI ak)])), (aNo, .inl (cZ, 60, .inl op))] sz) [(aN, .inr (1, [.ref aNf, .ref aNt, .ref aNw, .ref aNo, .int nc, .int rt, .int (nI ak)])), (aNo, .inl (cZ, 60, .inl op))]) (va_A [(aN, .inr (1, [.ref aNf, .ref aNt, .ref aNw, .ref aNo, .int nc, .int rt, .int (nI ak)])), (aNo, .inl (cZ, 60, .inl op))] sz)) 0 0 (va_A [(aN, .inr (1, [.ref aNf, .ref aNt, .ref aNw, .ref aNo, .int nc, .int rt, .int (nI ak)])), (aNo, .inl (cZ, 60, .inl op))] sz) := by
  refine Met.ofW (cc := cX1_openCount) (maxL := 3) (ret := (some .int)) (by decide) rfl ?_
  intro p e s m args below meth c s₁ B hml hv
  obtain ⟨rfl, hsz, hP, hK, hD0, hE⟩ := hv
  have hx := B.exec
  have hb := B.bytes
  have hr := B.returns
  have hts := atoms_spec (ws := wsX1_openCount) B.pre
  have hown : s.vm.findClass RX1 = some m.cls := findClass_of_methodNamed B.named
  have hlocks := B.notSynchronized
  subst hsz
  have hD := hD0.self (sz := s.heap.size)
  generalize hAe : va_A [(aN, .inr (1, [.ref aNf, .ref aNt, .ref aNw, .ref aNo, .int nc, .int rt, .int (nI ak)])), (aNo, .inl (cZ, 60, .inl op))] s.heap.size = A at hD ⊢
  have hA : ∀ q : Nat, s.heap.size ≤ q → A q := fun q h => by rw [← hAe]; exact Or.inr h
  have hl := lv_entry ([.ref aN]) (n := 3) (Nat.le_of_ble_eq_true rfl)
  rw [lg_entry_eq]
  generalize (lg_sl ([.ref aN]) ++ List.replicate (3 - (lg_sl ([.ref aN])).length) Slot.unset).toArray = ls at hl ⊢
  have hl : lv_has ls 3 [(0, .ref aN)] := hl
  have inX1 : ∀ w ∈ wsX10, w ∈ wsX1_openCount := by decide +kernel
  refine tq_begin (A := A) hP (fun H locs hP hS => ?_)
  refine lv_iconst (v := 0) hx hb dX1_openCount_0 (by decide) ?_
  refine lv_istore_n (lv' := [(1, .int 0), (0, .ref aN)]) hx hb dX1_openCount_1 rfl hl (by decide) rfl (fun ls hl => ?_)
  refine lv_iconst (v := 0) hx hb dX1_openCount_2 (by decide) ?_
  refine lv_istore_n (lv' := [(2, .int 0), (1, .int 0), (0, .ref aN)]) hx hb dX1_openCount_3 rfl hl (by decide) rfl (fun ls hl => ?_)
  refine tq_for ak (fun i => [(aN, .inr (1, [.ref aNf, .ref aNt, .ref aNw, .ref aNo, .int nc, .int rt, .int (nI ak)])), (aNo, .inl (cZ, 60, .inl op))]) (fun i => [(2, .int (nI i)), (1, .int (tq_it (fun i (x : Int32) => b_X1_openCount_4 op i x) 0 i)), (0, .ref aN)]) (fun i hi_4 ih_4 H locs ls hP hD hS hl => ?_) 0 (by omega) _ _ _ hP hD hS (lv_sub hl [0, 1, 2] rfl)
  obtain ⟨cnt, ex_4⟩ : ∃ x, x = tq_it (fun i (x : Int32) => b_X1_openCount_4 op i x) 0 i := ⟨_, rfl⟩
  have hP : va_P (dC, dI) vwCl [(aN, .inr (1, [.ref aNf, .ref aNt, .ref aNw, .ref aNo, .int nc, .int rt, .int (nI ak)])), (aNo, .inl (cZ, 60, .inl op))] H := hP
  have hD : va_D A [(aN, .inr (1, [.ref aNf, .ref aNt, .ref aNw, .ref aNo, .int nc, .int rt, .int (nI ak)])), (aNo, .inl (cZ, 60, .inl op))] := hD
  have hl : lv_has ls 3 [(2, .int (nI i)), (1, .int cnt), (0, .ref aN)] := by have h9 : lv_has ls 3 [(2, .int (nI i)), (1, .int (tq_it (fun i (x : Int32) => b_X1_openCount_4 op i x) 0 i)), (0, .ref aN)] := hl; rw [← ex_4] at h9; exact h9
  refine lv_iload_n hx hb dX1_openCount_4 rfl (lv_at hl 0 rfl) ?_
  refine lv_aload_n hx hb dX1_openCount_5 rfl (lv_at hl 2 rfl) ?_
  refine va_get (D := (dC, dI)) (ci := 1) (v := .int (nI ak)) (C := RX1) (T := TX1) (N := 7) hx hb hts inX1 hown hK hP 0 rfl rfl 6 (by decide) (hts (.fieldLink RX1 33 "TreeOfArcs$Net" "arcCount" "I") (by decide +kernel)) (fun _ h9 => h9) rfl dX1_openCount_6 ?_
  refine lv_icmp_ge (tgt := 30) hx hb dX1_openCount_9 (by decide) (fun c_1 => ?_) (fun c_1 => ?_)
  · have hiN : i = ak := Nat.le_antisymm hi_4 (tq_ge c_1 (by omega) (by omega))
    rw [hiN] at ex_4
    refine lv_iload_n hx hb dX1_openCount_30 rfl (lv_at hl 1 rfl) ?_
    have e9 : f_X1_openCount ak op = cnt := by unfold f_X1_openCount; rw [← ex_4]; try dsimp only; all_goals rfl
    have hP9 : va_P (dC, dI) vwCl [(aN, .inr (1, [.ref aNf, .ref aNt, .ref aNw, .ref aNo, .int nc, .int rt, .int (nI ak)])), (aNo, .inl (cZ, 60, .inl op))] H := by exact hP.sub [0, 1] rfl
    have hD9 : va_D A [(aN, .inr (1, [.ref aNf, .ref aNt, .ref aNw, .ref aNo, .int nc, .int rt, .int (nI ak)])), (aNo, .inl (cZ, 60, .inl op))] := by exact hD.sub [0, 1] (by decide) rfl
    exact W.iret (v := cnt) hx hb hr (fun t ht hW => ⟨⟨_, (), rfl, (by rw [e9]), by rw [ht]; exact hP9, va_K.moved hW.alike hK, hD9⟩, hS.F ht⟩) hS.2.2 dX1_openCount_31
  · have hlt : i < ak := tq_lt c_1 (by omega) (by omega)
    refine lv_aload_n hx hb dX1_openCount_12 rfl (lv_at hl 2 rfl) ?_
    refine va_get (D := (dC, dI)) (ci := 1) (v := .ref aNo) (C := RX1) (T := TX1) (N := 7) hx hb hts inX1 hown hK hP 0 rfl rfl 3 (by decide) (hts (.fieldLink RX1 22 "TreeOfArcs$Net" "isOpen" "[Z") (by decide +kernel)) (fun _ h9 => h9) rfl dX1_openCount_13 ?_
    refine lv_iload_n hx hb dX1_openCount_16 rfl (lv_at hl 0 rfl) ?_
    refine tq_zald hx hb hK hP 1 2 rfl rfl i rfl (by omega) (by decide) dX1_openCount_17 ?_
    refine lv_if_eq (tgt := 24) hx hb dX1_openCount_18 (by decide) (fun c_2 => ?_) (fun c_2 => ?_)
    · refine lv_iinc (v := (nI (i + 1))) (lv' := [(2, .int (nI (i + 1))), (1, .int cnt), (0, .ref aN)]) hx hb dX1_openCount_24 hl (k := 0) rfl (nI_1 _) (by decide) rfl (fun ls hl => ?_)
      refine lv_goto (tgt := 4) hx hb dX1_openCount_27 (by decide) ?_
      have e9 : tq_it (fun i (x : Int32) => b_X1_openCount_4 op i x) 0 (i + 1) = cnt := by show b_X1_openCount_4 op i (tq_it (fun i (x : Int32) => b_X1_openCount_4 op i x) 0 i) = _; rw [← ex_4]; unfold b_X1_openCount_4; rw [if_pos c_2]
      exact ih_4 hlt _ _ _ (by exact hP.sub [0, 1] rfl) (by exact hD.sub [0, 1] (by decide) rfl) hS (by rw [e9]; exact lv_sub hl [0, 1, 2] rfl)
    · refine lv_iinc (v := (cnt + 1)) (lv' := [(1, .int (cnt + 1)), (2, .int (nI i)), (0, .ref aN)]) hx hb dX1_openCount_21 hl (k := 1) rfl rfl (by decide) rfl (fun ls hl => ?_)
      refine lv_iinc (v := (nI (i + 1))) (lv' := [(2, .int (nI (i + 1))), (1, .int (cnt + 1)), (0, .ref aN)]) hx hb dX1_openCount_24 hl (k := 1) rfl (nI_1 _) (by decide) rfl (fun ls hl => ?_)
      refine lv_goto (tgt := 4) hx hb dX1_openCount_27 (by decide) ?_
      have e9 : tq_it (fun i (x : Int32) => b_X1_openCount_4 op i x) 0 (i + 1) = (cnt + 1) := by show b_X1_openCount_4 op i (tq_it (fun i (x : Int32) => b_X1_openCount_4 op i x) 0 i) = _; rw [← ex_4]; unfold b_X1_openCount_4; rw [if_neg c_2]
      exact ih_4 hlt _ _ _ (by exact hP.sub [0, 1] rfl) (by exact hD.sub [0, 1] (by decide) rfl) hS (by rw [e9]; exact lv_sub hl [0, 1, 2] rfl)
def f_X1_enters (fr : (Nat → Int32)) (to : (Nat → Int32)) (k : Nat) (p1 : Int32) : Int32 := (if ((f_X3_holds p1 (to k))) = 0 then 0 else (if ((f_X3_holds p1 (fr k))) = 0 then 1 else 0))
set_option maxHeartbeats 4000000 in
set_option maxRecDepth 100000 in
theorem c_X1_enters (l : Launch) (dC : Nat → ClassId) (dI : Nat → Nat → Nat) (cI cJ cZ : ClassId) (aN aNf aNt aNw aNo : Nat) (sz : Nat) (nc : Int32) (rt : Int32) (ac : Int32) (fr : (Nat → Int32)) (to : (Nat → Int32)) (k : Nat) (p1 : Int32) (hk : k < 60) : Met l yX1_enters wsX1_enters ({ frames := 1, cells := 0, slots := 0, locals := 21 }) (va_Pc [.ref aN, .int (nI k), .int p1] (fun U => U.heap.size = sz ∧ va_P (dC, dI) vwCl [(aN, .inr (1, [.ref aNf, .ref aNt, .ref aNw, .ref aNo, .int nc, .int rt, .int ac])), (aNf, .inl (cI, 60, .inl fr)), (aNt, .inl (cI, 60, .inl to))] U.heap ∧ va_K (dC, dI) vwCl [(cI, .int), (cJ, .long), (cZ, .boolean)] U ∧ va_D (fun _ => True) [(aN, .inr (1, [.ref aNf, .ref aNt, .ref aNw, .ref aNo, .int nc, .int rt, .int ac])), (aNf, .inl (cI, 60, .inl fr)), (aNt, .inl (cI, 60, .inl to))] ∧ tq_E U)) (va_Qi (fun (r : Int32) (_ : Unit) => r = (f_X1_enters fr to k p1)) (fun (_ : Unit) t => va_P (dC, dI) vwCl [(aN, .inr (1, [.ref aNf, .ref aNt, .ref aNw, .ref aNo, .int nc, .int rt, .int ac])), (aNf, .inl (cI, 60, .inl fr)), (aNt, .inl (cI, 60, .inl to))] t.heap ∧ va_K (dC, dI) vwCl [(cI, .int), (cJ, .long), (cZ, .boolean)] t ∧ va_D (va_A [(aN, .inr (1, [.ref aNf, .ref aNt, .ref aNw, .ref aNo, .int nc, .int rt, .int ac])), (aNf, .inl (cI, 60, .inl fr)), (aNt, .inl (cI, 60, .inl to))] sz) [(aN, .inr (1, [.ref aNf, .ref aNt, .ref aNw, .ref aNo, .int nc, .int rt, .int ac])), (aNf, .inl (cI, 60, .inl fr)), (aNt, .inl (cI, 60, .inl to))]) (va_A [(aN, .inr (1, [.ref aNf, .ref aNt, .ref aNw, .ref aNo, .int nc, .int rt, .int ac])), (aNf, .inl (cI, 60, .inl fr)), (aNt, .inl (cI, 60, .inl to))] sz)) 0 0 (va_A [(aN, .inr (1, [.ref aNf, .ref aNt, .ref aNw, .ref aNo, .int nc, .int rt, .int ac])), (aNf, .inl (cI, 60, .inl fr)), (aNt, .inl (cI, 60, .inl to))] sz) := by
  refine Met.ofW (cc := cX1_enters) (maxL := 3) (ret := (some .boolean)) (by decide) rfl ?_
  intro p e s m args below meth c s₁ B hml hv
  obtain ⟨rfl, hsz, hP, hK, hD0, hE⟩ := hv
  have hx := B.exec
  have hb := B.bytes
  have hr := B.returns
  have hts := atoms_spec (ws := wsX1_enters) B.pre
  have hown : s.vm.findClass RX1 = some m.cls := findClass_of_methodNamed B.named
  have hlocks := B.notSynchronized
  subst hsz
  have hD := hD0.self (sz := s.heap.size)
  generalize hAe : va_A [(aN, .inr (1, [.ref aNf, .ref aNt, .ref aNw, .ref aNo, .int nc, .int rt, .int ac])), (aNf, .inl (cI, 60, .inl fr)), (aNt, .inl (cI, 60, .inl to))] s.heap.size = A at hD ⊢
  have hA : ∀ q : Nat, s.heap.size ≤ q → A q := fun q h => by rw [← hAe]; exact Or.inr h
  have hl := lv_entry ([.ref aN, .int (nI k), .int p1]) (n := 3) (Nat.le_of_ble_eq_true rfl)
  rw [lg_entry_eq]
  generalize (lg_sl ([.ref aN, .int (nI k), .int p1]) ++ List.replicate (3 - (lg_sl ([.ref aN, .int (nI k), .int p1])).length) Slot.unset).toArray = ls at hl ⊢
  have hl : lv_has ls 3 [(0, .ref aN), (1, .int (nI k)), (2, .int p1)] := hl
  have inX1 : ∀ w ∈ wsX10, w ∈ wsX1_enters := by decide +kernel
  refine tq_begin (A := A) hP (fun H locs hP hS => ?_)
  refine lv_iload_n hx hb dX1_enters_0 rfl (lv_at hl 2 rfl) ?_
  refine lv_aload_n hx hb dX1_enters_1 rfl (lv_at hl 0 rfl) ?_
  refine va_get (D := (dC, dI)) (ci := 1) (v := .ref aNt) (C := RX1) (T := TX1) (N := 7) hx hb hts inX1 hown hK hP 0 rfl rfl 1 (by decide) (hts (.fieldLink RX1 15 "TreeOfArcs$Net" "to" "[I") (by decide +kernel)) (fun _ h9 => h9) rfl dX1_enters_2 ?_
  refine lv_iload_n hx hb dX1_enters_5 rfl (lv_at hl 1 rfl) ?_
  refine tq_iald hx hb hK hP 2 0 rfl rfl k rfl (by omega) (by decide) dX1_enters_6 ?_
  have hPc := hP.sub (ws' := []) [] rfl
  have hDc := hD.sub (ws' := []) [] (by decide) rfl
  have hFc := va_free (wc := []) hD hS hA [] rfl
  refine va_calli (va_runSN (As := [.int p1, .int (to k)]) (rest := []) ⟨hx, hb, hml, hown, hts⟩ (c_X3_holds l dC dI cI cJ cZ  H.size p1 (to k) ) ⟨va_cnB 2 hts ggX1_enters_X3_holds rfl rfl rfl hE.1 (hts (.initialized yX3_holds.cls) (by decide +kernel)) (by decide +kernel) ⟨Nat.le_of_ble_eq_true rfl, Nat.le_of_ble_eq_true rfl⟩, hts (.static yX3_holds) (by decide +kernel), trivial⟩ ⟨fun a U g mk q => by obtain ⟨q0, q1, qP, qK, qD, qE⟩ := q; exact ⟨q0, q1, qP, va_K.moved (u := U) (U := U.calling g mk a) (Vm.Alike.refl U.vm) qK, qD, tq_E.same (u := U) rfl qE⟩, fun U hU hW => ⟨rfl, by rw [hU], by rw [hU]; exact hPc, va_K.moved hW.alike hK, hDc.weaken (fun _ _ _ _ => trivial), hE.warm hW⟩⟩ rfl rfl hl.1 rfl (lv_room (Nat.le_of_ble_eq_true rfl)) dX1_enters_7 ⟨(Nat.zero_le _), (Nat.zero_le _)⟩) hS (fun q _ h => hFc q h) hFc (fun r_1 u t H1 locs ht hvm hw hB hz1 hk1 hS => ?_)
  obtain ⟨hP1, hK1, hD1⟩ := hB
  rw [ht] at hP1
  obtain ⟨hP, hD⟩ := va_join (wr := [(aN, .inr (1, [.ref aNf, .ref aNt, .ref aNw, .ref aNo, .int nc, .int rt, .int ac])), (aNf, .inl (cI, 60, .inl fr)), (aNt, .inl (cI, 60, .inl to))]) (w1 := []) hP hD [] [0, 1, 2] rfl rfl (by decide) (by decide) hk1 hFc hP1 hD1
  generalize H1 = H at hP hS ⊢
  have hP : va_P (dC, dI) vwCl [(aN, .inr (1, [.ref aNf, .ref aNt, .ref aNw, .ref aNo, .int nc, .int rt, .int ac])), (aNf, .inl (cI, 60, .inl fr)), (aNt, .inl (cI, 60, .inl to))] H := hP
  have hD : va_D A [(aN, .inr (1, [.ref aNf, .ref aNt, .ref aNw, .ref aNo, .int nc, .int rt, .int ac])), (aNf, .inl (cI, 60, .inl fr)), (aNt, .inl (cI, 60, .inl to))] := hD
  subst hw
  refine lv_if_eq (tgt := 30) hx hb dX1_enters_10 (by decide) (fun c_2 => ?_) (fun c_2 => ?_)
  · refine lv_iconst (v := 0) hx hb dX1_enters_30 (by decide) ?_
    have e9 : f_X1_enters fr to k p1 = 0 := by unfold f_X1_enters; rw [if_pos c_2]
    have hP9 : va_P (dC, dI) vwCl [(aN, .inr (1, [.ref aNf, .ref aNt, .ref aNw, .ref aNo, .int nc, .int rt, .int ac])), (aNf, .inl (cI, 60, .inl fr)), (aNt, .inl (cI, 60, .inl to))] H := by exact hP.sub [0, 1, 2] rfl
    have hD9 : va_D A [(aN, .inr (1, [.ref aNf, .ref aNt, .ref aNw, .ref aNo, .int nc, .int rt, .int ac])), (aNf, .inl (cI, 60, .inl fr)), (aNt, .inl (cI, 60, .inl to))] := by exact hD.sub [0, 1, 2] (by decide) rfl
    exact W.zret (v := 0) hx hb hr rfl (fun t ht hW => ⟨⟨_, (), rfl, (by rw [e9]), by rw [ht]; exact hP9, va_K.moved hW.alike hK, hD9⟩, hS.F ht⟩) hS.2.2 dX1_enters_31
  · refine lv_iload_n hx hb dX1_enters_13 rfl (lv_at hl 2 rfl) ?_
    refine lv_aload_n hx hb dX1_enters_14 rfl (lv_at hl 0 rfl) ?_
    refine va_get (D := (dC, dI)) (ci := 1) (v := .ref aNf) (C := RX1) (T := TX1) (N := 7) hx hb hts inX1 hown hK hP 0 rfl rfl 0 (by decide) (hts (.fieldLink RX1 9 "TreeOfArcs$Net" "from" "[I") (by decide +kernel)) (fun _ h9 => h9) rfl dX1_enters_15 ?_
    refine lv_iload_n hx hb dX1_enters_18 rfl (lv_at hl 1 rfl) ?_
    refine tq_iald hx hb hK hP 1 0 rfl rfl k rfl (by omega) (by decide) dX1_enters_19 ?_
    have hPc := hP.sub (ws' := []) [] rfl
    have hDc := hD.sub (ws' := []) [] (by decide) rfl
    have hFc := va_free (wc := []) hD hS hA [] rfl
    refine va_calli (va_runSN (As := [.int p1, .int (fr k)]) (rest := []) ⟨hx, hb, hml, hown, hts⟩ (c_X3_holds l dC dI cI cJ cZ  H.size p1 (fr k) ) ⟨va_cnB 2 hts ggX1_enters_X3_holds rfl rfl rfl hE.1 (hts (.initialized yX3_holds.cls) (by decide +kernel)) (by decide +kernel) ⟨Nat.le_of_ble_eq_true rfl, Nat.le_of_ble_eq_true rfl⟩, hts (.static yX3_holds) (by decide +kernel), trivial⟩ ⟨fun a U g mk q => by obtain ⟨q0, q1, qP, qK, qD, qE⟩ := q; exact ⟨q0, q1, qP, va_K.moved (u := U) (U := U.calling g mk a) (Vm.Alike.refl U.vm) qK, qD, tq_E.same (u := U) rfl qE⟩, fun U hU hW => ⟨rfl, by rw [hU], by rw [hU]; exact hPc, va_K.moved hW.alike hK, hDc.weaken (fun _ _ _ _ => trivial), hE.warm hW⟩⟩ rfl rfl hl.1 rfl (lv_room (Nat.le_of_ble_eq_true rfl)) dX1_enters_20 ⟨(Nat.zero_le _), (Nat.zero_le _)⟩) hS (fun q _ h => hFc q h) hFc (fun r_3 u t H1 locs ht hvm hw hB hz1 hk1 hS => ?_)
    obtain ⟨hP1, hK1, hD1⟩ := hB
    rw [ht] at hP1
    obtain ⟨hP, hD⟩ := va_join (wr := [(aN, .inr (1, [.ref aNf, .ref aNt, .ref aNw, .ref aNo, .int nc, .int rt, .int ac])), (aNf, .inl (cI, 60, .inl fr)), (aNt, .inl (cI, 60, .inl to))]) (w1 := []) hP hD [] [0, 1, 2] rfl rfl (by decide) (by decide) hk1 hFc hP1 hD1
    generalize H1 = H at hP hS ⊢
    have hP : va_P (dC, dI) vwCl [(aN, .inr (1, [.ref aNf, .ref aNt, .ref aNw, .ref aNo, .int nc, .int rt, .int ac])), (aNf, .inl (cI, 60, .inl fr)), (aNt, .inl (cI, 60, .inl to))] H := hP
    have hD : va_D A [(aN, .inr (1, [.ref aNf, .ref aNt, .ref aNw, .ref aNo, .int nc, .int rt, .int ac])), (aNf, .inl (cI, 60, .inl fr)), (aNt, .inl (cI, 60, .inl to))] := hD
    subst hw
    refine lv_if_ne (tgt := 30) hx hb dX1_enters_23 (by decide) (fun c_4 => ?_) (fun c_4 => ?_)
    · refine lv_iconst (v := 0) hx hb dX1_enters_30 (by decide) ?_
      have e9 : f_X1_enters fr to k p1 = 0 := by unfold f_X1_enters; rw [if_neg c_2, if_neg c_4]
      have hP9 : va_P (dC, dI) vwCl [(aN, .inr (1, [.ref aNf, .ref aNt, .ref aNw, .ref aNo, .int nc, .int rt, .int ac])), (aNf, .inl (cI, 60, .inl fr)), (aNt, .inl (cI, 60, .inl to))] H := by exact hP.sub [0, 1, 2] rfl
      have hD9 : va_D A [(aN, .inr (1, [.ref aNf, .ref aNt, .ref aNw, .ref aNo, .int nc, .int rt, .int ac])), (aNf, .inl (cI, 60, .inl fr)), (aNt, .inl (cI, 60, .inl to))] := by exact hD.sub [0, 1, 2] (by decide) rfl
      exact W.zret (v := 0) hx hb hr rfl (fun t ht hW => ⟨⟨_, (), rfl, (by rw [e9]), by rw [ht]; exact hP9, va_K.moved hW.alike hK, hD9⟩, hS.F ht⟩) hS.2.2 dX1_enters_31
    · refine lv_iconst (v := 1) hx hb dX1_enters_26 (by decide) ?_
      refine lv_goto (tgt := 31) hx hb dX1_enters_27 (by decide) ?_
      have e9 : f_X1_enters fr to k p1 = 1 := by unfold f_X1_enters; rw [if_neg c_2, if_pos c_4]
      have hP9 : va_P (dC, dI) vwCl [(aN, .inr (1, [.ref aNf, .ref aNt, .ref aNw, .ref aNo, .int nc, .int rt, .int ac])), (aNf, .inl (cI, 60, .inl fr)), (aNt, .inl (cI, 60, .inl to))] H := by exact hP.sub [0, 1, 2] rfl
      have hD9 : va_D A [(aN, .inr (1, [.ref aNf, .ref aNt, .ref aNw, .ref aNo, .int nc, .int rt, .int ac])), (aNf, .inl (cI, 60, .inl fr)), (aNt, .inl (cI, 60, .inl to))] := by exact hD.sub [0, 1, 2] (by decide) rfl
      exact W.zret (v := 1) hx hb hr rfl (fun t ht hW => ⟨⟨_, (), rfl, (by rw [e9]), by rw [ht]; exact hP9, va_K.moved hW.alike hK, hD9⟩, hS.F ht⟩) hS.2.2 dX1_enters_31
def b_X1_oneRoundFurther_4 (fr : (Nat → Int32)) (to : (Nat → Int32)) (op : (Nat → Int32)) (i : Nat) (wd : Int32) : Int32 := (if (op i) = 0 then wd else (if ((f_X3_holds wd (fr i))) = 0 then wd else (wd ||| (1 <<< ((to i) &&& 31)))))
def f_X1_oneRoundFurther (ak : Nat) (fr : (Nat → Int32)) (to : (Nat → Int32)) (op : (Nat → Int32)) (p0 : Int32) : Int32 := (tq_it (fun i (x : Int32) => b_X1_oneRoundFurther_4 fr to op i x) p0 ak)
set_option maxHeartbeats 4000000 in
set_option maxRecDepth 100000 in
theorem c_X1_oneRoundFurther (l : Launch) (dC : Nat → ClassId) (dI : Nat → Nat → Nat) (cI cJ cZ : ClassId) (aN aNf aNt aNw aNo : Nat) (sz : Nat) (nc : Int32) (rt : Int32) (ak : Nat) (fr : (Nat → Int32)) (to : (Nat → Int32)) (op : (Nat → Int32)) (p0 : Int32) (hak : ak ≤ 60) : Met l yX1_oneRoundFurther wsX1_oneRoundFurther ({ frames := 1, cells := 0, slots := 0, locals := 21 }) (va_Pc [.ref aN, .int p0] (fun U => U.heap.size = sz ∧ va_P (dC, dI) vwCl [(aN, .inr (1, [.ref aNf, .ref aNt, .ref aNw, .ref aNo, .int nc, .int rt, .int (nI ak)])), (aNf, .inl (cI, 60, .inl fr)), (aNt, .inl (cI, 60, .inl to)), (aNo, .inl (cZ, 60, .inl op))] U.heap ∧ va_K (dC, dI) vwCl [(cI, .int), (cJ, .long), (cZ, .boolean)] U ∧ va_D (fun _ => True) [(aN, .inr (1, [.ref aNf, .ref aNt, .ref aNw, .ref aNo, .int nc, .int rt, .int (nI ak)])), (aNf, .inl (cI, 60, .inl fr)), (aNt, .inl (cI, 60, .inl to)), (aNo, .inl (cZ, 60, .inl op))] ∧ tq_E U)) (va_Qi (fun (r : Int32) (_ : Unit) => r = (f_X1_oneRoundFurther ak fr to op p0)) (fun (_ : Unit) t => va_P (dC, dI) vwCl [(aN, .inr (1, [.ref aNf, .ref aNt, .ref aNw, .ref aNo, .int nc, .int rt, .int (nI ak)])), (aNf, .inl (cI, 60, .inl fr)), (aNt, .inl (cI, 60, .inl to)), (aNo, .inl (cZ, 60, .inl op))] t.heap ∧ va_K (dC, dI) vwCl [(cI, .int), (cJ, .long), (cZ, .boolean)] t ∧ va_D (va_A [(aN, .inr (1, [.ref aNf, .ref aNt, .ref aNw, .ref aNo, .int nc, .int rt, .int (nI ak)])), (aNf, .inl (cI, 60, .inl fr)), (aNt, .inl (cI, 60, .inl to)), (aNo, .inl (cZ, 60, .inl op))] sz) [(aN, .inr (1, [.ref aNf, .ref aNt, .ref aNw, .ref aNo, .int nc, .int rt, .int (nI ak)])), (aNf, .inl (cI, 60, .inl fr)), (aNt, .inl (cI, 60, .inl to)), (aNo, .inl (cZ, 60, .inl op))]) (va_A [(aN, .inr (1, [.ref aNf, .ref aNt, .ref aNw, .ref aNo, .int nc, .int rt, .int (nI ak)])), (aNf, .inl (cI, 60, .inl fr)), (aNt, .inl (cI, 60, .inl to)), (aNo, .inl (cZ, 60, .inl op))] sz)) 0 0 (va_A [(aN, .inr (1, [.ref aNf, .ref aNt, .ref aNw, .ref aNo, .int nc, .int rt, .int (nI ak)])), (aNf, .inl (cI, 60, .inl fr)), (aNt, .inl (cI, 60, .inl to)), (aNo, .inl (cZ, 60, .inl op))] sz) := by
  refine Met.ofW (cc := cX1_oneRoundFurther) (maxL := 4) (ret := (some .int)) (by decide) rfl ?_
  intro p e s m args below meth c s₁ B hml hv
  obtain ⟨rfl, hsz, hP, hK, hD0, hE⟩ := hv
  have hx := B.exec
  have hb := B.bytes
  have hr := B.returns
  have hts := atoms_spec (ws := wsX1_oneRoundFurther) B.pre
  have hown : s.vm.findClass RX1 = some m.cls := findClass_of_methodNamed B.named
  have hlocks := B.notSynchronized
  subst hsz
  have hD := hD0.self (sz := s.heap.size)
  generalize hAe : va_A [(aN, .inr (1, [.ref aNf, .ref aNt, .ref aNw, .ref aNo, .int nc, .int rt, .int (nI ak)])), (aNf, .inl (cI, 60, .inl fr)), (aNt, .inl (cI, 60, .inl to)), (aNo, .inl (cZ, 60, .inl op))] s.heap.size = A at hD ⊢
  have hA : ∀ q : Nat, s.heap.size ≤ q → A q := fun q h => by rw [← hAe]; exact Or.inr h
  have hl := lv_entry ([.ref aN, .int p0]) (n := 4) (Nat.le_of_ble_eq_true rfl)
  rw [lg_entry_eq]
  generalize (lg_sl ([.ref aN, .int p0]) ++ List.replicate (4 - (lg_sl ([.ref aN, .int p0])).length) Slot.unset).toArray = ls at hl ⊢
  have hl : lv_has ls 4 [(0, .ref aN), (1, .int p0)] := hl
  have inX1 : ∀ w ∈ wsX10, w ∈ wsX1_oneRoundFurther := by decide +kernel
  refine tq_begin (A := A) hP (fun H locs hP hS => ?_)
  refine lv_iload_n hx hb dX1_oneRoundFurther_0 rfl (lv_at hl 1 rfl) ?_
  refine lv_istore_n (lv' := [(2, .int p0), (0, .ref aN), (1, .int p0)]) hx hb dX1_oneRoundFurther_1 rfl hl (by decide) rfl (fun ls hl => ?_)
  refine lv_iconst (v := 0) hx hb dX1_oneRoundFurther_2 (by decide) ?_
  refine lv_istore_n (lv' := [(3, .int 0), (2, .int p0), (0, .ref aN), (1, .int p0)]) hx hb dX1_oneRoundFurther_3 rfl hl (by decide) rfl (fun ls hl => ?_)
  refine tq_for ak (fun i => [(aN, .inr (1, [.ref aNf, .ref aNt, .ref aNw, .ref aNo, .int nc, .int rt, .int (nI ak)])), (aNf, .inl (cI, 60, .inl fr)), (aNt, .inl (cI, 60, .inl to)), (aNo, .inl (cZ, 60, .inl op))]) (fun i => [(3, .int (nI i)), (2, .int (tq_it (fun i (x : Int32) => b_X1_oneRoundFurther_4 fr to op i x) p0 i)), (0, .ref aN), (1, .int p0)]) (fun i hi_4 ih_4 H locs ls hP hD hS hl => ?_) 0 (by omega) _ _ _ hP hD hS (lv_sub hl [0, 1, 2, 3] rfl)
  obtain ⟨wd, ex_4⟩ : ∃ x, x = tq_it (fun i (x : Int32) => b_X1_oneRoundFurther_4 fr to op i x) p0 i := ⟨_, rfl⟩
  have hP : va_P (dC, dI) vwCl [(aN, .inr (1, [.ref aNf, .ref aNt, .ref aNw, .ref aNo, .int nc, .int rt, .int (nI ak)])), (aNf, .inl (cI, 60, .inl fr)), (aNt, .inl (cI, 60, .inl to)), (aNo, .inl (cZ, 60, .inl op))] H := hP
  have hD : va_D A [(aN, .inr (1, [.ref aNf, .ref aNt, .ref aNw, .ref aNo, .int nc, .int rt, .int (nI ak)])), (aNf, .inl (cI, 60, .inl fr)), (aNt, .inl (cI, 60, .inl to)), (aNo, .inl (cZ, 60, .inl op))] := hD
  have hl : lv_has ls 4 [(3, .int (nI i)), (2, .int wd), (0, .ref aN), (1, .int p0)] := by have h9 : lv_has ls 4 [(3, .int (nI i)), (2, .int (tq_it (fun i (x : Int32) => b_X1_oneRoundFurther_4 fr to op i x) p0 i)), (0, .ref aN), (1, .int p0)] := hl; rw [← ex_4] at h9; exact h9
  refine lv_iload_n hx hb dX1_oneRoundFurther_4 rfl (lv_at hl 0 rfl) ?_
  refine lv_aload_n hx hb dX1_oneRoundFurther_5 rfl (lv_at hl 2 rfl) ?_
  refine va_get (D := (dC, dI)) (ci := 1) (v := .int (nI ak)) (C := RX1) (T := TX1) (N := 7) hx hb hts inX1 hown hK hP 0 rfl rfl 6 (by decide) (hts (.fieldLink RX1 33 "TreeOfArcs$Net" "arcCount" "I") (by decide +kernel)) (fun _ h9 => h9) rfl dX1_oneRoundFurther_6 ?_
  refine lv_icmp_ge (tgt := 51) hx hb dX1_oneRoundFurther_9 (by decide) (fun c_1 => ?_) (fun c_1 => ?_)
  · have hiN : i = ak := Nat.le_antisymm hi_4 (tq_ge c_1 (by omega) (by omega))
    rw [hiN] at ex_4
    refine lv_iload_n hx hb dX1_oneRoundFurther_51 rfl (lv_at hl 1 rfl) ?_
    have e9 : f_X1_oneRoundFurther ak fr to op p0 = wd := by unfold f_X1_oneRoundFurther; rw [← ex_4]; try dsimp only; all_goals rfl
    have hP9 : va_P (dC, dI) vwCl [(aN, .inr (1, [.ref aNf, .ref aNt, .ref aNw, .ref aNo, .int nc, .int rt, .int (nI ak)])), (aNf, .inl (cI, 60, .inl fr)), (aNt, .inl (cI, 60, .inl to)), (aNo, .inl (cZ, 60, .inl op))] H := by exact hP.sub [0, 1, 2, 3] rfl
    have hD9 : va_D A [(aN, .inr (1, [.ref aNf, .ref aNt, .ref aNw, .ref aNo, .int nc, .int rt, .int (nI ak)])), (aNf, .inl (cI, 60, .inl fr)), (aNt, .inl (cI, 60, .inl to)), (aNo, .inl (cZ, 60, .inl op))] := by exact hD.sub [0, 1, 2, 3] (by decide) rfl
    exact W.iret (v := wd) hx hb hr (fun t ht hW => ⟨⟨_, (), rfl, (by rw [e9]), by rw [ht]; exact hP9, va_K.moved hW.alike hK, hD9⟩, hS.F ht⟩) hS.2.2 dX1_oneRoundFurther_52
  · have hlt : i < ak := tq_lt c_1 (by omega) (by omega)
    refine lv_aload_n hx hb dX1_oneRoundFurther_12 rfl (lv_at hl 2 rfl) ?_
    refine va_get (D := (dC, dI)) (ci := 1) (v := .ref aNo) (C := RX1) (T := TX1) (N := 7) hx hb hts inX1 hown hK hP 0 rfl rfl 3 (by decide) (hts (.fieldLink RX1 22 "TreeOfArcs$Net" "isOpen" "[Z") (by decide +kernel)) (fun _ h9 => h9) rfl dX1_oneRoundFurther_13 ?_
    refine lv_iload_n hx hb dX1_oneRoundFurther_16 rfl (lv_at hl 0 rfl) ?_
    refine tq_zald hx hb hK hP 3 2 rfl rfl i rfl (by omega) (by decide) dX1_oneRoundFurther_17 ?_
    refine lv_if_eq (tgt := 45) hx hb dX1_oneRoundFurther_18 (by decide) (fun c_2 => ?_) (fun c_2 => ?_)
    · refine lv_iinc (v := (nI (i + 1))) (lv' := [(3, .int (nI (i + 1))), (2, .int wd), (0, .ref aN), (1, .int p0)]) hx hb dX1_oneRoundFurther_45 hl (k := 0) rfl (nI_1 _) (by decide) rfl (fun ls hl => ?_)
      refine lv_goto (tgt := 4) hx hb dX1_oneRoundFurther_48 (by decide) ?_
      have e9 : tq_it (fun i (x : Int32) => b_X1_oneRoundFurther_4 fr to op i x) p0 (i + 1) = wd := by show b_X1_oneRoundFurther_4 fr to op i (tq_it (fun i (x : Int32) => b_X1_oneRoundFurther_4 fr to op i x) p0 i) = _; rw [← ex_4]; unfold b_X1_oneRoundFurther_4; rw [if_pos c_2]
      exact ih_4 hlt _ _ _ (by exact hP.sub [0, 1, 2, 3] rfl) (by exact hD.sub [0, 1, 2, 3] (by decide) rfl) hS (by rw [e9]; exact lv_sub hl [0, 1, 2, 3] rfl)
    · refine lv_iload_n hx hb dX1_oneRoundFurther_21 rfl (lv_at hl 1 rfl) ?_
      refine lv_aload_n hx hb dX1_oneRoundFurther_22 rfl (lv_at hl 2 rfl) ?_
      refine va_get (D := (dC, dI)) (ci := 1) (v := .ref aNf) (C := RX1) (T := TX1) (N := 7) hx hb hts inX1 hown hK hP 0 rfl rfl 0 (by decide) (hts (.fieldLink RX1 9 "TreeOfArcs$Net" "from" "[I") (by decide +kernel)) (fun _ h9 => h9) rfl dX1_oneRoundFurther_23 ?_
      refine lv_iload_n hx hb dX1_oneRoundFurther_26 rfl (lv_at hl 0 rfl) ?_
      refine tq_iald hx hb hK hP 1 0 rfl rfl i rfl (by omega) (by decide) dX1_oneRoundFurther_27 ?_
      have hPc := hP.sub (ws' := []) [] rfl
      have hDc := hD.sub (ws' := []) [] (by decide) rfl
      have hFc := va_free (wc := []) hD hS hA [] rfl
      refine va_calli (va_runSN (As := [.int wd, .int (fr i)]) (rest := []) ⟨hx, hb, hml, hown, hts⟩ (c_X3_holds l dC dI cI cJ cZ  H.size wd (fr i) ) ⟨va_cnB 2 hts ggX1_oneRoundFurther_X3_holds rfl rfl rfl hE.1 (hts (.initialized yX3_holds.cls) (by decide +kernel)) (by decide +kernel) ⟨Nat.le_of_ble_eq_true rfl, Nat.le_of_ble_eq_true rfl⟩, hts (.static yX3_holds) (by decide +kernel), trivial⟩ ⟨fun a U g mk q => by obtain ⟨q0, q1, qP, qK, qD, qE⟩ := q; exact ⟨q0, q1, qP, va_K.moved (u := U) (U := U.calling g mk a) (Vm.Alike.refl U.vm) qK, qD, tq_E.same (u := U) rfl qE⟩, fun U hU hW => ⟨rfl, by rw [hU], by rw [hU]; exact hPc, va_K.moved hW.alike hK, hDc.weaken (fun _ _ _ _ => trivial), hE.warm hW⟩⟩ rfl rfl hl.1 rfl (lv_room (Nat.le_of_ble_eq_true rfl)) dX1_oneRoundFurther_28 ⟨(Nat.zero_le _), (Nat.zero_le _)⟩) hS (fun q _ h => hFc q h) hFc (fun r_3 u t H1 locs ht hvm hw hB hz1 hk1 hS => ?_)
      obtain ⟨hP1, hK1, hD1⟩ := hB
      rw [ht] at hP1
      obtain ⟨hP, hD⟩ := va_join (wr := [(aN, .inr (1, [.ref aNf, .ref aNt, .ref aNw, .ref aNo, .int nc, .int rt, .int (nI ak)])), (aNf, .inl (cI, 60, .inl fr)), (aNt, .inl (cI, 60, .inl to)), (aNo, .inl (cZ, 60, .inl op))]) (w1 := []) hP hD [] [0, 1, 2, 3] rfl rfl (by decide) (by decide) hk1 hFc hP1 hD1
      generalize H1 = H at hP hS ⊢
      have hP : va_P (dC, dI) vwCl [(aN, .inr (1, [.ref aNf, .ref aNt, .ref aNw, .ref aNo, .int nc, .int rt, .int (nI ak)])), (aNf, .inl (cI, 60, .inl fr)), (aNt, .inl (cI, 60, .inl to)), (aNo, .inl (cZ, 60, .inl op))] H := hP
      have hD : va_D A [(aN, .inr (1, [.ref aNf, .ref aNt, .ref aNw, .ref aNo, .int nc, .int rt, .int (nI ak)])), (aNf, .inl (cI, 60, .inl fr)), (aNt, .inl (cI, 60, .inl to)), (aNo, .inl (cZ, 60, .inl op))] := hD
      subst hw
      refine lv_if_eq (tgt := 45) hx hb dX1_oneRoundFurther_31 (by decide) (fun c_4 => ?_) (fun c_4 => ?_)
      · refine lv_iinc (v := (nI (i + 1))) (lv' := [(3, .int (nI (i + 1))), (2, .int wd), (0, .ref aN), (1, .int p0)]) hx hb dX1_oneRoundFurther_45 hl (k := 0) rfl (nI_1 _) (by decide) rfl (fun ls hl => ?_)
        refine lv_goto (tgt := 4) hx hb dX1_oneRoundFurther_48 (by decide) ?_
        have e9 : tq_it (fun i (x : Int32) => b_X1_oneRoundFurther_4 fr to op i x) p0 (i + 1) = wd := by show b_X1_oneRoundFurther_4 fr to op i (tq_it (fun i (x : Int32) => b_X1_oneRoundFurther_4 fr to op i x) p0 i) = _; rw [← ex_4]; unfold b_X1_oneRoundFurther_4; rw [if_neg c_2, if_pos c_4]
        exact ih_4 hlt _ _ _ (by exact hP.sub [0, 1, 2, 3] rfl) (by exact hD.sub [0, 1, 2, 3] (by decide) rfl) hS (by rw [e9]; exact lv_sub hl [0, 1, 2, 3] rfl)
      · refine lv_iload_n hx hb dX1_oneRoundFurther_34 rfl (lv_at hl 1 rfl) ?_
        refine lv_iconst (v := 1) hx hb dX1_oneRoundFurther_35 (by decide) ?_
        refine lv_aload_n hx hb dX1_oneRoundFurther_36 rfl (lv_at hl 2 rfl) ?_
        refine va_get (D := (dC, dI)) (ci := 1) (v := .ref aNt) (C := RX1) (T := TX1) (N := 7) hx hb hts inX1 hown hK hP 0 rfl rfl 1 (by decide) (hts (.fieldLink RX1 15 "TreeOfArcs$Net" "to" "[I") (by decide +kernel)) (fun _ h9 => h9) rfl dX1_oneRoundFurther_37 ?_
        refine lv_iload_n hx hb dX1_oneRoundFurther_40 rfl (lv_at hl 0 rfl) ?_
        refine tq_iald hx hb hK hP 2 0 rfl rfl i rfl (by omega) (by decide) dX1_oneRoundFurther_41 ?_
        refine lv_ishl hx hb dX1_oneRoundFurther_42 ?_
        refine lv_ior hx hb dX1_oneRoundFurther_43 ?_
        refine lv_istore_n (lv' := [(2, .int (wd ||| (1 <<< ((to i) &&& 31)))), (3, .int (nI i)), (0, .ref aN), (1, .int p0)]) hx hb dX1_oneRoundFurther_44 rfl hl (by decide) rfl (fun ls hl => ?_)
        refine lv_iinc (v := (nI (i + 1))) (lv' := [(3, .int (nI (i + 1))), (2, .int (wd ||| (1 <<< ((to i) &&& 31)))), (0, .ref aN), (1, .int p0)]) hx hb dX1_oneRoundFurther_45 hl (k := 1) rfl (nI_1 _) (by decide) rfl (fun ls hl => ?_)
        refine lv_goto (tgt := 4) hx hb dX1_oneRoundFurther_48 (by decide) ?_
        have e9 : tq_it (fun i (x : Int32) => b_X1_oneRoundFurther_4 fr to op i x) p0 (i + 1) = (wd ||| (1 <<< ((to i) &&& 31))) := by show b_X1_oneRoundFurther_4 fr to op i (tq_it (fun i (x : Int32) => b_X1_oneRoundFurther_4 fr to op i x) p0 i) = _; rw [← ex_4]; unfold b_X1_oneRoundFurther_4; rw [if_neg c_2, if_neg c_4]
        exact ih_4 hlt _ _ _ (by exact hP.sub [0, 1, 2, 3] rfl) (by exact hD.sub [0, 1, 2, 3] (by decide) rfl) hS (by rw [e9]; exact lv_sub hl [0, 1, 2, 3] rfl)
def b_X1_reachedNodes_9 (ak : Nat) (fr : (Nat → Int32)) (to : (Nat → Int32)) (op : (Nat → Int32)) (i : Nat) (rc : Int32) : Int32 := ((f_X1_oneRoundFurther ak fr to op rc))
def f_X1_reachedNodes (nk : Nat) (rt : Int32) (ak : Nat) (fr : (Nat → Int32)) (to : (Nat → Int32)) (op : (Nat → Int32)) : Int32 := (tq_it (fun i (x : Int32) => b_X1_reachedNodes_9 ak fr to op i x) (1 <<< (rt &&& 31)) nk)
set_option maxHeartbeats 4000000 in
set_option maxRecDepth 100000 in
theorem c_X1_reachedNodes (l : Launch) (dC : Nat → ClassId) (dI : Nat → Nat → Nat) (cI cJ cZ : ClassId) (aN aNf aNt aNw aNo : Nat) (sz : Nat) (nk : Nat) (rt : Int32) (ak : Nat) (fr : (Nat → Int32)) (to : (Nat → Int32)) (op : (Nat → Int32)) (hnk : nk ≤ 24) (hak : ak ≤ 60) : Met l yX1_reachedNodes wsX1_reachedNodes ({ frames := 2, cells := 0, slots := 0, locals := 44 }) (va_Pc [.ref aN] (fun U => U.heap.size = sz ∧ va_P (dC, dI) vwCl [(aN, .inr (1, [.ref aNf, .ref aNt, .ref aNw, .ref aNo, .int (nI nk), .int rt, .int (nI ak)])), (aNf, .inl (cI, 60, .inl fr)), (aNt, .inl (cI, 60, .inl to)), (aNo, .inl (cZ, 60, .inl op))] U.heap ∧ va_K (dC, dI) vwCl [(cI, .int), (cJ, .long), (cZ, .boolean)] U ∧ va_D (fun _ => True) [(aN, .inr (1, [.ref aNf, .ref aNt, .ref aNw, .ref aNo, .int (nI nk), .int rt, .int (nI ak)])), (aNf, .inl (cI, 60, .inl fr)), (aNt, .inl (cI, 60, .inl to)), (aNo, .inl (cZ, 60, .inl op))] ∧ tq_E U)) (va_Qi (fun (r : Int32) (_ : Unit) => r = (f_X1_reachedNodes nk rt ak fr to op)) (fun (_ : Unit) t => va_P (dC, dI) vwCl [(aN, .inr (1, [.ref aNf, .ref aNt, .ref aNw, .ref aNo, .int (nI nk), .int rt, .int (nI ak)])), (aNf, .inl (cI, 60, .inl fr)), (aNt, .inl (cI, 60, .inl to)), (aNo, .inl (cZ, 60, .inl op))] t.heap ∧ va_K (dC, dI) vwCl [(cI, .int), (cJ, .long), (cZ, .boolean)] t ∧ va_D (va_A [(aN, .inr (1, [.ref aNf, .ref aNt, .ref aNw, .ref aNo, .int (nI nk), .int rt, .int (nI ak)])), (aNf, .inl (cI, 60, .inl fr)), (aNt, .inl (cI, 60, .inl to)), (aNo, .inl (cZ, 60, .inl op))] sz) [(aN, .inr (1, [.ref aNf, .ref aNt, .ref aNw, .ref aNo, .int (nI nk), .int rt, .int (nI ak)])), (aNf, .inl (cI, 60, .inl fr)), (aNt, .inl (cI, 60, .inl to)), (aNo, .inl (cZ, 60, .inl op))]) (va_A [(aN, .inr (1, [.ref aNf, .ref aNt, .ref aNw, .ref aNo, .int (nI nk), .int rt, .int (nI ak)])), (aNf, .inl (cI, 60, .inl fr)), (aNt, .inl (cI, 60, .inl to)), (aNo, .inl (cZ, 60, .inl op))] sz)) 0 0 (va_A [(aN, .inr (1, [.ref aNf, .ref aNt, .ref aNw, .ref aNo, .int (nI nk), .int rt, .int (nI ak)])), (aNf, .inl (cI, 60, .inl fr)), (aNt, .inl (cI, 60, .inl to)), (aNo, .inl (cZ, 60, .inl op))] sz) := by
  refine Met.ofW (cc := cX1_reachedNodes) (maxL := 4) (ret := (some .int)) (by decide) rfl ?_
  intro p e s m args below meth c s₁ B hml hv
  obtain ⟨rfl, hsz, hP, hK, hD0, hE⟩ := hv
  have hx := B.exec
  have hb := B.bytes
  have hr := B.returns
  have hts := atoms_spec (ws := wsX1_reachedNodes) B.pre
  have hown : s.vm.findClass RX1 = some m.cls := findClass_of_methodNamed B.named
  have hlocks := B.notSynchronized
  subst hsz
  have hD := hD0.self (sz := s.heap.size)
  generalize hAe : va_A [(aN, .inr (1, [.ref aNf, .ref aNt, .ref aNw, .ref aNo, .int (nI nk), .int rt, .int (nI ak)])), (aNf, .inl (cI, 60, .inl fr)), (aNt, .inl (cI, 60, .inl to)), (aNo, .inl (cZ, 60, .inl op))] s.heap.size = A at hD ⊢
  have hA : ∀ q : Nat, s.heap.size ≤ q → A q := fun q h => by rw [← hAe]; exact Or.inr h
  have hl := lv_entry ([.ref aN]) (n := 4) (Nat.le_of_ble_eq_true rfl)
  rw [lg_entry_eq]
  generalize (lg_sl ([.ref aN]) ++ List.replicate (4 - (lg_sl ([.ref aN])).length) Slot.unset).toArray = ls at hl ⊢
  have hl : lv_has ls 4 [(0, .ref aN)] := hl
  have inX1 : ∀ w ∈ wsX10, w ∈ wsX1_reachedNodes := by decide +kernel
  refine tq_begin (A := A) hP (fun H locs hP hS => ?_)
  refine lv_iconst (v := 1) hx hb dX1_reachedNodes_0 (by decide) ?_
  refine lv_aload_n hx hb dX1_reachedNodes_1 rfl (lv_at hl 0 rfl) ?_
  refine va_get (D := (dC, dI)) (ci := 1) (v := .int rt) (C := RX1) (T := TX1) (N := 7) hx hb hts inX1 hown hK hP 0 rfl rfl 5 (by decide) (hts (.fieldLink RX1 30 "TreeOfArcs$Net" "root" "I") (by decide +kernel)) (fun _ h9 => h9) rfl dX1_reachedNodes_2 ?_
  refine lv_ishl hx hb dX1_reachedNodes_5 ?_
  refine lv_istore_n (lv' := [(1, .int (1 <<< (rt &&& 31))), (0, .ref aN)]) hx hb dX1_reachedNodes_6 rfl hl (by decide) rfl (fun ls hl => ?_)
  refine lv_iconst (v := 0) hx hb dX1_reachedNodes_7 (by decide) ?_
  refine lv_istore_n (lv' := [(2, .int 0), (1, .int (1 <<< (rt &&& 31))), (0, .ref aN)]) hx hb dX1_reachedNodes_8 rfl hl (by decide) rfl (fun ls hl => ?_)
  refine tq_for nk (fun i => [(aN, .inr (1, [.ref aNf, .ref aNt, .ref aNw, .ref aNo, .int (nI nk), .int rt, .int (nI ak)])), (aNf, .inl (cI, 60, .inl fr)), (aNt, .inl (cI, 60, .inl to)), (aNo, .inl (cZ, 60, .inl op))]) (fun i => [(2, .int (nI i)), (1, .int (tq_it (fun i (x : Int32) => b_X1_reachedNodes_9 ak fr to op i x) (1 <<< (rt &&& 31)) i)), (0, .ref aN)]) (fun i hi_9 ih_9 H locs ls hP hD hS hl => ?_) 0 (by omega) _ _ _ hP hD hS (lv_sub hl [0, 1, 2] rfl)
  obtain ⟨rc, ex_9⟩ : ∃ x, x = tq_it (fun i (x : Int32) => b_X1_reachedNodes_9 ak fr to op i x) (1 <<< (rt &&& 31)) i := ⟨_, rfl⟩
  have hP : va_P (dC, dI) vwCl [(aN, .inr (1, [.ref aNf, .ref aNt, .ref aNw, .ref aNo, .int (nI nk), .int rt, .int (nI ak)])), (aNf, .inl (cI, 60, .inl fr)), (aNt, .inl (cI, 60, .inl to)), (aNo, .inl (cZ, 60, .inl op))] H := hP
  have hD : va_D A [(aN, .inr (1, [.ref aNf, .ref aNt, .ref aNw, .ref aNo, .int (nI nk), .int rt, .int (nI ak)])), (aNf, .inl (cI, 60, .inl fr)), (aNt, .inl (cI, 60, .inl to)), (aNo, .inl (cZ, 60, .inl op))] := hD
  have hl : lv_has ls 4 [(2, .int (nI i)), (1, .int rc), (0, .ref aN)] := by have h9 : lv_has ls 4 [(2, .int (nI i)), (1, .int (tq_it (fun i (x : Int32) => b_X1_reachedNodes_9 ak fr to op i x) (1 <<< (rt &&& 31)) i)), (0, .ref aN)] := hl; rw [← ex_9] at h9; exact h9
  refine lv_iload_n hx hb dX1_reachedNodes_9 rfl (lv_at hl 0 rfl) ?_
  refine lv_aload_n hx hb dX1_reachedNodes_10 rfl (lv_at hl 2 rfl) ?_
  refine va_get (D := (dC, dI)) (ci := 1) (v := .int (nI nk)) (C := RX1) (T := TX1) (N := 7) hx hb hts inX1 hown hK hP 0 rfl rfl 4 (by decide) (hts (.fieldLink RX1 26 "TreeOfArcs$Net" "nodeCount" "I") (by decide +kernel)) (fun _ h9 => h9) rfl dX1_reachedNodes_11 ?_
  refine lv_icmp_ge (tgt := 39) hx hb dX1_reachedNodes_14 (by decide) (fun c_1 => ?_) (fun c_1 => ?_)
  · have hiN : i = nk := Nat.le_antisymm hi_9 (tq_ge c_1 (by omega) (by omega))
    rw [hiN] at ex_9
    refine lv_iload_n hx hb dX1_reachedNodes_39 rfl (lv_at hl 1 rfl) ?_
    have e9 : f_X1_reachedNodes nk rt ak fr to op = rc := by unfold f_X1_reachedNodes; rw [← ex_9]; try dsimp only; all_goals rfl
    have hP9 : va_P (dC, dI) vwCl [(aN, .inr (1, [.ref aNf, .ref aNt, .ref aNw, .ref aNo, .int (nI nk), .int rt, .int (nI ak)])), (aNf, .inl (cI, 60, .inl fr)), (aNt, .inl (cI, 60, .inl to)), (aNo, .inl (cZ, 60, .inl op))] H := by exact hP.sub [0, 1, 2, 3] rfl
    have hD9 : va_D A [(aN, .inr (1, [.ref aNf, .ref aNt, .ref aNw, .ref aNo, .int (nI nk), .int rt, .int (nI ak)])), (aNf, .inl (cI, 60, .inl fr)), (aNt, .inl (cI, 60, .inl to)), (aNo, .inl (cZ, 60, .inl op))] := by exact hD.sub [0, 1, 2, 3] (by decide) rfl
    exact W.iret (v := rc) hx hb hr (fun t ht hW => ⟨⟨_, (), rfl, (by rw [e9]), by rw [ht]; exact hP9, va_K.moved hW.alike hK, hD9⟩, hS.F ht⟩) hS.2.2 dX1_reachedNodes_40
  · have hlt : i < nk := tq_lt c_1 (by omega) (by omega)
    refine lv_aload_n hx hb dX1_reachedNodes_17 rfl (lv_at hl 2 rfl) ?_
    refine lv_iload_n hx hb dX1_reachedNodes_18 rfl (lv_at hl 1 rfl) ?_
    have hPc := hP.sub (ws' := [(aN, .inr (1, [.ref aNf, .ref aNt, .ref aNw, .ref aNo, .int (nI nk), .int rt, .int (nI ak)])), (aNf, .inl (cI, 60, .inl fr)), (aNt, .inl (cI, 60, .inl to)), (aNo, .inl (cZ, 60, .inl op))]) [0, 1, 2, 3] rfl
    have hDc := hD.sub (ws' := [(aN, .inr (1, [.ref aNf, .ref aNt, .ref aNw, .ref aNo, .int (nI nk), .int rt, .int (nI ak)])), (aNf, .inl (cI, 60, .inl fr)), (aNt, .inl (cI, 60, .inl to)), (aNo, .inl (cZ, 60, .inl op))]) [0, 1, 2, 3] (by decide) rfl
    have hFc := va_free (wc := [(aN, .inr (1, [.ref aNf, .ref aNt, .ref aNw, .ref aNo, .int (nI nk), .int rt, .int (nI ak)])), (aNf, .inl (cI, 60, .inl fr)), (aNt, .inl (cI, 60, .inl to)), (aNo, .inl (cZ, 60, .inl op))]) hD hS hA [0, 1, 2, 3] rfl
    refine va_calli (va_runV (As := [.int rc]) (rest := []) ⟨hx, hb, hml, hown, hts⟩ (c_X1_oneRoundFurther l dC dI cI cJ cZ aN aNf aNt aNw aNo H.size (nI nk) rt ak fr to op rc (by omega)) (cwV 1 hts gX1_reachedNodes_X1_oneRoundFurther rfl rfl rfl (by decide +kernel) ⟨Nat.le_of_ble_eq_true rfl, Nat.le_of_ble_eq_true rfl⟩) ⟨fun a U g mk q => by obtain ⟨q0, q1, qP, qK, qD, qE⟩ := q; exact ⟨q0, q1, qP, va_K.moved (u := U) (U := U.calling g mk a) (Vm.Alike.refl U.vm) qK, qD, tq_E.same (u := U) rfl qE⟩, va_recv hK hPc (ci := 1) (q0 := 0) rfl rfl, fun U hU hW => ⟨rfl, by rw [hU], by rw [hU]; exact hPc, va_K.moved hW.alike hK, hDc.weaken (fun _ _ _ _ => trivial), hE.warm hW⟩⟩ rfl rfl hl.1 rfl (lv_room (Nat.le_of_ble_eq_true rfl)) dX1_reachedNodes_19 ⟨(Nat.zero_le _), (Nat.zero_le _)⟩) hS (fun q _ h => hFc q h) hFc (fun r_2 u t H1 locs ht hvm hw hB hz1 hk1 hS => ?_)
    obtain ⟨hP1, hK1, hD1⟩ := hB
    rw [ht] at hP1
    obtain ⟨hP, hD⟩ := va_join (wr := []) (w1 := [(aN, .inr (1, [.ref aNf, .ref aNt, .ref aNw, .ref aNo, .int (nI nk), .int rt, .int (nI ak)])), (aNf, .inl (cI, 60, .inl fr)), (aNt, .inl (cI, 60, .inl to)), (aNo, .inl (cZ, 60, .inl op))]) hP hD [0, 1, 2, 3] [] rfl rfl (by decide) (by decide) hk1 hFc hP1 hD1
    generalize H1 = H at hP hS ⊢
    have hP : va_P (dC, dI) vwCl [(aN, .inr (1, [.ref aNf, .ref aNt, .ref aNw, .ref aNo, .int (nI nk), .int rt, .int (nI ak)])), (aNf, .inl (cI, 60, .inl fr)), (aNt, .inl (cI, 60, .inl to)), (aNo, .inl (cZ, 60, .inl op))] H := hP
    have hD : va_D A [(aN, .inr (1, [.ref aNf, .ref aNt, .ref aNw, .ref aNo, .int (nI nk), .int rt, .int (nI ak)])), (aNf, .inl (cI, 60, .inl fr)), (aNt, .inl (cI, 60, .inl to)), (aNo, .inl (cZ, 60, .inl op))] := hD
    subst hw
    refine lv_istore_n (lv' := [(3, .int ((f_X1_oneRoundFurther ak fr to op rc))), (2, .int (nI i)), (1, .int rc), (0, .ref aN)]) hx hb dX1_reachedNodes_22 rfl hl (by decide) rfl (fun ls hl => ?_)
    refine lv_iload_n hx hb dX1_reachedNodes_23 rfl (lv_at hl 0 rfl) ?_
    refine lv_iload_n hx hb dX1_reachedNodes_24 rfl (lv_at hl 2 rfl) ?_
    refine lv_icmp_ne (tgt := 31) hx hb dX1_reachedNodes_25 (by decide) (fun c_3 => ?_) (fun c_3 => ?_)
    · refine lv_iload_n hx hb dX1_reachedNodes_31 rfl (lv_at hl 0 rfl) ?_
      refine lv_istore_n (lv' := [(1, .int ((f_X1_oneRoundFurther ak fr to op rc))), (3, .int ((f_X1_oneRoundFurther ak fr to op rc))), (2, .int (nI i)), (0, .ref aN)]) hx hb dX1_reachedNodes_32 rfl hl (by decide) rfl (fun ls hl => ?_)
      refine lv_iinc (v := (nI (i + 1))) (lv' := [(2, .int (nI (i + 1))), (1, .int ((f_X1_oneRoundFurther ak fr to op rc))), (3, .int ((f_X1_oneRoundFurther ak fr to op rc))), (0, .ref aN)]) hx hb dX1_reachedNodes_33 hl (k := 2) rfl (nI_1 _) (by decide) rfl (fun ls hl => ?_)
      refine lv_goto (tgt := 9) hx hb dX1_reachedNodes_36 (by decide) ?_
      have e9 : tq_it (fun i (x : Int32) => b_X1_reachedNodes_9 ak fr to op i x) (1 <<< (rt &&& 31)) (i + 1) = ((f_X1_oneRoundFurther ak fr to op rc)) := by show b_X1_reachedNodes_9 ak fr to op i (tq_it (fun i (x : Int32) => b_X1_reachedNodes_9 ak fr to op i x) (1 <<< (rt &&& 31)) i) = _; rw [← ex_9]; unfold b_X1_reachedNodes_9; all_goals rfl
      exact ih_9 hlt _ _ _ (by exact hP.sub [0, 1, 2, 3] rfl) (by exact hD.sub [0, 1, 2, 3] (by decide) rfl) hS (by rw [e9]; exact lv_sub hl [0, 1, 3] rfl)
    · have ex_9 : rc = tq_it (fun i (x : Int32) => b_X1_reachedNodes_9 ak fr to op i x) (1 <<< (rt &&& 31)) nk := (tq_it_fix ex_9 hi_9 (fun j => by show f_X1_oneRoundFurther ak fr to op rc = rc; assumption)).symm
      refine lv_goto (tgt := 39) hx hb dX1_reachedNodes_28 (by decide) ?_
      refine lv_iload_n hx hb dX1_reachedNodes_39 rfl (lv_at hl 2 rfl) ?_
      have e9 : f_X1_reachedNodes nk rt ak fr to op = rc := by unfold f_X1_reachedNodes; rw [← ex_9]; try dsimp only; all_goals rfl
      have hP9 : va_P (dC, dI) vwCl [(aN, .inr (1, [.ref aNf, .ref aNt, .ref aNw, .ref aNo, .int (nI nk), .int rt, .int (nI ak)])), (aNf, .inl (cI, 60, .inl fr)), (aNt, .inl (cI, 60, .inl to)), (aNo, .inl (cZ, 60, .inl op))] H := by exact hP.sub [0, 1, 2, 3] rfl
      have hD9 : va_D A [(aN, .inr (1, [.ref aNf, .ref aNt, .ref aNw, .ref aNo, .int (nI nk), .int rt, .int (nI ak)])), (aNf, .inl (cI, 60, .inl fr)), (aNt, .inl (cI, 60, .inl to)), (aNo, .inl (cZ, 60, .inl op))] := by exact hD.sub [0, 1, 2, 3] (by decide) rfl
      exact W.iret (v := rc) hx hb hr (fun t ht hW => ⟨⟨_, (), rfl, (by rw [e9]), by rw [ht]; exact hP9, va_K.moved hW.alike hK, hD9⟩, hS.F ht⟩) hS.2.2 dX1_reachedNodes_40
def f_X1_addArc (ak : Nat) (fr : (Nat → Int32)) (to : (Nat → Int32)) (wt : (Nat → Int64)) (op : (Nat → Int32)) (p0 : Int32) (p1 : Int32) (p2 : Int64) : Int32 × Int32 × (Nat → Int32) × (Nat → Int32) × (Nat → Int64) × (Nat → Int32) := (if nI ak < 60 then (nI ak, ((nI ak) + 1), (upd fr ak p0), (upd to ak p1), (vp_updL wt ak p2), (upd op ak 1)) else ((-1), nI ak, fr, to, wt, op))
set_option maxHeartbeats 4000000 in
set_option maxRecDepth 100000 in
theorem c_X1_addArc (l : Launch) (dC : Nat → ClassId) (dI : Nat → Nat → Nat) (cI cJ cZ : ClassId) (aN aNf aNt aNw aNo : Nat) (sz : Nat) (nc : Int32) (rt : Int32) (ak : Nat) (fr : (Nat → Int32)) (to : (Nat → Int32)) (wt : (Nat → Int64)) (op : (Nat → Int32)) (p0 : Int32) (p1 : Int32) (p2 : Int64) (hak : ak ≤ 60) : Met l yX1_addArc wsX1_addArc ({ frames := 0, cells := 0, slots := 0, locals := 0 }) (va_Pc [.ref aN, .int p0, .int p1, .long p2] (fun U => U.heap.size = sz ∧ va_P (dC, dI) vwCl [(aN, .inr (1, [.ref aNf, .ref aNt, .ref aNw, .ref aNo, .int nc, .int rt, .int (nI ak)])), (aNf, .inl (cI, 60, .inl fr)), (aNt, .inl (cI, 60, .inl to)), (aNw, .inl (cJ, 60, .inr (.inl wt))), (aNo, .inl (cZ, 60, .inl op))] U.heap ∧ va_K (dC, dI) vwCl [(cI, .int), (cJ, .long), (cZ, .boolean)] U ∧ va_D (fun _ => True) [(aN, .inr (1, [.ref aNf, .ref aNt, .ref aNw, .ref aNo, .int nc, .int rt, .int (nI ak)])), (aNf, .inl (cI, 60, .inl fr)), (aNt, .inl (cI, 60, .inl to)), (aNw, .inl (cJ, 60, .inr (.inl wt))), (aNo, .inl (cZ, 60, .inl op))] ∧ tq_E U)) (va_Qi (fun (r : Int32) (_ : Unit) => r = (f_X1_addArc ak fr to wt op p0 p1 p2).1) (fun (_ : Unit) t => va_P (dC, dI) vwCl [(aN, .inr (1, [.ref aNf, .ref aNt, .ref aNw, .ref aNo, .int nc, .int rt, .int ((f_X1_addArc ak fr to wt op p0 p1 p2).2.1)])), (aNf, .inl (cI, 60, .inl ((f_X1_addArc ak fr to wt op p0 p1 p2).2.2.1))), (aNt, .inl (cI, 60, .inl ((f_X1_addArc ak fr to wt op p0 p1 p2).2.2.2.1))), (aNw, .inl (cJ, 60, .inr (.inl ((f_X1_addArc ak fr to wt op p0 p1 p2).2.2.2.2.1)))), (aNo, .inl (cZ, 60, .inl ((f_X1_addArc ak fr to wt op p0 p1 p2).2.2.2.2.2)))] t.heap ∧ va_K (dC, dI) vwCl [(cI, .int), (cJ, .long), (cZ, .boolean)] t ∧ va_D (va_A [(aN, .inr (1, [.ref aNf, .ref aNt, .ref aNw, .ref aNo, .int nc, .int rt, .int (nI ak)])), (aNf, .inl (cI, 60, .inl fr)), (aNt, .inl (cI, 60, .inl to)), (aNw, .inl (cJ, 60, .inr (.inl wt))), (aNo, .inl (cZ, 60, .inl op))] sz) [(aN, .inr (1, [.ref aNf, .ref aNt, .ref aNw, .ref aNo, .int nc, .int rt, .int ((f_X1_addArc ak fr to wt op p0 p1 p2).2.1)])), (aNf, .inl (cI, 60, .inl ((f_X1_addArc ak fr to wt op p0 p1 p2).2.2.1))), (aNt, .inl (cI, 60, .inl ((f_X1_addArc ak fr to wt op p0 p1 p2).2.2.2.1))), (aNw, .inl (cJ, 60, .inr (.inl ((f_X1_addArc ak fr to wt op p0 p1 p2).2.2.2.2.1)))), (aNo, .inl (cZ, 60, .inl ((f_X1_addArc ak fr to wt op p0 p1 p2).2.2.2.2.2)))]) (va_A [(aN, .inr (1, [.ref aNf, .ref aNt, .ref aNw, .ref aNo, .int nc, .int rt, .int (nI ak)])), (aNf, .inl (cI, 60, .inl fr)), (aNt, .inl (cI, 60, .inl to)), (aNw, .inl (cJ, 60, .inr (.inl wt))), (aNo, .inl (cZ, 60, .inl op))] sz)) 0 0 (va_A [(aN, .inr (1, [.ref aNf, .ref aNt, .ref aNw, .ref aNo, .int nc, .int rt, .int (nI ak)])), (aNf, .inl (cI, 60, .inl fr)), (aNt, .inl (cI, 60, .inl to)), (aNw, .inl (cJ, 60, .inr (.inl wt))), (aNo, .inl (cZ, 60, .inl op))] sz) := by
  refine Met.ofW (cc := cX1_addArc) (maxL := 6) (ret := (some .int)) (by decide) rfl ?_
  intro p e s m args below meth c s₁ B hml hv
  obtain ⟨rfl, hsz, hP, hK, hD0, hE⟩ := hv
  have hx := B.exec
  have hb := B.bytes
  have hr := B.returns
  have hts := atoms_spec (ws := wsX1_addArc) B.pre
  have hown : s.vm.findClass RX1 = some m.cls := findClass_of_methodNamed B.named
  have hlocks := B.notSynchronized
  subst hsz
  have hD := hD0.self (sz := s.heap.size)
  generalize hAe : va_A [(aN, .inr (1, [.ref aNf, .ref aNt, .ref aNw, .ref aNo, .int nc, .int rt, .int (nI ak)])), (aNf, .inl (cI, 60, .inl fr)), (aNt, .inl (cI, 60, .inl to)), (aNw, .inl (cJ, 60, .inr (.inl wt))), (aNo, .inl (cZ, 60, .inl op))] s.heap.size = A at hD ⊢
  have hA : ∀ q : Nat, s.heap.size ≤ q → A q := fun q h => by rw [← hAe]; exact Or.inr h
  have hl := lv_entry ([.ref aN, .int p0, .int p1, .long p2]) (n := 6) (Nat.le_of_ble_eq_true rfl)
  rw [lg_entry_eq]
  generalize (lg_sl ([.ref aN, .int p0, .int p1, .long p2]) ++ List.replicate (6 - (lg_sl ([.ref aN, .int p0, .int p1, .long p2])).length) Slot.unset).toArray = ls at hl ⊢
  have hl : lv_has ls 6 [(0, .ref aN), (1, .int p0), (2, .int p1), (3, .long p2)] := hl
  have inX1 : ∀ w ∈ wsX10, w ∈ wsX1_addArc := by decide +kernel
  refine tq_begin (A := A) hP (fun H locs hP hS => ?_)
  refine lv_aload_n hx hb dX1_addArc_0 rfl (lv_at hl 0 rfl) ?_
  refine va_get (D := (dC, dI)) (ci := 1) (v := .int (nI ak)) (C := RX1) (T := TX1) (N := 7) hx hb hts inX1 hown hK hP 0 rfl rfl 6 (by decide) (hts (.fieldLink RX1 33 "TreeOfArcs$Net" "arcCount" "I") (by decide +kernel)) (fun _ h9 => h9) rfl dX1_addArc_1 ?_
  refine lv_bipush (v := 60) hx hb dX1_addArc_4 (by decide) ?_
  refine lv_icmp_lt (tgt := 11) hx hb dX1_addArc_6 (by decide) (fun c_1 => ?_) (fun c_1 => ?_)
  · have hk : ak < 60 := (nI_ltI (by omega) (by decide)).mp c_1
    refine lv_aload_n hx hb dX1_addArc_11 rfl (lv_at hl 0 rfl) ?_
    refine va_get (D := (dC, dI)) (ci := 1) (v := .int (nI ak)) (C := RX1) (T := TX1) (N := 7) hx hb hts inX1 hown hK hP 0 rfl rfl 6 (by decide) (hts (.fieldLink RX1 33 "TreeOfArcs$Net" "arcCount" "I") (by decide +kernel)) (fun _ h9 => h9) rfl dX1_addArc_12 ?_
    refine lv_istore (lv' := [(5, .int (nI ak)), (0, .ref aN), (1, .int p0), (2, .int p1), (3, .long p2)]) hx hb dX1_addArc_15 hl (by decide) rfl (fun ls hl => ?_)
    refine lv_aload_n hx hb dX1_addArc_17 rfl (lv_at hl 1 rfl) ?_
    refine va_get (D := (dC, dI)) (ci := 1) (v := .ref aNf) (C := RX1) (T := TX1) (N := 7) hx hb hts inX1 hown hK hP 0 rfl rfl 0 (by decide) (hts (.fieldLink RX1 9 "TreeOfArcs$Net" "from" "[I") (by decide +kernel)) (fun _ h9 => h9) rfl dX1_addArc_18 ?_
    refine lv_iload hx hb dX1_addArc_21 (lv_at hl 0 rfl) ?_
    refine lv_iload_n hx hb dX1_addArc_23 rfl (lv_at hl 2 rfl) ?_
    refine tq_iast hx hb hK hP hD hS 1 0 rfl rfl ak rfl (by omega) (by decide) dX1_addArc_24 (fun H locs hP hD hS => ?_)
    have hP : va_P (dC, dI) vwCl [(aN, .inr (1, [.ref aNf, .ref aNt, .ref aNw, .ref aNo, .int nc, .int rt, .int (nI ak)])), (aNf, .inl (cI, 60, .inl (upd fr ak p0))), (aNt, .inl (cI, 60, .inl to)), (aNw, .inl (cJ, 60, .inr (.inl wt))), (aNo, .inl (cZ, 60, .inl op))] H := hP
    have hD : va_D A [(aN, .inr (1, [.ref aNf, .ref aNt, .ref aNw, .ref aNo, .int nc, .int rt, .int (nI ak)])), (aNf, .inl (cI, 60, .inl (upd fr ak p0))), (aNt, .inl (cI, 60, .inl to)), (aNw, .inl (cJ, 60, .inr (.inl wt))), (aNo, .inl (cZ, 60, .inl op))] := hD
    refine lv_aload_n hx hb dX1_addArc_25 rfl (lv_at hl 1 rfl) ?_
    refine va_get (D := (dC, dI)) (ci := 1) (v := .ref aNt) (C := RX1) (T := TX1) (N := 7) hx hb hts inX1 hown hK hP 0 rfl rfl 1 (by decide) (hts (.fieldLink RX1 15 "TreeOfArcs$Net" "to" "[I") (by decide +kernel)) (fun _ h9 => h9) rfl dX1_addArc_26 ?_
    refine lv_iload hx hb dX1_addArc_29 (lv_at hl 0 rfl) ?_
    refine lv_iload_n hx hb dX1_addArc_31 rfl (lv_at hl 3 rfl) ?_
    refine tq_iast hx hb hK hP hD hS 2 0 rfl rfl ak rfl (by omega) (by decide) dX1_addArc_32 (fun H locs hP hD hS => ?_)
    have hP : va_P (dC, dI) vwCl [(aN, .inr (1, [.ref aNf, .ref aNt, .ref aNw, .ref aNo, .int nc, .int rt, .int (nI ak)])), (aNf, .inl (cI, 60, .inl (upd fr ak p0))), (aNt, .inl (cI, 60, .inl (upd to ak p1))), (aNw, .inl (cJ, 60, .inr (.inl wt))), (aNo, .inl (cZ, 60, .inl op))] H := hP
    have hD : va_D A [(aN, .inr (1, [.ref aNf, .ref aNt, .ref aNw, .ref aNo, .int nc, .int rt, .int (nI ak)])), (aNf, .inl (cI, 60, .inl (upd fr ak p0))), (aNt, .inl (cI, 60, .inl (upd to ak p1))), (aNw, .inl (cJ, 60, .inr (.inl wt))), (aNo, .inl (cZ, 60, .inl op))] := hD
    refine lv_aload_n hx hb dX1_addArc_33 rfl (lv_at hl 1 rfl) ?_
    refine va_get (D := (dC, dI)) (ci := 1) (v := .ref aNw) (C := RX1) (T := TX1) (N := 7) hx hb hts inX1 hown hK hP 0 rfl rfl 2 (by decide) (hts (.fieldLink RX1 18 "TreeOfArcs$Net" "weight" "[J") (by decide +kernel)) (fun _ h9 => h9) rfl dX1_addArc_34 ?_
    refine lv_iload hx hb dX1_addArc_37 (lv_at hl 0 rfl) ?_
    refine lv_lload_n hx hb dX1_addArc_39 rfl (lv_at hl 4 rfl) ?_
    refine tq_last hx hb hK hP hD hS 3 1 rfl rfl ak rfl (by omega) (by decide) dX1_addArc_40 (fun H locs hP hD hS => ?_)
    have hP : va_P (dC, dI) vwCl [(aN, .inr (1, [.ref aNf, .ref aNt, .ref aNw, .ref aNo, .int nc, .int rt, .int (nI ak)])), (aNf, .inl (cI, 60, .inl (upd fr ak p0))), (aNt, .inl (cI, 60, .inl (upd to ak p1))), (aNw, .inl (cJ, 60, .inr (.inl (vp_updL wt ak p2)))), (aNo, .inl (cZ, 60, .inl op))] H := hP
    have hD : va_D A [(aN, .inr (1, [.ref aNf, .ref aNt, .ref aNw, .ref aNo, .int nc, .int rt, .int (nI ak)])), (aNf, .inl (cI, 60, .inl (upd fr ak p0))), (aNt, .inl (cI, 60, .inl (upd to ak p1))), (aNw, .inl (cJ, 60, .inr (.inl (vp_updL wt ak p2)))), (aNo, .inl (cZ, 60, .inl op))] := hD
    refine lv_aload_n hx hb dX1_addArc_41 rfl (lv_at hl 1 rfl) ?_
    refine va_get (D := (dC, dI)) (ci := 1) (v := .ref aNo) (C := RX1) (T := TX1) (N := 7) hx hb hts inX1 hown hK hP 0 rfl rfl 3 (by decide) (hts (.fieldLink RX1 22 "TreeOfArcs$Net" "isOpen" "[Z") (by decide +kernel)) (fun _ h9 => h9) rfl dX1_addArc_42 ?_
    refine lv_iload hx hb dX1_addArc_45 (lv_at hl 0 rfl) ?_
    refine lv_iconst (v := 1) hx hb dX1_addArc_47 (by decide) ?_
    refine tq_zast hx hb hK hP hD hS 4 2 rfl rfl ak rfl (by omega) (by decide) (Or.inr rfl) dX1_addArc_48 (fun H locs hP hD hS => ?_)
    have hP : va_P (dC, dI) vwCl [(aN, .inr (1, [.ref aNf, .ref aNt, .ref aNw, .ref aNo, .int nc, .int rt, .int (nI ak)])), (aNf, .inl (cI, 60, .inl (upd fr ak p0))), (aNt, .inl (cI, 60, .inl (upd to ak p1))), (aNw, .inl (cJ, 60, .inr (.inl (vp_updL wt ak p2)))), (aNo, .inl (cZ, 60, .inl (upd op ak 1)))] H := hP
    have hD : va_D A [(aN, .inr (1, [.ref aNf, .ref aNt, .ref aNw, .ref aNo, .int nc, .int rt, .int (nI ak)])), (aNf, .inl (cI, 60, .inl (upd fr ak p0))), (aNt, .inl (cI, 60, .inl (upd to ak p1))), (aNw, .inl (cJ, 60, .inr (.inl (vp_updL wt ak p2)))), (aNo, .inl (cZ, 60, .inl (upd op ak 1)))] := hD
    refine lv_aload_n hx hb dX1_addArc_49 rfl (lv_at hl 1 rfl) ?_
    refine lv_dup hx hb dX1_addArc_50 rfl ?_
    refine va_get (D := (dC, dI)) (ci := 1) (v := .int (nI ak)) (C := RX1) (T := TX1) (N := 7) hx hb hts inX1 hown hK hP 0 rfl rfl 6 (by decide) (hts (.fieldLink RX1 33 "TreeOfArcs$Net" "arcCount" "I") (by decide +kernel)) (fun _ h9 => h9) rfl dX1_addArc_51 ?_
    refine lv_iconst (v := 1) hx hb dX1_addArc_54 (by decide) ?_
    refine lv_iadd hx hb dX1_addArc_55 ?_
    refine va_put (D := (dC, dI)) (ci := 1) (v := .int ((nI ak) + 1)) (ty := .int) (C := RX1) (T := TX1) (N := 7) hx hb hts inX1 tyX1 tyX1_ok nmX1 hown hK hP hD hS 0 rfl rfl 6 (by decide) (hts (.fieldLink RX1 33 "TreeOfArcs$Net" "arcCount" "I") (by decide +kernel)) (fun _ h9 => h9) rfl (by decide +kernel) rfl rfl (Nat.le_of_ble_eq_true rfl) dX1_addArc_56 (fun H locs hP hD hS => ?_)
    have hP : va_P (dC, dI) vwCl [(aN, .inr (1, [.ref aNf, .ref aNt, .ref aNw, .ref aNo, .int nc, .int rt, .int ((nI ak) + 1)])), (aNf, .inl (cI, 60, .inl (upd fr ak p0))), (aNt, .inl (cI, 60, .inl (upd to ak p1))), (aNw, .inl (cJ, 60, .inr (.inl (vp_updL wt ak p2)))), (aNo, .inl (cZ, 60, .inl (upd op ak 1)))] H := hP
    have hD : va_D A [(aN, .inr (1, [.ref aNf, .ref aNt, .ref aNw, .ref aNo, .int nc, .int rt, .int ((nI ak) + 1)])), (aNf, .inl (cI, 60, .inl (upd fr ak p0))), (aNt, .inl (cI, 60, .inl (upd to ak p1))), (aNw, .inl (cJ, 60, .inr (.inl (vp_updL wt ak p2)))), (aNo, .inl (cZ, 60, .inl (upd op ak 1)))] := hD
    refine lv_iload hx hb dX1_addArc_59 (lv_at hl 0 rfl) ?_
    have e9 : f_X1_addArc ak fr to wt op p0 p1 p2 = (nI ak, ((nI ak) + 1), (upd fr ak p0), (upd to ak p1), (vp_updL wt ak p2), (upd op ak 1)) := by unfold f_X1_addArc; rw [if_pos c_1]
    have hP9 : va_P (dC, dI) vwCl [(aN, .inr (1, [.ref aNf, .ref aNt, .ref aNw, .ref aNo, .int nc, .int rt, .int ((f_X1_addArc ak fr to wt op p0 p1 p2).2.1)])), (aNf, .inl (cI, 60, .inl ((f_X1_addArc ak fr to wt op p0 p1 p2).2.2.1))), (aNt, .inl (cI, 60, .inl ((f_X1_addArc ak fr to wt op p0 p1 p2).2.2.2.1))), (aNw, .inl (cJ, 60, .inr (.inl ((f_X1_addArc ak fr to wt op p0 p1 p2).2.2.2.2.1)))), (aNo, .inl (cZ, 60, .inl ((f_X1_addArc ak fr to wt op p0 p1 p2).2.2.2.2.2)))] H := by rw [e9]; exact hP.sub [0, 1, 2, 3, 4] rfl
    have hD9 : va_D A [(aN, .inr (1, [.ref aNf, .ref aNt, .ref aNw, .ref aNo, .int nc, .int rt, .int ((f_X1_addArc ak fr to wt op p0 p1 p2).2.1)])), (aNf, .inl (cI, 60, .inl ((f_X1_addArc ak fr to wt op p0 p1 p2).2.2.1))), (aNt, .inl (cI, 60, .inl ((f_X1_addArc ak fr to wt op p0 p1 p2).2.2.2.1))), (aNw, .inl (cJ, 60, .inr (.inl ((f_X1_addArc ak fr to wt op p0 p1 p2).2.2.2.2.1)))), (aNo, .inl (cZ, 60, .inl ((f_X1_addArc ak fr to wt op p0 p1 p2).2.2.2.2.2)))] := by rw [e9]; exact hD.sub [0, 1, 2, 3, 4] (by decide) rfl
    exact W.iret (v := nI ak) hx hb hr (fun t ht hW => ⟨⟨_, (), rfl, (by rw [e9]), by rw [ht]; exact hP9, va_K.moved hW.alike hK, hD9⟩, hS.F ht⟩) hS.2.2 dX1_addArc_61
  · refine lv_iconst (v := (-1)) hx hb dX1_addArc_9 (by decide) ?_
    have e9 : f_X1_addArc ak fr to wt op p0 p1 p2 = ((-1), nI ak, fr, to, wt, op) := by unfold f_X1_addArc; rw [if_neg c_1]
    have hP9 : va_P (dC, dI) vwCl [(aN, .inr (1, [.ref aNf, .ref aNt, .ref aNw, .ref aNo, .int nc, .int rt, .int ((f_X1_addArc ak fr to wt op p0 p1 p2).2.1)])), (aNf, .inl (cI, 60, .inl ((f_X1_addArc ak fr to wt op p0 p1 p2).2.2.1))), (aNt, .inl (cI, 60, .inl ((f_X1_addArc ak fr to wt op p0 p1 p2).2.2.2.1))), (aNw, .inl (cJ, 60, .inr (.inl ((f_X1_addArc ak fr to wt op p0 p1 p2).2.2.2.2.1)))), (aNo, .inl (cZ, 60, .inl ((f_X1_addArc ak fr to wt op p0 p1 p2).2.2.2.2.2)))] H := by rw [e9]; exact hP.sub [0, 1, 2, 3, 4] rfl
    have hD9 : va_D A [(aN, .inr (1, [.ref aNf, .ref aNt, .ref aNw, .ref aNo, .int nc, .int rt, .int ((f_X1_addArc ak fr to wt op p0 p1 p2).2.1)])), (aNf, .inl (cI, 60, .inl ((f_X1_addArc ak fr to wt op p0 p1 p2).2.2.1))), (aNt, .inl (cI, 60, .inl ((f_X1_addArc ak fr to wt op p0 p1 p2).2.2.2.1))), (aNw, .inl (cJ, 60, .inr (.inl ((f_X1_addArc ak fr to wt op p0 p1 p2).2.2.2.2.1)))), (aNo, .inl (cZ, 60, .inl ((f_X1_addArc ak fr to wt op p0 p1 p2).2.2.2.2.2)))] := by rw [e9]; exact hD.sub [0, 1, 2, 3, 4] (by decide) rfl
    exact W.iret (v := (-1)) hx hb hr (fun t ht hW => ⟨⟨_, (), rfl, (by rw [e9]), by rw [ht]; exact hP9, va_K.moved hW.alike hK, hD9⟩, hS.F ht⟩) hS.2.2 dX1_addArc_10
