def f_X3_holds (p0 : Int32) (p1 : Int32) : Int32 := (if ((p0 >>> (p1 &&& 31)) &&& 1) = 1 then 1 else 0)
set_option maxHeartbeats 4000000 in
set_option maxRecDepth 100000 in
theorem c_X3_holds (l : Launch) (dC : Nat → ClassId) (dI : Nat → Nat → Nat) (cI cJ cZ : ClassId) (sz : Nat) (p0 : Int32) (p1 : Int32)  : Met l yX3_holds wsX3_holds ({ frames := 0, cells := 0, slots := 0, locals := 0 }) (va_Pc [.int p0, .int p1] (fun U => U.heap.size = sz ∧ va_P (dC, dI) vwCl [] U.heap ∧ va_K (dC, dI) vwCl [(cI, .int), (cJ, .long), (cZ, .boolean)] U ∧ va_D (fun _ => True) [])) (va_Qi (fun (r : Int32) (_ : Unit) => r = (f_X3_holds p0 p1)) (fun (_ : Unit) t => va_P (dC, dI) vwCl [] t.heap ∧ va_K (dC, dI) vwCl [(cI, .int), (cJ, .long), (cZ, .boolean)] t ∧ va_D (va_A [] sz) []) (va_A [] sz)) 0 0 (va_A [] sz) := by
  refine Met.ofW (cc := cX3_holds) (maxL := 2) (ret := (some .boolean)) (by decide) rfl ?_
  intro p e s m args below meth c s₁ B hml hv
  obtain ⟨rfl, hsz, hP, hK, hD0⟩ := hv
  have hx := B.exec
  have hb := B.bytes
  have hr := B.returns
  have hts := atoms_spec (ws := wsX3_holds) B.pre
  have hown : s.vm.findClass RX3 = some m.cls := findClass_of_methodNamed B.named
  have hlocks := B.notSynchronized
  subst hsz
  have hD := hD0.self (sz := s.heap.size)
  generalize hAe : va_A [] s.heap.size = A at hD ⊢
  have hA : ∀ q : Nat, s.heap.size ≤ q → A q := fun q h => by rw [← hAe]; exact Or.inr h
  have hl := lv_entry ([.int p0, .int p1]) (n := 2) (Nat.le_of_ble_eq_true rfl)
  rw [lg_entry_eq]
  generalize (lg_sl ([.int p0, .int p1]) ++ List.replicate (2 - (lg_sl ([.int p0, .int p1])).length) Slot.unset).toArray = ls at hl ⊢
  have hl : lv_has ls 2 [(0, .int p0), (1, .int p1)] := hl
  refine tq_begin (A := A) hP (fun H locs hP hS => ?_)
  refine lv_iload_n hx hb dX3_holds_0 rfl (lv_at hl 0 rfl) ?_
  refine lv_iload_n hx hb dX3_holds_1 rfl (lv_at hl 1 rfl) ?_
  refine lv_ishr hx hb dX3_holds_2 ?_
  refine lv_iconst (v := 1) hx hb dX3_holds_3 (by decide) ?_
  refine lv_iand hx hb dX3_holds_4 ?_
  refine lv_iconst (v := 1) hx hb dX3_holds_5 (by decide) ?_
  refine lv_icmp_ne (tgt := 13) hx hb dX3_holds_6 (by decide) (fun c_1 => ?_) (fun c_1 => ?_)
  · refine lv_iconst (v := 0) hx hb dX3_holds_13 (by decide) ?_
    have e9 : f_X3_holds p0 p1 = 0 := by unfold f_X3_holds; rw [if_neg c_1]
    have hP9 : va_P (dC, dI) vwCl [] H := by exact hP.sub [] rfl
    have hD9 : va_D A [] := by exact hD.sub [] (by decide) rfl
    exact W.zret (v := 0) hx hb hr rfl (fun t ht hW => ⟨⟨_, (), rfl, (by rw [e9]), by rw [ht]; exact hP9, va_K.moved hW.alike hK, hD9⟩, hS.F ht⟩) hS.2.2 dX3_holds_14
  · refine lv_iconst (v := 1) hx hb dX3_holds_9 (by decide) ?_
    refine lv_goto (tgt := 14) hx hb dX3_holds_10 (by decide) ?_
    have e9 : f_X3_holds p0 p1 = 1 := by unfold f_X3_holds; rw [if_pos c_1]
    have hP9 : va_P (dC, dI) vwCl [] H := by exact hP.sub [] rfl
    have hD9 : va_D A [] := by exact hD.sub [] (by decide) rfl
    exact W.zret (v := 1) hx hb hr rfl (fun t ht hW => ⟨⟨_, (), rfl, (by rw [e9]), by rw [ht]; exact hP9, va_K.moved hW.alike hK, hD9⟩, hS.F ht⟩) hS.2.2 dX3_holds_14
def f_X1_isNode (nc : Int32) (p0 : Int32) : Int32 := (if p0 < 0 then 0 else (if nc ≤ p0 then 0 else 1))
set_option maxHeartbeats 4000000 in
set_option maxRecDepth 100000 in
theorem c_X1_isNode (l : Launch) (dC : Nat → ClassId) (dI : Nat → Nat → Nat) (cI cJ cZ : ClassId) (aN aNf aNt aNw aNo : Nat) (sz : Nat) (nc : Int32) (rt : Int32) (ac : Int32) (p0 : Int32)  : Met l yX1_isNode wsX1_isNode ({ frames := 0, cells := 0, slots := 0, locals := 0 }) (va_Pc [.ref aN, .int p0] (fun U => U.heap.size = sz ∧ va_P (dC, dI) vwCl [(aN, .inr (1, [.ref aNf, .ref aNt, .ref aNw, .ref aNo, .int nc, .int rt, .int ac]))] U.heap ∧ va_K (dC, dI) vwCl [(cI, .int), (cJ, .long), (cZ, .boolean)] U ∧ va_D (fun _ => True) [(aN, .inr (1, [.ref aNf, .ref aNt, .ref aNw, .ref aNo, .int nc, .int rt, .int ac]))])) (va_Qi (fun (r : Int32) (_ : Unit) => r = (f_X1_isNode nc p0)) (fun (_ : Unit) t => va_P (dC, dI) vwCl [(aN, .inr (1, [.ref aNf, .ref aNt, .ref aNw, .ref aNo, .int nc, .int rt, .int ac]))] t.heap ∧ va_K (dC, dI) vwCl [(cI, .int), (cJ, .long), (cZ, .boolean)] t ∧ va_D (va_A [(aN, .inr (1, [.ref aNf, .ref aNt, .ref aNw, .ref aNo, .int nc, .int rt, .int ac]))] sz) [(aN, .inr (1, [.ref aNf, .ref aNt, .ref aNw, .ref aNo, .int nc, .int rt, .int ac]))]) (va_A [(aN, .inr (1, [.ref aNf, .ref aNt, .ref aNw, .ref aNo, .int nc, .int rt, .int ac]))] sz)) 0 0 (va_A [(aN, .inr (1, [.ref aNf, .ref aNt, .ref aNw, .ref aNo, .int nc, .int rt, .int ac]))] sz) := by
  refine Met.ofW (cc := cX1_isNode) (maxL := 2) (ret := (some .boolean)) (by decide) rfl ?_
  intro p e s m args below meth c s₁ B hml hv
  obtain ⟨rfl, hsz, hP, hK, hD0⟩ := hv
  have hx := B.exec
  have hb := B.bytes
  have hr := B.returns
  have hts := atoms_spec (ws := wsX1_isNode) B.pre
  have hown : s.vm.findClass RX1 = some m.cls := findClass_of_methodNamed B.named
  have hlocks := B.notSynchronized
  subst hsz
  have hD := hD0.self (sz := s.heap.size)
  generalize hAe : va_A [(aN, .inr (1, [.ref aNf, .ref aNt, .ref aNw, .ref aNo, .int nc, .int rt, .int ac]))] s.heap.size = A at hD ⊢
  have hA : ∀ q : Nat, s.heap.size ≤ q → A q := fun q h => by rw [← hAe]; exact Or.inr h
  have hl := lv_entry ([.ref aN, .int p0]) (n := 2) (Nat.le_of_ble_eq_true rfl)
  rw [lg_entry_eq]
  generalize (lg_sl ([.ref aN, .int p0]) ++ List.replicate (2 - (lg_sl ([.ref aN, .int p0])).length) Slot.unset).toArray = ls at hl ⊢
  have hl : lv_has ls 2 [(0, .ref aN), (1, .int p0)] := hl
  have inX1 : ∀ w ∈ wsX10, w ∈ wsX1_isNode := by decide +kernel
  refine tq_begin (A := A) hP (fun H locs hP hS => ?_)
  refine lv_iload_n hx hb dX1_isNode_0 rfl (lv_at hl 1 rfl) ?_
  refine lv_if_lt (tgt := 16) hx hb dX1_isNode_1 (by decide) (fun c_1 => ?_) (fun c_1 => ?_)
  · refine lv_iconst (v := 0) hx hb dX1_isNode_16 (by decide) ?_
    have e9 : f_X1_isNode nc p0 = 0 := by unfold f_X1_isNode; rw [if_pos c_1]
    have hP9 : va_P (dC, dI) vwCl [(aN, .inr (1, [.ref aNf, .ref aNt, .ref aNw, .ref aNo, .int nc, .int rt, .int ac]))] H := by exact hP.sub [0] rfl
    have hD9 : va_D A [(aN, .inr (1, [.ref aNf, .ref aNt, .ref aNw, .ref aNo, .int nc, .int rt, .int ac]))] := by exact hD.sub [0] (by decide) rfl
    exact W.zret (v := 0) hx hb hr rfl (fun t ht hW => ⟨⟨_, (), rfl, (by rw [e9]), by rw [ht]; exact hP9, va_K.moved hW.alike hK, hD9⟩, hS.F ht⟩) hS.2.2 dX1_isNode_17
  · refine lv_iload_n hx hb dX1_isNode_4 rfl (lv_at hl 1 rfl) ?_
    refine lv_aload_n hx hb dX1_isNode_5 rfl (lv_at hl 0 rfl) ?_
    refine va_get (D := (dC, dI)) (ci := 1) (v := .int nc) (C := RX1) (T := TX1) (N := 7) hx hb hts inX1 hown hK hP 0 rfl rfl 4 (by decide) (hts (.fieldLink RX1 26 "TreeOfArcs$Net" "nodeCount" "I") (by decide +kernel)) (fun _ h9 => h9) rfl dX1_isNode_6 ?_
    refine lv_icmp_ge (tgt := 16) hx hb dX1_isNode_9 (by decide) (fun c_2 => ?_) (fun c_2 => ?_)
    · refine lv_iconst (v := 0) hx hb dX1_isNode_16 (by decide) ?_
      have e9 : f_X1_isNode nc p0 = 0 := by unfold f_X1_isNode; rw [if_neg c_1, if_pos c_2]
      have hP9 : va_P (dC, dI) vwCl [(aN, .inr (1, [.ref aNf, .ref aNt, .ref aNw, .ref aNo, .int nc, .int rt, .int ac]))] H := by exact hP.sub [0] rfl
      have hD9 : va_D A [(aN, .inr (1, [.ref aNf, .ref aNt, .ref aNw, .ref aNo, .int nc, .int rt, .int ac]))] := by exact hD.sub [0] (by decide) rfl
      exact W.zret (v := 0) hx hb hr rfl (fun t ht hW => ⟨⟨_, (), rfl, (by rw [e9]), by rw [ht]; exact hP9, va_K.moved hW.alike hK, hD9⟩, hS.F ht⟩) hS.2.2 dX1_isNode_17
    · refine lv_iconst (v := 1) hx hb dX1_isNode_12 (by decide) ?_
      refine lv_goto (tgt := 17) hx hb dX1_isNode_13 (by decide) ?_
      have e9 : f_X1_isNode nc p0 = 1 := by unfold f_X1_isNode; rw [if_neg c_1, if_neg c_2]
      have hP9 : va_P (dC, dI) vwCl [(aN, .inr (1, [.ref aNf, .ref aNt, .ref aNw, .ref aNo, .int nc, .int rt, .int ac]))] H := by exact hP.sub [0] rfl
      have hD9 : va_D A [(aN, .inr (1, [.ref aNf, .ref aNt, .ref aNw, .ref aNo, .int nc, .int rt, .int ac]))] := by exact hD.sub [0] (by decide) rfl
      exact W.zret (v := 1) hx hb hr rfl (fun t ht hW => ⟨⟨_, (), rfl, (by rw [e9]), by rw [ht]; exact hP9, va_K.moved hW.alike hK, hD9⟩, hS.F ht⟩) hS.2.2 dX1_isNode_17
def f_X1_isArc (ac : Int32) (p0 : Int32) : Int32 := (if p0 < 0 then 0 else (if ac ≤ p0 then 0 else 1))
set_option maxHeartbeats 4000000 in
set_option maxRecDepth 100000 in
theorem c_X1_isArc (l : Launch) (dC : Nat → ClassId) (dI : Nat → Nat → Nat) (cI cJ cZ : ClassId) (aN aNf aNt aNw aNo : Nat) (sz : Nat) (nc : Int32) (rt : Int32) (ac : Int32) (p0 : Int32)  : Met l yX1_isArc wsX1_isArc ({ frames := 0, cells := 0, slots := 0, locals := 0 }) (va_Pc [.ref aN, .int p0] (fun U => U.heap.size = sz ∧ va_P (dC, dI) vwCl [(aN, .inr (1, [.ref aNf, .ref aNt, .ref aNw, .ref aNo, .int nc, .int rt, .int ac]))] U.heap ∧ va_K (dC, dI) vwCl [(cI, .int), (cJ, .long), (cZ, .boolean)] U ∧ va_D (fun _ => True) [(aN, .inr (1, [.ref aNf, .ref aNt, .ref aNw, .ref aNo, .int nc, .int rt, .int ac]))])) (va_Qi (fun (r : Int32) (_ : Unit) => r = (f_X1_isArc ac p0)) (fun (_ : Unit) t => va_P (dC, dI) vwCl [(aN, .inr (1, [.ref aNf, .ref aNt, .ref aNw, .ref aNo, .int nc, .int rt, .int ac]))] t.heap ∧ va_K (dC, dI) vwCl [(cI, .int), (cJ, .long), (cZ, .boolean)] t ∧ va_D (va_A [(aN, .inr (1, [.ref aNf, .ref aNt, .ref aNw, .ref aNo, .int nc, .int rt, .int ac]))] sz) [(aN, .inr (1, [.ref aNf, .ref aNt, .ref aNw, .ref aNo, .int nc, .int rt, .int ac]))]) (va_A [(aN, .inr (1, [.ref aNf, .ref aNt, .ref aNw, .ref aNo, .int nc, .int rt, .int ac]))] sz)) 0 0 (va_A [(aN, .inr (1, [.ref aNf, .ref aNt, .ref aNw, .ref aNo, .int nc, .int rt, .int ac]))] sz) := by
  refine Met.ofW (cc := cX1_isArc) (maxL := 2) (ret := (some .boolean)) (by decide) rfl ?_
  intro p e s m args below meth c s₁ B hml hv
  obtain ⟨rfl, hsz, hP, hK, hD0⟩ := hv
  have hx := B.exec
  have hb := B.bytes
  have hr := B.returns
  have hts := atoms_spec (ws := wsX1_isArc) B.pre
  have hown : s.vm.findClass RX1 = some m.cls := findClass_of_methodNamed B.named
  have hlocks := B.notSynchronized
  subst hsz
  have hD := hD0.self (sz := s.heap.size)
  generalize hAe : va_A [(aN, .inr (1, [.ref aNf, .ref aNt, .ref aNw, .ref aNo, .int nc, .int rt, .int ac]))] s.heap.size = A at hD ⊢
  have hA : ∀ q : Nat, s.heap.size ≤ q → A q := fun q h => by rw [← hAe]; exact Or.inr h
  have hl := lv_entry ([.ref aN, .int p0]) (n := 2) (Nat.le_of_ble_eq_true rfl)
  rw [lg_entry_eq]
  generalize (lg_sl ([.ref aN, .int p0]) ++ List.replicate (2 - (lg_sl ([.ref aN, .int p0])).length) Slot.unset).toArray = ls at hl ⊢
  have hl : lv_has ls 2 [(0, .ref aN), (1, .int p0)] := hl
  have inX1 : ∀ w ∈ wsX10, w ∈ wsX1_isArc := by decide +kernel
  refine tq_begin (A := A) hP (fun H locs hP hS => ?_)
  refine lv_iload_n hx hb dX1_isArc_0 rfl (lv_at hl 1 rfl) ?_
  refine lv_if_lt (tgt := 16) hx hb dX1_isArc_1 (by decide) (fun c_1 => ?_) (fun c_1 => ?_)
  · refine lv_iconst (v := 0) hx hb dX1_isArc_16 (by decide) ?_
    have e9 : f_X1_isArc ac p0 = 0 := by unfold f_X1_isArc; rw [if_pos c_1]
    have hP9 : va_P (dC, dI) vwCl [(aN, .inr (1, [.ref aNf, .ref aNt, .ref aNw, .ref aNo, .int nc, .int rt, .int ac]))] H := by exact hP.sub [0] rfl
    have hD9 : va_D A [(aN, .inr (1, [.ref aNf, .ref aNt, .ref aNw, .ref aNo, .int nc, .int rt, .int ac]))] := by exact hD.sub [0] (by decide) rfl
    exact W.zret (v := 0) hx hb hr rfl (fun t ht hW => ⟨⟨_, (), rfl, (by rw [e9]), by rw [ht]; exact hP9, va_K.moved hW.alike hK, hD9⟩, hS.F ht⟩) hS.2.2 dX1_isArc_17
  · refine lv_iload_n hx hb dX1_isArc_4 rfl (lv_at hl 1 rfl) ?_
    refine lv_aload_n hx hb dX1_isArc_5 rfl (lv_at hl 0 rfl) ?_
    refine va_get (D := (dC, dI)) (ci := 1) (v := .int ac) (C := RX1) (T := TX1) (N := 7) hx hb hts inX1 hown hK hP 0 rfl rfl 6 (by decide) (hts (.fieldLink RX1 33 "TreeOfArcs$Net" "arcCount" "I") (by decide +kernel)) (fun _ h9 => h9) rfl dX1_isArc_6 ?_
    refine lv_icmp_ge (tgt := 16) hx hb dX1_isArc_9 (by decide) (fun c_2 => ?_) (fun c_2 => ?_)
    · refine lv_iconst (v := 0) hx hb dX1_isArc_16 (by decide) ?_
      have e9 : f_X1_isArc ac p0 = 0 := by unfold f_X1_isArc; rw [if_neg c_1, if_pos c_2]
      have hP9 : va_P (dC, dI) vwCl [(aN, .inr (1, [.ref aNf, .ref aNt, .ref aNw, .ref aNo, .int nc, .int rt, .int ac]))] H := by exact hP.sub [0] rfl
      have hD9 : va_D A [(aN, .inr (1, [.ref aNf, .ref aNt, .ref aNw, .ref aNo, .int nc, .int rt, .int ac]))] := by exact hD.sub [0] (by decide) rfl
      exact W.zret (v := 0) hx hb hr rfl (fun t ht hW => ⟨⟨_, (), rfl, (by rw [e9]), by rw [ht]; exact hP9, va_K.moved hW.alike hK, hD9⟩, hS.F ht⟩) hS.2.2 dX1_isArc_17
    · refine lv_iconst (v := 1) hx hb dX1_isArc_12 (by decide) ?_
      refine lv_goto (tgt := 17) hx hb dX1_isArc_13 (by decide) ?_
      have e9 : f_X1_isArc ac p0 = 1 := by unfold f_X1_isArc; rw [if_neg c_1, if_neg c_2]
      have hP9 : va_P (dC, dI) vwCl [(aN, .inr (1, [.ref aNf, .ref aNt, .ref aNw, .ref aNo, .int nc, .int rt, .int ac]))] H := by exact hP.sub [0] rfl
      have hD9 : va_D A [(aN, .inr (1, [.ref aNf, .ref aNt, .ref aNw, .ref aNo, .int nc, .int rt, .int ac]))] := by exact hD.sub [0] (by decide) rfl
      exact W.zret (v := 1) hx hb hr rfl (fun t ht hW => ⟨⟨_, (), rfl, (by rw [e9]), by rw [ht]; exact hP9, va_K.moved hW.alike hK, hD9⟩, hS.F ht⟩) hS.2.2 dX1_isArc_17
