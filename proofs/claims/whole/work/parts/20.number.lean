theorem tq_updP {P : Int32 → Prop} {f : Nat → Int32} {k : Nat} {v : Int32} {q : Nat} (h1 : P v) (h2 : q ≠ k → P (f q)) : P (upd f k v q) := by
  unfold upd
  split
  · exact h1
  · exact h2 (by assumption)
def b_X4_bits_4 (p0 : Int32) (i : Nat) (k : Int32) : Int32 := (k + ((p0 >>> ((nI i) &&& 31)) &&& 1))
def t_X4_bits_4 (p0 : Int32) (x0_ : Int32) (k_ : Nat) : Int32 := tq_it (fun i x_ => b_X4_bits_4 p0 i x_) x0_ k_
def f_X4_bits (p0 : Int32) : Int32 := (t_X4_bits_4 p0 0 24)
set_option maxHeartbeats 4000000 in
set_option maxRecDepth 100000 in
theorem c_X4_bits (l : Launch) (dC : Nat → ClassId) (dI : Nat → Nat → Nat) (cI cJ cZ : ClassId) (sz : Nat) (p0 : Int32)  : Met l yX4_bits wsX4_bits ({ frames := 0, cells := 0, slots := 0, locals := 0 }) (va_Pc [.int p0] (fun U => U.heap.size = sz ∧ va_P (dC, dI) vwCl [] U.heap ∧ va_K (dC, dI) vwCl [(cI, .int), (cJ, .long), (cZ, .boolean)] U ∧ va_D (fun _ => True) [] ∧ tq_E U)) (va_Qi (fun (r : Int32) (_ : Unit) => r = (f_X4_bits p0)) (fun (_ : Unit) t => va_P (dC, dI) vwCl [] t.heap ∧ va_K (dC, dI) vwCl [(cI, .int), (cJ, .long), (cZ, .boolean)] t ∧ va_D (va_A [] sz) []) (va_A [] sz)) 0 0 (va_A [] sz) := by
  refine Met.ofW (cc := cX4_bits) (maxL := 3) (ret := (some .int)) (by decide) rfl ?_
  intro p e s m args below meth c s₁ B hml hv
  obtain ⟨rfl, hsz, hP, hK, hD0, hE⟩ := hv
  have hx := B.exec
  have hb := B.bytes
  have hr := B.returns
  have hts := atoms_spec (ws := wsX4_bits) B.pre
  have hown : s.vm.findClass RX4 = some m.cls := findClass_of_methodNamed B.named
  have hlocks := B.notSynchronized
  subst hsz
  have hD := hD0.self (sz := s.heap.size)
  generalize hAe : va_A [] s.heap.size = A at hD ⊢
  have hA : ∀ q : Nat, s.heap.size ≤ q → A q := fun q h => by rw [← hAe]; exact Or.inr h
  have hl := lv_entry ([.int p0]) (n := 3) (Nat.le_of_ble_eq_true rfl)
  rw [lg_entry_eq]
  generalize (lg_sl ([.int p0]) ++ List.replicate (3 - (lg_sl ([.int p0])).length) Slot.unset).toArray = ls at hl ⊢
  have hl : lv_has ls 3 [(0, .int p0)] := hl
  refine tq_begin (A := A) hP (fun H locs hP hS => ?_)
  refine lv_iconst (v := 0) hx hb dX4_bits_0 (by decide) ?_
  refine lv_istore_n (lv' := [(1, .int 0), (0, .int p0)]) hx hb dX4_bits_1 rfl hl (by decide) rfl (fun ls hl => ?_)
  refine lv_iconst (v := 0) hx hb dX4_bits_2 (by decide) ?_
  refine lv_istore_n (lv' := [(2, .int 0), (1, .int 0), (0, .int p0)]) hx hb dX4_bits_3 rfl hl (by decide) rfl (fun ls hl => ?_)
  refine tq_loop 24 (S := Int32) (fun i x_ => t_X4_bits_4 p0 0 i = x_) (fun x_ => []) (fun i x_ => [(2, .int (nI i)), (1, .int x_), (0, .int p0)]) (fun i k hi_4 hx_4 ih_4 H locs ls hP hD hS hl => ?_) 0 0 (Nat.zero_le _) rfl _ _ _ hP hD hS (lv_sub hl [0, 1, 2] rfl)
  have hP : va_P (dC, dI) vwCl [] H := hP
  have hD : va_D A [] := hD
  have hl : lv_has ls 3 [(2, .int (nI i)), (1, .int k), (0, .int p0)] := hl
  refine lv_iload_n hx hb dX4_bits_4 rfl (lv_at hl 0 rfl) ?_
  refine lv_bipush (v := 24) hx hb dX4_bits_5 (by decide) ?_
  refine lv_icmp_ge (tgt := 24) hx hb dX4_bits_7 (by decide) (fun c_1 => ?_) (fun c_1 => ?_)
  · have hiN_4 : i = 24 := Nat.le_antisymm hi_4 (tq_ge c_1 (by omega) (by omega))
    rw [hiN_4] at hx_4
    have ey_2 : k = (t_X4_bits_4 p0 0 24) := hx_4.symm
    refine lv_iload_n hx hb dX4_bits_24 rfl (lv_at hl 1 rfl) ?_
    have e9 : f_X4_bits p0 = k := by unfold f_X4_bits; rw [← ey_2]; (try dsimp only); all_goals rfl
    have hP9 : va_P (dC, dI) vwCl [] H := by exact hP.sub [] rfl
    have hD9 : va_D A [] := by exact hD.sub [] (by decide) rfl
    exact W.iret (v := k) hx hb hr (fun t ht hW => ⟨⟨_, (), rfl, (by rw [e9]), by rw [ht]; exact hP9, va_K.moved hW.alike hK, hD9⟩, hS.F ht⟩) hS.2.2 dX4_bits_25
  · have hlt_4 : i < 24 := tq_lt c_1 (by omega) (by omega)
    refine lv_iload_n hx hb dX4_bits_10 rfl (lv_at hl 1 rfl) ?_
    refine lv_iload_n hx hb dX4_bits_11 rfl (lv_at hl 2 rfl) ?_
    refine lv_iload_n hx hb dX4_bits_12 rfl (lv_at hl 0 rfl) ?_
    refine lv_ishr hx hb dX4_bits_13 ?_
    refine lv_iconst (v := 1) hx hb dX4_bits_14 (by decide) ?_
    refine lv_iand hx hb dX4_bits_15 ?_
    refine lv_iadd hx hb dX4_bits_16 ?_
    refine lv_istore_n (lv' := [(1, .int (k + ((p0 >>> ((nI i) &&& 31)) &&& 1))), (2, .int (nI i)), (0, .int p0)]) hx hb dX4_bits_17 rfl hl (by decide) rfl (fun ls hl => ?_)
    refine lv_iinc (v := (nI (i + 1))) (lv' := [(2, .int (nI (i + 1))), (1, .int (k + ((p0 >>> ((nI i) &&& 31)) &&& 1))), (0, .int p0)]) hx hb dX4_bits_18 hl (k := 1) rfl (nI_1 _) (by decide) rfl (fun ls hl => ?_)
    refine lv_goto (tgt := 4) hx hb dX4_bits_21 (by decide) ?_
    have e9 : t_X4_bits_4 p0 0 (i + 1) = (k + ((p0 >>> ((nI i) &&& 31)) &&& 1)) := by refine (tq_it_go hx_4).trans ?_; show b_X4_bits_4 p0 i k = _; unfold b_X4_bits_4; all_goals rfl
    exact ih_4 (k + ((p0 >>> ((nI i) &&& 31)) &&& 1)) hlt_4 e9 _ _ _ (hP.sub [] rfl) (hD.sub [] (by decide) rfl) hS (lv_sub hl [0, 1, 2] rfl)
def b_X4_leastOf_2 (p0 : Int32) (i : Nat) (v : Int32) : Bool × Int32 := (if ((p0 >>> (v &&& 31)) &&& 1) = 0 then (false, (v + 1)) else (true, v))
def t_X4_leastOf_2 (p0 : Int32) (x0_ : Int32) (k_ : Nat) : Bool × Int32 := tq_br (fun i x_ => b_X4_leastOf_2 p0 i x_) x0_ k_
def f_X4_leastOf (p0 : Int32) : Int32 := (t_X4_leastOf_2 p0 0 24).2
def q_nz (x : Int32) : Prop := (t_X4_leastOf_2 x 0 24).1 = true
set_option maxHeartbeats 4000000 in
set_option maxRecDepth 100000 in
theorem c_X4_leastOf (l : Launch) (dC : Nat → ClassId) (dI : Nat → Nat → Nat) (cI cJ cZ : ClassId) (sz : Nat) (p0 : Int32) (hnz : q_nz p0) : Met l yX4_leastOf wsX4_leastOf ({ frames := 0, cells := 0, slots := 0, locals := 0 }) (va_Pc [.int p0] (fun U => U.heap.size = sz ∧ va_P (dC, dI) vwCl [] U.heap ∧ va_K (dC, dI) vwCl [(cI, .int), (cJ, .long), (cZ, .boolean)] U ∧ va_D (fun _ => True) [] ∧ tq_E U)) (va_Qi (fun (r : Int32) (_ : Unit) => r = (f_X4_leastOf p0)) (fun (_ : Unit) t => va_P (dC, dI) vwCl [] t.heap ∧ va_K (dC, dI) vwCl [(cI, .int), (cJ, .long), (cZ, .boolean)] t ∧ va_D (va_A [] sz) []) (va_A [] sz)) 0 0 (va_A [] sz) := by
  refine Met.ofW (cc := cX4_leastOf) (maxL := 2) (ret := (some .int)) (by decide) rfl ?_
  intro p e s m args below meth c s₁ B hml hv
  obtain ⟨rfl, hsz, hP, hK, hD0, hE⟩ := hv
  have hx := B.exec
  have hb := B.bytes
  have hr := B.returns
  have hts := atoms_spec (ws := wsX4_leastOf) B.pre
  have hown : s.vm.findClass RX4 = some m.cls := findClass_of_methodNamed B.named
  have hlocks := B.notSynchronized
  subst hsz
  have hD := hD0.self (sz := s.heap.size)
  generalize hAe : va_A [] s.heap.size = A at hD ⊢
  have hA : ∀ q : Nat, s.heap.size ≤ q → A q := fun q h => by rw [← hAe]; exact Or.inr h
  have hl := lv_entry ([.int p0]) (n := 2) (Nat.le_of_ble_eq_true rfl)
  rw [lg_entry_eq]
  generalize (lg_sl ([.int p0]) ++ List.replicate (2 - (lg_sl ([.int p0])).length) Slot.unset).toArray = ls at hl ⊢
  have hl : lv_has ls 2 [(0, .int p0)] := hl
  refine tq_begin (A := A) hP (fun H locs hP hS => ?_)
  refine lv_iconst (v := 0) hx hb dX4_leastOf_0 (by decide) ?_
  refine lv_istore_n (lv' := [(1, .int 0), (0, .int p0)]) hx hb dX4_leastOf_1 rfl hl (by decide) rfl (fun ls hl => ?_)
  refine tq_loop 24 (S := Int32) (fun i x_ => t_X4_leastOf_2 p0 0 i = (false, x_)) (fun x_ => []) (fun i x_ => [(1, .int x_), (0, .int p0)]) (fun i v hi_2 hx_2 ih_2 H locs ls hP hD hS hl => ?_) 0 0 (Nat.zero_le _) rfl _ _ _ hP hD hS (lv_sub hl [0, 1] rfl)
  have hP : va_P (dC, dI) vwCl [] H := hP
  have hD : va_D A [] := hD
  have hl : lv_has ls 2 [(1, .int v), (0, .int p0)] := hl
  have hlt_2 : i < 24 := tq_br_lt hx_2 hi_2 hnz
  refine lv_iload_n hx hb dX4_leastOf_2 rfl (lv_at hl 1 rfl) ?_
  refine lv_iload_n hx hb dX4_leastOf_3 rfl (lv_at hl 0 rfl) ?_
  refine lv_ishr hx hb dX4_leastOf_4 ?_
  refine lv_iconst (v := 1) hx hb dX4_leastOf_5 (by decide) ?_
  refine lv_iand hx hb dX4_leastOf_6 ?_
  refine lv_if_ne (tgt := 16) hx hb dX4_leastOf_7 (by decide) (fun c_1 => ?_) (fun c_1 => ?_)
  · have ex_2 : t_X4_leastOf_2 p0 0 24 = (true, v) := tq_br_stop hx_2 (by show b_X4_leastOf_2 p0 i v = _; unfold b_X4_leastOf_2; rw [if_neg c_1]) hlt_2
    obtain ⟨v_2, hv_2⟩ : ∃ z9_ : Int32, z9_ = v := ⟨_, rfl⟩
    have ey_2 : v_2 = (t_X4_leastOf_2 p0 0 24).2 := by rw [hv_2, ex_2]
    have hl : lv_has ls 2 [(1, .int v_2), (0, .int p0)] := by rw [hv_2]; exact hl
    refine lv_iload_n hx hb dX4_leastOf_16 rfl (lv_at hl 0 rfl) ?_
    have e9 : f_X4_leastOf p0 = v_2 := by unfold f_X4_leastOf; rw [← ey_2]; (try dsimp only); all_goals rfl
    have hP9 : va_P (dC, dI) vwCl [] H := by exact hP.sub [] rfl
    have hD9 : va_D A [] := by exact hD.sub [] (by decide) rfl
    exact W.iret (v := v_2) hx hb hr (fun t ht hW => ⟨⟨_, (), rfl, (by rw [e9]), by rw [ht]; exact hP9, va_K.moved hW.alike hK, hD9⟩, hS.F ht⟩) hS.2.2 dX4_leastOf_17
  · refine lv_iinc (v := (v + 1)) (lv' := [(1, .int (v + 1)), (0, .int p0)]) hx hb dX4_leastOf_10 hl (k := 0) rfl rfl (by decide) rfl (fun ls hl => ?_)
    refine lv_goto (tgt := 2) hx hb dX4_leastOf_13 (by decide) ?_
    have e9 : t_X4_leastOf_2 p0 0 (i + 1) = (false, (v + 1)) := by refine (tq_br_go hx_2).trans ?_; show b_X4_leastOf_2 p0 i v = _; unfold b_X4_leastOf_2; rw [if_pos c_1]
    exact ih_2 (v + 1) hlt_2 e9 _ _ _ (hP.sub [] rfl) (hD.sub [] (by decide) rfl) hS (lv_sub hl [0, 1] rfl)
def f_X4_isBefore (mm : (Nat → Int32)) (k : Nat) (k2 : Nat) : Int32 := (if ((f_X4_bits (mm k))) = ((f_X4_bits (mm k2))) then (if ((f_X4_leastOf (mm k2))) ≤ ((f_X4_leastOf (mm k))) then 0 else 1) else (if ((f_X4_bits (mm k2))) ≤ ((f_X4_bits (mm k))) then 0 else 1))
set_option maxHeartbeats 4000000 in
set_option maxRecDepth 100000 in
theorem c_X4_isBefore (l : Launch) (dC : Nat → ClassId) (dI : Nat → Nat → Nat) (cI cJ cZ : ClassId) (aM aMf aMt aMw aMo aMr aMi aMn aMa aMe aMv aMl aMd aMdh aMdl aMod : Nat) (sz : Nat) (n1 : Int32) (rt : Int32) (ac : Int32) (sv : Int32) (hv : Int32) (md : Nat) (th : Int32) (r0 : Int64) (r1 : Int64) (r2 : Int64) (mm : (Nat → Int32)) (k : Nat) (k2 : Nat) (hmd : md ≤ 48) (hk : k < md) (hk2 : k2 < md) (hnz : ∀ j, j < md → q_nz (mm j)) : Met l yX4_isBefore wsX4_isBefore ({ frames := 1, cells := 0, slots := 0, locals := 22 }) (va_Pc [.ref aM, .int (nI k), .int (nI k2)] (fun U => U.heap.size = sz ∧ va_P (dC, dI) vwCl [(aM, .inr (4, [.int n1, .int rt, .int ac, .ref aMf, .ref aMt, .ref aMw, .ref aMo, .int sv, .int hv, .ref aMr, .ref aMi, .ref aMn, .ref aMa, .ref aMe, .ref aMv, .ref aMl, .ref aMd, .ref aMdh, .ref aMdl, .int (nI md), .ref aMod, .int th, .long r0, .long r1, .long r2])), (aMn, .inl (cI, 48, .inl mm))] U.heap ∧ va_K (dC, dI) vwCl [(cI, .int), (cJ, .long), (cZ, .boolean)] U ∧ va_D (fun _ => True) [(aM, .inr (4, [.int n1, .int rt, .int ac, .ref aMf, .ref aMt, .ref aMw, .ref aMo, .int sv, .int hv, .ref aMr, .ref aMi, .ref aMn, .ref aMa, .ref aMe, .ref aMv, .ref aMl, .ref aMd, .ref aMdh, .ref aMdl, .int (nI md), .ref aMod, .int th, .long r0, .long r1, .long r2])), (aMn, .inl (cI, 48, .inl mm))] ∧ tq_E U)) (va_Qi (fun (r : Int32) (_ : Unit) => r = (f_X4_isBefore mm k k2)) (fun (_ : Unit) t => va_P (dC, dI) vwCl [(aM, .inr (4, [.int n1, .int rt, .int ac, .ref aMf, .ref aMt, .ref aMw, .ref aMo, .int sv, .int hv, .ref aMr, .ref aMi, .ref aMn, .ref aMa, .ref aMe, .ref aMv, .ref aMl, .ref aMd, .ref aMdh, .ref aMdl, .int (nI md), .ref aMod, .int th, .long r0, .long r1, .long r2])), (aMn, .inl (cI, 48, .inl mm))] t.heap ∧ va_K (dC, dI) vwCl [(cI, .int), (cJ, .long), (cZ, .boolean)] t ∧ va_D (va_A [(aM, .inr (4, [.int n1, .int rt, .int ac, .ref aMf, .ref aMt, .ref aMw, .ref aMo, .int sv, .int hv, .ref aMr, .ref aMi, .ref aMn, .ref aMa, .ref aMe, .ref aMv, .ref aMl, .ref aMd, .ref aMdh, .ref aMdl, .int (nI md), .ref aMod, .int th, .long r0, .long r1, .long r2])), (aMn, .inl (cI, 48, .inl mm))] sz) [(aM, .inr (4, [.int n1, .int rt, .int ac, .ref aMf, .ref aMt, .ref aMw, .ref aMo, .int sv, .int hv, .ref aMr, .ref aMi, .ref aMn, .ref aMa, .ref aMe, .ref aMv, .ref aMl, .ref aMd, .ref aMdh, .ref aMdl, .int (nI md), .ref aMod, .int th, .long r0, .long r1, .long r2])), (aMn, .inl (cI, 48, .inl mm))]) (va_A [(aM, .inr (4, [.int n1, .int rt, .int ac, .ref aMf, .ref aMt, .ref aMw, .ref aMo, .int sv, .int hv, .ref aMr, .ref aMi, .ref aMn, .ref aMa, .ref aMe, .ref aMv, .ref aMl, .ref aMd, .ref aMdh, .ref aMdl, .int (nI md), .ref aMod, .int th, .long r0, .long r1, .long r2])), (aMn, .inl (cI, 48, .inl mm))] sz)) 0 0 (va_A [(aM, .inr (4, [.int n1, .int rt, .int ac, .ref aMf, .ref aMt, .ref aMw, .ref aMo, .int sv, .int hv, .ref aMr, .ref aMi, .ref aMn, .ref aMa, .ref aMe, .ref aMv, .ref aMl, .ref aMd, .ref aMdh, .ref aMdl, .int (nI md), .ref aMod, .int th, .long r0, .long r1, .long r2])), (aMn, .inl (cI, 48, .inl mm))] sz) := by
  refine Met.ofW (cc := cX4_isBefore) (maxL := 5) (ret := (some .boolean)) (by decide) rfl ?_
  intro p e s m args below meth c s₁ B hml hv
  obtain ⟨rfl, hsz, hP, hK, hD0, hE⟩ := hv
  have hx := B.exec
  have hb := B.bytes
  have hr := B.returns
  have hts := atoms_spec (ws := wsX4_isBefore) B.pre
  have hown : s.vm.findClass RX4 = some m.cls := findClass_of_methodNamed B.named
  have hlocks := B.notSynchronized
  subst hsz
  have hD := hD0.self (sz := s.heap.size)
  generalize hAe : va_A [(aM, .inr (4, [.int n1, .int rt, .int ac, .ref aMf, .ref aMt, .ref aMw, .ref aMo, .int sv, .int hv, .ref aMr, .ref aMi, .ref aMn, .ref aMa, .ref aMe, .ref aMv, .ref aMl, .ref aMd, .ref aMdh, .ref aMdl, .int (nI md), .ref aMod, .int th, .long r0, .long r1, .long r2])), (aMn, .inl (cI, 48, .inl mm))] s.heap.size = A at hD ⊢
  have hA : ∀ q : Nat, s.heap.size ≤ q → A q := fun q h => by rw [← hAe]; exact Or.inr h
  have hl := lv_entry ([.ref aM, .int (nI k), .int (nI k2)]) (n := 5) (Nat.le_of_ble_eq_true rfl)
  rw [lg_entry_eq]
  generalize (lg_sl ([.ref aM, .int (nI k), .int (nI k2)]) ++ List.replicate (5 - (lg_sl ([.ref aM, .int (nI k), .int (nI k2)])).length) Slot.unset).toArray = ls at hl ⊢
  have hl : lv_has ls 5 [(0, .ref aM), (1, .int (nI k)), (2, .int (nI k2))] := hl
  have inX4 : ∀ w ∈ wsX40, w ∈ wsX4_isBefore := by decide +kernel
  refine tq_begin (A := A) hP (fun H locs hP hS => ?_)
  refine lv_aload_n hx hb dX4_isBefore_0 rfl (lv_at hl 0 rfl) ?_
  refine va_get (D := (dC, dI)) (ci := 4) (v := .ref aMn) (C := RX4) (T := TX4) (N := 25) hx hb hts inX4 hown hK hP 0 rfl rfl 11 (by decide) (hts (.fieldLink RX4 34 "TreeOfArcsModel" "nodesOf" "[I") (by decide +kernel)) (fun _ h9 => h9) rfl dX4_isBefore_1 ?_
  refine lv_iload_n hx hb dX4_isBefore_4 rfl (lv_at hl 1 rfl) ?_
  refine tq_iald hx hb hK hP 1 0 rfl rfl k rfl (by omega) (by decide) dX4_isBefore_5 ?_
  have hPc := hP.sub (ws' := []) [] rfl
  have hDc := hD.sub (ws' := []) [] (by decide) rfl
  have hFc := va_free (wc := []) hD hS hA [] rfl
  refine va_calli (va_runS (As := [.int (mm k)]) (rest := []) ⟨hx, hb, hml, hown, hts⟩ (c_X4_bits l dC dI cI cJ cZ  H.size (mm k) ) (cwS 1 hts gX4_isBefore_X4_bits rfl rfl rfl (by decide +kernel) ⟨Nat.le_of_ble_eq_true rfl, Nat.le_of_ble_eq_true rfl⟩) ⟨fun a U g mk q => by obtain ⟨q0, q1, qP, qK, qD, qE⟩ := q; exact ⟨q0, q1, qP, va_K.moved (u := U) (U := U.calling g mk a) (Vm.Alike.refl U.vm) qK, qD, tq_E.same (u := U) rfl qE⟩, fun U hU hW => ⟨rfl, by rw [hU], by rw [hU]; exact hPc, va_K.moved hW.alike hK, hDc.weaken (fun _ _ _ _ => trivial), hE.warm hW⟩⟩ rfl rfl hl.1 rfl (lv_room (Nat.le_of_ble_eq_true rfl)) dX4_isBefore_6 ⟨(Nat.zero_le _), (Nat.zero_le _)⟩) hS (fun q _ h => hFc q h) hFc (fun r_1 u t H1 locs ht hvm hw9 hB hz1 hk1 hS => ?_)
  obtain ⟨hP1, hK1, hD1⟩ := hB
  rw [ht] at hP1
  obtain ⟨hP, hD⟩ := va_join (wr := [(aM, .inr (4, [.int n1, .int rt, .int ac, .ref aMf, .ref aMt, .ref aMw, .ref aMo, .int sv, .int hv, .ref aMr, .ref aMi, .ref aMn, .ref aMa, .ref aMe, .ref aMv, .ref aMl, .ref aMd, .ref aMdh, .ref aMdl, .int (nI md), .ref aMod, .int th, .long r0, .long r1, .long r2])), (aMn, .inl (cI, 48, .inl mm))]) (w1 := []) hP hD [] [0, 1] rfl rfl (by decide) (by decide) hk1 hFc hP1 hD1
  generalize H1 = H at hP hS ⊢
  have hP : va_P (dC, dI) vwCl [(aM, .inr (4, [.int n1, .int rt, .int ac, .ref aMf, .ref aMt, .ref aMw, .ref aMo, .int sv, .int hv, .ref aMr, .ref aMi, .ref aMn, .ref aMa, .ref aMe, .ref aMv, .ref aMl, .ref aMd, .ref aMdh, .ref aMdl, .int (nI md), .ref aMod, .int th, .long r0, .long r1, .long r2])), (aMn, .inl (cI, 48, .inl mm))] H := hP
  have hD : va_D A [(aM, .inr (4, [.int n1, .int rt, .int ac, .ref aMf, .ref aMt, .ref aMw, .ref aMo, .int sv, .int hv, .ref aMr, .ref aMi, .ref aMn, .ref aMa, .ref aMe, .ref aMv, .ref aMl, .ref aMd, .ref aMdh, .ref aMdl, .int (nI md), .ref aMod, .int th, .long r0, .long r1, .long r2])), (aMn, .inl (cI, 48, .inl mm))] := hD
  subst hw9
  refine lv_istore_n (lv' := [(3, .int ((f_X4_bits (mm k)))), (0, .ref aM), (1, .int (nI k)), (2, .int (nI k2))]) hx hb dX4_isBefore_9 rfl hl (by decide) rfl (fun ls hl => ?_)
  refine lv_aload_n hx hb dX4_isBefore_10 rfl (lv_at hl 1 rfl) ?_
  refine va_get (D := (dC, dI)) (ci := 4) (v := .ref aMn) (C := RX4) (T := TX4) (N := 25) hx hb hts inX4 hown hK hP 0 rfl rfl 11 (by decide) (hts (.fieldLink RX4 34 "TreeOfArcsModel" "nodesOf" "[I") (by decide +kernel)) (fun _ h9 => h9) rfl dX4_isBefore_11 ?_
  refine lv_iload_n hx hb dX4_isBefore_14 rfl (lv_at hl 3 rfl) ?_
  refine tq_iald hx hb hK hP 1 0 rfl rfl k2 rfl (by omega) (by decide) dX4_isBefore_15 ?_
  have hPc := hP.sub (ws' := []) [] rfl
  have hDc := hD.sub (ws' := []) [] (by decide) rfl
  have hFc := va_free (wc := []) hD hS hA [] rfl
  refine va_calli (va_runS (As := [.int (mm k2)]) (rest := []) ⟨hx, hb, hml, hown, hts⟩ (c_X4_bits l dC dI cI cJ cZ  H.size (mm k2) ) (cwS 1 hts gX4_isBefore_X4_bits rfl rfl rfl (by decide +kernel) ⟨Nat.le_of_ble_eq_true rfl, Nat.le_of_ble_eq_true rfl⟩) ⟨fun a U g mk q => by obtain ⟨q0, q1, qP, qK, qD, qE⟩ := q; exact ⟨q0, q1, qP, va_K.moved (u := U) (U := U.calling g mk a) (Vm.Alike.refl U.vm) qK, qD, tq_E.same (u := U) rfl qE⟩, fun U hU hW => ⟨rfl, by rw [hU], by rw [hU]; exact hPc, va_K.moved hW.alike hK, hDc.weaken (fun _ _ _ _ => trivial), hE.warm hW⟩⟩ rfl rfl hl.1 rfl (lv_room (Nat.le_of_ble_eq_true rfl)) dX4_isBefore_16 ⟨(Nat.zero_le _), (Nat.zero_le _)⟩) hS (fun q _ h => hFc q h) hFc (fun r_2 u t H1 locs ht hvm hw9 hB hz1 hk1 hS => ?_)
  obtain ⟨hP1, hK1, hD1⟩ := hB
  rw [ht] at hP1
  obtain ⟨hP, hD⟩ := va_join (wr := [(aM, .inr (4, [.int n1, .int rt, .int ac, .ref aMf, .ref aMt, .ref aMw, .ref aMo, .int sv, .int hv, .ref aMr, .ref aMi, .ref aMn, .ref aMa, .ref aMe, .ref aMv, .ref aMl, .ref aMd, .ref aMdh, .ref aMdl, .int (nI md), .ref aMod, .int th, .long r0, .long r1, .long r2])), (aMn, .inl (cI, 48, .inl mm))]) (w1 := []) hP hD [] [0, 1] rfl rfl (by decide) (by decide) hk1 hFc hP1 hD1
  generalize H1 = H at hP hS ⊢
  have hP : va_P (dC, dI) vwCl [(aM, .inr (4, [.int n1, .int rt, .int ac, .ref aMf, .ref aMt, .ref aMw, .ref aMo, .int sv, .int hv, .ref aMr, .ref aMi, .ref aMn, .ref aMa, .ref aMe, .ref aMv, .ref aMl, .ref aMd, .ref aMdh, .ref aMdl, .int (nI md), .ref aMod, .int th, .long r0, .long r1, .long r2])), (aMn, .inl (cI, 48, .inl mm))] H := hP
  have hD : va_D A [(aM, .inr (4, [.int n1, .int rt, .int ac, .ref aMf, .ref aMt, .ref aMw, .ref aMo, .int sv, .int hv, .ref aMr, .ref aMi, .ref aMn, .ref aMa, .ref aMe, .ref aMv, .ref aMl, .ref aMd, .ref aMdh, .ref aMdl, .int (nI md), .ref aMod, .int th, .long r0, .long r1, .long r2])), (aMn, .inl (cI, 48, .inl mm))] := hD
  subst hw9
  refine lv_istore (lv' := [(4, .int ((f_X4_bits (mm k2)))), (3, .int ((f_X4_bits (mm k)))), (0, .ref aM), (1, .int (nI k)), (2, .int (nI k2))]) hx hb dX4_isBefore_19 hl (by decide) rfl (fun ls hl => ?_)
  refine lv_iload_n hx hb dX4_isBefore_21 rfl (lv_at hl 1 rfl) ?_
  refine lv_iload hx hb dX4_isBefore_22 (lv_at hl 0 rfl) ?_
  refine lv_icmp_eq (tgt := 41) hx hb dX4_isBefore_24 (by decide) (fun c_3 => ?_) (fun c_3 => ?_)
  · refine lv_aload_n hx hb dX4_isBefore_41 rfl (lv_at hl 2 rfl) ?_
    refine va_get (D := (dC, dI)) (ci := 4) (v := .ref aMn) (C := RX4) (T := TX4) (N := 25) hx hb hts inX4 hown hK hP 0 rfl rfl 11 (by decide) (hts (.fieldLink RX4 34 "TreeOfArcsModel" "nodesOf" "[I") (by decide +kernel)) (fun _ h9 => h9) rfl dX4_isBefore_42 ?_
    refine lv_iload_n hx hb dX4_isBefore_45 rfl (lv_at hl 3 rfl) ?_
    refine tq_iald hx hb hK hP 1 0 rfl rfl k rfl (by omega) (by decide) dX4_isBefore_46 ?_
    have hPc := hP.sub (ws' := []) [] rfl
    have hDc := hD.sub (ws' := []) [] (by decide) rfl
    have hFc := va_free (wc := []) hD hS hA [] rfl
    refine va_calli (va_runS (As := [.int (mm k)]) (rest := []) ⟨hx, hb, hml, hown, hts⟩ (c_X4_leastOf l dC dI cI cJ cZ  H.size (mm k) (hnz k hk)) (cwS 1 hts gX4_isBefore_X4_leastOf rfl rfl rfl (by decide +kernel) ⟨Nat.le_of_ble_eq_true rfl, Nat.le_of_ble_eq_true rfl⟩) ⟨fun a U g mk q => by obtain ⟨q0, q1, qP, qK, qD, qE⟩ := q; exact ⟨q0, q1, qP, va_K.moved (u := U) (U := U.calling g mk a) (Vm.Alike.refl U.vm) qK, qD, tq_E.same (u := U) rfl qE⟩, fun U hU hW => ⟨rfl, by rw [hU], by rw [hU]; exact hPc, va_K.moved hW.alike hK, hDc.weaken (fun _ _ _ _ => trivial), hE.warm hW⟩⟩ rfl rfl hl.1 rfl (lv_room (Nat.le_of_ble_eq_true rfl)) dX4_isBefore_47 ⟨(Nat.zero_le _), (Nat.zero_le _)⟩) hS (fun q _ h => hFc q h) hFc (fun r_4 u t H1 locs ht hvm hw9 hB hz1 hk1 hS => ?_)
    obtain ⟨hP1, hK1, hD1⟩ := hB
    rw [ht] at hP1
    obtain ⟨hP, hD⟩ := va_join (wr := [(aM, .inr (4, [.int n1, .int rt, .int ac, .ref aMf, .ref aMt, .ref aMw, .ref aMo, .int sv, .int hv, .ref aMr, .ref aMi, .ref aMn, .ref aMa, .ref aMe, .ref aMv, .ref aMl, .ref aMd, .ref aMdh, .ref aMdl, .int (nI md), .ref aMod, .int th, .long r0, .long r1, .long r2])), (aMn, .inl (cI, 48, .inl mm))]) (w1 := []) hP hD [] [0, 1] rfl rfl (by decide) (by decide) hk1 hFc hP1 hD1
    generalize H1 = H at hP hS ⊢
    have hP : va_P (dC, dI) vwCl [(aM, .inr (4, [.int n1, .int rt, .int ac, .ref aMf, .ref aMt, .ref aMw, .ref aMo, .int sv, .int hv, .ref aMr, .ref aMi, .ref aMn, .ref aMa, .ref aMe, .ref aMv, .ref aMl, .ref aMd, .ref aMdh, .ref aMdl, .int (nI md), .ref aMod, .int th, .long r0, .long r1, .long r2])), (aMn, .inl (cI, 48, .inl mm))] H := hP
    have hD : va_D A [(aM, .inr (4, [.int n1, .int rt, .int ac, .ref aMf, .ref aMt, .ref aMw, .ref aMo, .int sv, .int hv, .ref aMr, .ref aMi, .ref aMn, .ref aMa, .ref aMe, .ref aMv, .ref aMl, .ref aMd, .ref aMdh, .ref aMdl, .int (nI md), .ref aMod, .int th, .long r0, .long r1, .long r2])), (aMn, .inl (cI, 48, .inl mm))] := hD
    subst hw9
    refine lv_aload_n hx hb dX4_isBefore_50 rfl (lv_at hl 2 rfl) ?_
    refine va_get (D := (dC, dI)) (ci := 4) (v := .ref aMn) (C := RX4) (T := TX4) (N := 25) hx hb hts inX4 hown hK hP 0 rfl rfl 11 (by decide) (hts (.fieldLink RX4 34 "TreeOfArcsModel" "nodesOf" "[I") (by decide +kernel)) (fun _ h9 => h9) rfl dX4_isBefore_51 ?_
    refine lv_iload_n hx hb dX4_isBefore_54 rfl (lv_at hl 4 rfl) ?_
    refine tq_iald hx hb hK hP 1 0 rfl rfl k2 rfl (by omega) (by decide) dX4_isBefore_55 ?_
    have hPc := hP.sub (ws' := []) [] rfl
    have hDc := hD.sub (ws' := []) [] (by decide) rfl
    have hFc := va_free (wc := []) hD hS hA [] rfl
    refine va_calli (va_runS (As := [.int (mm k2)]) (rest := [.int ((f_X4_leastOf (mm k)))]) ⟨hx, hb, hml, hown, hts⟩ (c_X4_leastOf l dC dI cI cJ cZ  H.size (mm k2) (hnz k2 hk2)) (cwS 1 hts gX4_isBefore_X4_leastOf rfl rfl rfl (by decide +kernel) ⟨Nat.le_of_ble_eq_true rfl, Nat.le_of_ble_eq_true rfl⟩) ⟨fun a U g mk q => by obtain ⟨q0, q1, qP, qK, qD, qE⟩ := q; exact ⟨q0, q1, qP, va_K.moved (u := U) (U := U.calling g mk a) (Vm.Alike.refl U.vm) qK, qD, tq_E.same (u := U) rfl qE⟩, fun U hU hW => ⟨rfl, by rw [hU], by rw [hU]; exact hPc, va_K.moved hW.alike hK, hDc.weaken (fun _ _ _ _ => trivial), hE.warm hW⟩⟩ rfl rfl hl.1 rfl (lv_room (Nat.le_of_ble_eq_true rfl)) dX4_isBefore_56 ⟨(Nat.zero_le _), (Nat.zero_le _)⟩) hS (fun q _ h => hFc q h) hFc (fun r_5 u t H1 locs ht hvm hw9 hB hz1 hk1 hS => ?_)
    obtain ⟨hP1, hK1, hD1⟩ := hB
    rw [ht] at hP1
    obtain ⟨hP, hD⟩ := va_join (wr := [(aM, .inr (4, [.int n1, .int rt, .int ac, .ref aMf, .ref aMt, .ref aMw, .ref aMo, .int sv, .int hv, .ref aMr, .ref aMi, .ref aMn, .ref aMa, .ref aMe, .ref aMv, .ref aMl, .ref aMd, .ref aMdh, .ref aMdl, .int (nI md), .ref aMod, .int th, .long r0, .long r1, .long r2])), (aMn, .inl (cI, 48, .inl mm))]) (w1 := []) hP hD [] [0, 1] rfl rfl (by decide) (by decide) hk1 hFc hP1 hD1
    generalize H1 = H at hP hS ⊢
    have hP : va_P (dC, dI) vwCl [(aM, .inr (4, [.int n1, .int rt, .int ac, .ref aMf, .ref aMt, .ref aMw, .ref aMo, .int sv, .int hv, .ref aMr, .ref aMi, .ref aMn, .ref aMa, .ref aMe, .ref aMv, .ref aMl, .ref aMd, .ref aMdh, .ref aMdl, .int (nI md), .ref aMod, .int th, .long r0, .long r1, .long r2])), (aMn, .inl (cI, 48, .inl mm))] H := hP
    have hD : va_D A [(aM, .inr (4, [.int n1, .int rt, .int ac, .ref aMf, .ref aMt, .ref aMw, .ref aMo, .int sv, .int hv, .ref aMr, .ref aMi, .ref aMn, .ref aMa, .ref aMe, .ref aMv, .ref aMl, .ref aMd, .ref aMdh, .ref aMdl, .int (nI md), .ref aMod, .int th, .long r0, .long r1, .long r2])), (aMn, .inl (cI, 48, .inl mm))] := hD
    subst hw9
    refine lv_icmp_ge (tgt := 66) hx hb dX4_isBefore_59 (by decide) (fun c_6 => ?_) (fun c_6 => ?_)
    · refine lv_iconst (v := 0) hx hb dX4_isBefore_66 (by decide) ?_
      have e9 : f_X4_isBefore mm k k2 = 0 := by unfold f_X4_isBefore; rw [if_pos c_3, if_pos c_6]
      have hP9 : va_P (dC, dI) vwCl [(aM, .inr (4, [.int n1, .int rt, .int ac, .ref aMf, .ref aMt, .ref aMw, .ref aMo, .int sv, .int hv, .ref aMr, .ref aMi, .ref aMn, .ref aMa, .ref aMe, .ref aMv, .ref aMl, .ref aMd, .ref aMdh, .ref aMdl, .int (nI md), .ref aMod, .int th, .long r0, .long r1, .long r2])), (aMn, .inl (cI, 48, .inl mm))] H := by exact hP.sub [0, 1] rfl
      have hD9 : va_D A [(aM, .inr (4, [.int n1, .int rt, .int ac, .ref aMf, .ref aMt, .ref aMw, .ref aMo, .int sv, .int hv, .ref aMr, .ref aMi, .ref aMn, .ref aMa, .ref aMe, .ref aMv, .ref aMl, .ref aMd, .ref aMdh, .ref aMdl, .int (nI md), .ref aMod, .int th, .long r0, .long r1, .long r2])), (aMn, .inl (cI, 48, .inl mm))] := by exact hD.sub [0, 1] (by decide) rfl
      exact W.zret (v := 0) hx hb hr rfl (fun t ht hW => ⟨⟨_, (), rfl, (by rw [e9]), by rw [ht]; exact hP9, va_K.moved hW.alike hK, hD9⟩, hS.F ht⟩) hS.2.2 dX4_isBefore_67
    · refine lv_iconst (v := 1) hx hb dX4_isBefore_62 (by decide) ?_
      refine lv_goto (tgt := 67) hx hb dX4_isBefore_63 (by decide) ?_
      have e9 : f_X4_isBefore mm k k2 = 1 := by unfold f_X4_isBefore; rw [if_pos c_3, if_neg c_6]
      have hP9 : va_P (dC, dI) vwCl [(aM, .inr (4, [.int n1, .int rt, .int ac, .ref aMf, .ref aMt, .ref aMw, .ref aMo, .int sv, .int hv, .ref aMr, .ref aMi, .ref aMn, .ref aMa, .ref aMe, .ref aMv, .ref aMl, .ref aMd, .ref aMdh, .ref aMdl, .int (nI md), .ref aMod, .int th, .long r0, .long r1, .long r2])), (aMn, .inl (cI, 48, .inl mm))] H := by exact hP.sub [0, 1] rfl
      have hD9 : va_D A [(aM, .inr (4, [.int n1, .int rt, .int ac, .ref aMf, .ref aMt, .ref aMw, .ref aMo, .int sv, .int hv, .ref aMr, .ref aMi, .ref aMn, .ref aMa, .ref aMe, .ref aMv, .ref aMl, .ref aMd, .ref aMdh, .ref aMdl, .int (nI md), .ref aMod, .int th, .long r0, .long r1, .long r2])), (aMn, .inl (cI, 48, .inl mm))] := by exact hD.sub [0, 1] (by decide) rfl
      exact W.zret (v := 1) hx hb hr rfl (fun t ht hW => ⟨⟨_, (), rfl, (by rw [e9]), by rw [ht]; exact hP9, va_K.moved hW.alike hK, hD9⟩, hS.F ht⟩) hS.2.2 dX4_isBefore_67
  · refine lv_iload_n hx hb dX4_isBefore_27 rfl (lv_at hl 1 rfl) ?_
    refine lv_iload hx hb dX4_isBefore_28 (lv_at hl 0 rfl) ?_
    refine lv_icmp_ge (tgt := 37) hx hb dX4_isBefore_30 (by decide) (fun c_7 => ?_) (fun c_7 => ?_)
    · refine lv_iconst (v := 0) hx hb dX4_isBefore_37 (by decide) ?_
      refine lv_goto (tgt := 67) hx hb dX4_isBefore_38 (by decide) ?_
      have e9 : f_X4_isBefore mm k k2 = 0 := by unfold f_X4_isBefore; rw [if_neg c_3, if_pos c_7]
      have hP9 : va_P (dC, dI) vwCl [(aM, .inr (4, [.int n1, .int rt, .int ac, .ref aMf, .ref aMt, .ref aMw, .ref aMo, .int sv, .int hv, .ref aMr, .ref aMi, .ref aMn, .ref aMa, .ref aMe, .ref aMv, .ref aMl, .ref aMd, .ref aMdh, .ref aMdl, .int (nI md), .ref aMod, .int th, .long r0, .long r1, .long r2])), (aMn, .inl (cI, 48, .inl mm))] H := by exact hP.sub [0, 1] rfl
      have hD9 : va_D A [(aM, .inr (4, [.int n1, .int rt, .int ac, .ref aMf, .ref aMt, .ref aMw, .ref aMo, .int sv, .int hv, .ref aMr, .ref aMi, .ref aMn, .ref aMa, .ref aMe, .ref aMv, .ref aMl, .ref aMd, .ref aMdh, .ref aMdl, .int (nI md), .ref aMod, .int th, .long r0, .long r1, .long r2])), (aMn, .inl (cI, 48, .inl mm))] := by exact hD.sub [0, 1] (by decide) rfl
      exact W.zret (v := 0) hx hb hr rfl (fun t ht hW => ⟨⟨_, (), rfl, (by rw [e9]), by rw [ht]; exact hP9, va_K.moved hW.alike hK, hD9⟩, hS.F ht⟩) hS.2.2 dX4_isBefore_67
    · refine lv_iconst (v := 1) hx hb dX4_isBefore_33 (by decide) ?_
      refine lv_goto (tgt := 67) hx hb dX4_isBefore_34 (by decide) ?_
      have e9 : f_X4_isBefore mm k k2 = 1 := by unfold f_X4_isBefore; rw [if_neg c_3, if_neg c_7]
      have hP9 : va_P (dC, dI) vwCl [(aM, .inr (4, [.int n1, .int rt, .int ac, .ref aMf, .ref aMt, .ref aMw, .ref aMo, .int sv, .int hv, .ref aMr, .ref aMi, .ref aMn, .ref aMa, .ref aMe, .ref aMv, .ref aMl, .ref aMd, .ref aMdh, .ref aMdl, .int (nI md), .ref aMod, .int th, .long r0, .long r1, .long r2])), (aMn, .inl (cI, 48, .inl mm))] H := by exact hP.sub [0, 1] rfl
      have hD9 : va_D A [(aM, .inr (4, [.int n1, .int rt, .int ac, .ref aMf, .ref aMt, .ref aMw, .ref aMo, .int sv, .int hv, .ref aMr, .ref aMi, .ref aMn, .ref aMa, .ref aMe, .ref aMv, .ref aMl, .ref aMd, .ref aMdh, .ref aMdl, .int (nI md), .ref aMod, .int th, .long r0, .long r1, .long r2])), (aMn, .inl (cI, 48, .inl mm))] := by exact hD.sub [0, 1] (by decide) rfl
      exact W.zret (v := 1) hx hb hr rfl (fun t ht hW => ⟨⟨_, (), rfl, (by rw [e9]), by rw [ht]; exact hP9, va_K.moved hW.alike hK, hD9⟩, hS.F ht⟩) hS.2.2 dX4_isBefore_67
def b_X4_number_12 (mm : (Nat → Int32)) (i : Nat) (j : Nat) (kk : Nat) (y : (Nat → Int32)) : Bool × Nat × (Nat → Int32) := (if (nI kk) ≤ 0 then (true, (kk, y)) else (if ((f_X4_isBefore mm i (tq_x (y (kk - 1))))) = 0 then (true, (kk, y)) else (false, ((kk - 1), (upd y kk (y (kk - 1)))))))
def t_X4_number_12 (mm : (Nat → Int32)) (i : Nat) (x0_ : Nat × (Nat → Int32)) (k_ : Nat) : Bool × Nat × (Nat → Int32) := tq_br (fun j x_ => b_X4_number_12 mm i j x_.1 x_.2) x0_ k_
def b_X4_number_2 (mm : (Nat → Int32)) (i : Nat) (z : (Nat → Int32)) : (Nat → Int32) := (upd (t_X4_number_12 mm i (i, z) 48).2.2 (t_X4_number_12 mm i (i, z) 48).2.1 (nI i))
def t_X4_number_2 (mm : (Nat → Int32)) (x0_ : (Nat → Int32)) (k_ : Nat) : (Nat → Int32) := tq_it (fun i x_ => b_X4_number_2 mm i x_) x0_ k_
def f_X4_number (md : Nat) (mm : (Nat → Int32)) (od : (Nat → Int32)) : (Nat → Int32) := (t_X4_number_2 mm od md)
set_option maxHeartbeats 4000000 in
set_option maxRecDepth 100000 in
theorem c_X4_number (l : Launch) (dC : Nat → ClassId) (dI : Nat → Nat → Nat) (cI cJ cZ : ClassId) (aM aMf aMt aMw aMo aMr aMi aMn aMa aMe aMv aMl aMd aMdh aMdl aMod : Nat) (sz : Nat) (n1 : Int32) (rt : Int32) (ac : Int32) (sv : Int32) (hv : Int32) (md : Nat) (th : Int32) (r0 : Int64) (r1 : Int64) (r2 : Int64) (mm : (Nat → Int32)) (od : (Nat → Int32)) (hmd : md ≤ 48) (hnz : ∀ j, j < md → q_nz (mm j)) : Met l yX4_number wsX4_number ({ frames := 2, cells := 0, slots := 0, locals := 46 }) (va_Pc [.ref aM] (fun U => U.heap.size = sz ∧ va_P (dC, dI) vwCl [(aM, .inr (4, [.int n1, .int rt, .int ac, .ref aMf, .ref aMt, .ref aMw, .ref aMo, .int sv, .int hv, .ref aMr, .ref aMi, .ref aMn, .ref aMa, .ref aMe, .ref aMv, .ref aMl, .ref aMd, .ref aMdh, .ref aMdl, .int (nI md), .ref aMod, .int th, .long r0, .long r1, .long r2])), (aMn, .inl (cI, 48, .inl mm)), (aMod, .inl (cI, 48, .inl od))] U.heap ∧ va_K (dC, dI) vwCl [(cI, .int), (cJ, .long), (cZ, .boolean)] U ∧ va_D (fun _ => True) [(aM, .inr (4, [.int n1, .int rt, .int ac, .ref aMf, .ref aMt, .ref aMw, .ref aMo, .int sv, .int hv, .ref aMr, .ref aMi, .ref aMn, .ref aMa, .ref aMe, .ref aMv, .ref aMl, .ref aMd, .ref aMdh, .ref aMdl, .int (nI md), .ref aMod, .int th, .long r0, .long r1, .long r2])), (aMn, .inl (cI, 48, .inl mm)), (aMod, .inl (cI, 48, .inl od))] ∧ tq_E U)) (va_Qv (fun (_ : Unit) => True) (fun (_ : Unit) t => va_P (dC, dI) vwCl [(aM, .inr (4, [.int n1, .int rt, .int ac, .ref aMf, .ref aMt, .ref aMw, .ref aMo, .int sv, .int hv, .ref aMr, .ref aMi, .ref aMn, .ref aMa, .ref aMe, .ref aMv, .ref aMl, .ref aMd, .ref aMdh, .ref aMdl, .int (nI md), .ref aMod, .int th, .long r0, .long r1, .long r2])), (aMn, .inl (cI, 48, .inl mm)), (aMod, .inl (cI, 48, .inl ((f_X4_number md mm od))))] t.heap ∧ va_K (dC, dI) vwCl [(cI, .int), (cJ, .long), (cZ, .boolean)] t ∧ va_D (va_A [(aM, .inr (4, [.int n1, .int rt, .int ac, .ref aMf, .ref aMt, .ref aMw, .ref aMo, .int sv, .int hv, .ref aMr, .ref aMi, .ref aMn, .ref aMa, .ref aMe, .ref aMv, .ref aMl, .ref aMd, .ref aMdh, .ref aMdl, .int (nI md), .ref aMod, .int th, .long r0, .long r1, .long r2])), (aMn, .inl (cI, 48, .inl mm)), (aMod, .inl (cI, 48, .inl od))] sz) [(aM, .inr (4, [.int n1, .int rt, .int ac, .ref aMf, .ref aMt, .ref aMw, .ref aMo, .int sv, .int hv, .ref aMr, .ref aMi, .ref aMn, .ref aMa, .ref aMe, .ref aMv, .ref aMl, .ref aMd, .ref aMdh, .ref aMdl, .int (nI md), .ref aMod, .int th, .long r0, .long r1, .long r2])), (aMn, .inl (cI, 48, .inl mm)), (aMod, .inl (cI, 48, .inl ((f_X4_number md mm od))))]) (va_A [(aM, .inr (4, [.int n1, .int rt, .int ac, .ref aMf, .ref aMt, .ref aMw, .ref aMo, .int sv, .int hv, .ref aMr, .ref aMi, .ref aMn, .ref aMa, .ref aMe, .ref aMv, .ref aMl, .ref aMd, .ref aMdh, .ref aMdl, .int (nI md), .ref aMod, .int th, .long r0, .long r1, .long r2])), (aMn, .inl (cI, 48, .inl mm)), (aMod, .inl (cI, 48, .inl od))] sz)) 0 0 (va_A [(aM, .inr (4, [.int n1, .int rt, .int ac, .ref aMf, .ref aMt, .ref aMw, .ref aMo, .int sv, .int hv, .ref aMr, .ref aMi, .ref aMn, .ref aMa, .ref aMe, .ref aMv, .ref aMl, .ref aMd, .ref aMdh, .ref aMdl, .int (nI md), .ref aMod, .int th, .long r0, .long r1, .long r2])), (aMn, .inl (cI, 48, .inl mm)), (aMod, .inl (cI, 48, .inl od))] sz) := by
  refine Met.ofW (cc := cX4_number) (maxL := 3) (ret := none) (by decide) rfl ?_
  intro p e s m args below meth c s₁ B hml hv
  obtain ⟨rfl, hsz, hP, hK, hD0, hE⟩ := hv
  have hx := B.exec
  have hb := B.bytes
  have hr := B.returns
  have hts := atoms_spec (ws := wsX4_number) B.pre
  have hown : s.vm.findClass RX4 = some m.cls := findClass_of_methodNamed B.named
  have hlocks := B.notSynchronized
  subst hsz
  have hD := hD0.self (sz := s.heap.size)
  generalize hAe : va_A [(aM, .inr (4, [.int n1, .int rt, .int ac, .ref aMf, .ref aMt, .ref aMw, .ref aMo, .int sv, .int hv, .ref aMr, .ref aMi, .ref aMn, .ref aMa, .ref aMe, .ref aMv, .ref aMl, .ref aMd, .ref aMdh, .ref aMdl, .int (nI md), .ref aMod, .int th, .long r0, .long r1, .long r2])), (aMn, .inl (cI, 48, .inl mm)), (aMod, .inl (cI, 48, .inl od))] s.heap.size = A at hD ⊢
  have hA : ∀ q : Nat, s.heap.size ≤ q → A q := fun q h => by rw [← hAe]; exact Or.inr h
  have hl := lv_entry ([.ref aM]) (n := 3) (Nat.le_of_ble_eq_true rfl)
  rw [lg_entry_eq]
  generalize (lg_sl ([.ref aM]) ++ List.replicate (3 - (lg_sl ([.ref aM])).length) Slot.unset).toArray = ls at hl ⊢
  have hl : lv_has ls 3 [(0, .ref aM)] := hl
  have inX4 : ∀ w ∈ wsX40, w ∈ wsX4_number := by decide +kernel
  refine tq_begin (A := A) hP (fun H locs hP hS => ?_)
  refine lv_iconst (v := 0) hx hb dX4_number_0 (by decide) ?_
  refine lv_istore_n (lv' := [(1, .int 0), (0, .ref aM)]) hx hb dX4_number_1 rfl hl (by decide) rfl (fun ls hl => ?_)
  refine tq_loop md (S := (Nat → Int32)) (fun i x_ => t_X4_number_2 mm od i = x_ ∧ (∀ q, q < i → tq_r md (x_ q))) (fun x_ => [(aM, .inr (4, [.int n1, .int rt, .int ac, .ref aMf, .ref aMt, .ref aMw, .ref aMo, .int sv, .int hv, .ref aMr, .ref aMi, .ref aMn, .ref aMa, .ref aMe, .ref aMv, .ref aMl, .ref aMd, .ref aMdh, .ref aMdl, .int (nI md), .ref aMod, .int th, .long r0, .long r1, .long r2])), (aMn, .inl (cI, 48, .inl mm)), (aMod, .inl (cI, 48, .inl x_))]) (fun i x_ => [(1, .int (nI i)), (0, .ref aM)]) (fun i z hi_2 hx_2 ih_2 H locs ls hP hD hS hl => ?_) 0 od (Nat.zero_le _) ⟨rfl, (fun q h => absurd h (by omega))⟩ _ _ _ hP hD hS (lv_sub hl [0, 1] rfl)
  have hP : va_P (dC, dI) vwCl [(aM, .inr (4, [.int n1, .int rt, .int ac, .ref aMf, .ref aMt, .ref aMw, .ref aMo, .int sv, .int hv, .ref aMr, .ref aMi, .ref aMn, .ref aMa, .ref aMe, .ref aMv, .ref aMl, .ref aMd, .ref aMdh, .ref aMdl, .int (nI md), .ref aMod, .int th, .long r0, .long r1, .long r2])), (aMn, .inl (cI, 48, .inl mm)), (aMod, .inl (cI, 48, .inl z))] H := hP
  have hD : va_D A [(aM, .inr (4, [.int n1, .int rt, .int ac, .ref aMf, .ref aMt, .ref aMw, .ref aMo, .int sv, .int hv, .ref aMr, .ref aMi, .ref aMn, .ref aMa, .ref aMe, .ref aMv, .ref aMl, .ref aMd, .ref aMdh, .ref aMdl, .int (nI md), .ref aMod, .int th, .long r0, .long r1, .long r2])), (aMn, .inl (cI, 48, .inl mm)), (aMod, .inl (cI, 48, .inl z))] := hD
  have hl : lv_has ls 3 [(1, .int (nI i)), (0, .ref aM)] := hl
  have iv_2 : (∀ q, q < i → tq_r md (z q)) := hx_2.2
  have hx_2 := hx_2.1
  refine lv_iload_n hx hb dX4_number_2 rfl (lv_at hl 0 rfl) ?_
  refine lv_aload_n hx hb dX4_number_3 rfl (lv_at hl 1 rfl) ?_
  refine va_get (D := (dC, dI)) (ci := 4) (v := .int (nI md)) (C := RX4) (T := TX4) (N := 25) hx hb hts inX4 hown hK hP 0 rfl rfl 19 (by decide) (hts (.fieldLink RX4 77 "TreeOfArcsModel" "made" "I") (by decide +kernel)) (fun _ h9 => h9) rfl dX4_number_4 ?_
  refine lv_icmp_ge (tgt := 65) hx hb dX4_number_7 (by decide) (fun c_1 => ?_) (fun c_1 => ?_)
  · have hiN_2 : i = md := Nat.le_antisymm hi_2 (tq_ge c_1 (by omega) (by omega))
    rw [hiN_2] at hx_2
    have ey_2 : z = (t_X4_number_2 mm od md) := hx_2.symm
    have e9 : f_X4_number md mm od = z := by unfold f_X4_number; rw [← ey_2]; (try dsimp only); all_goals rfl
    have hP9 : va_P (dC, dI) vwCl [(aM, .inr (4, [.int n1, .int rt, .int ac, .ref aMf, .ref aMt, .ref aMw, .ref aMo, .int sv, .int hv, .ref aMr, .ref aMi, .ref aMn, .ref aMa, .ref aMe, .ref aMv, .ref aMl, .ref aMd, .ref aMdh, .ref aMdl, .int (nI md), .ref aMod, .int th, .long r0, .long r1, .long r2])), (aMn, .inl (cI, 48, .inl mm)), (aMod, .inl (cI, 48, .inl ((f_X4_number md mm od))))] H := by rw [e9]; exact hP.sub [0, 1, 2] rfl
    have hD9 : va_D A [(aM, .inr (4, [.int n1, .int rt, .int ac, .ref aMf, .ref aMt, .ref aMw, .ref aMo, .int sv, .int hv, .ref aMr, .ref aMi, .ref aMn, .ref aMa, .ref aMe, .ref aMv, .ref aMl, .ref aMd, .ref aMdh, .ref aMdl, .int (nI md), .ref aMod, .int th, .long r0, .long r1, .long r2])), (aMn, .inl (cI, 48, .inl mm)), (aMod, .inl (cI, 48, .inl ((f_X4_number md mm od))))] := by rw [e9]; exact hD.sub [0, 1, 2] (by decide) rfl
    exact W.vret hx hb hr (fun t ht hW => ⟨⟨(), rfl, trivial, by rw [ht]; exact hP9, va_K.moved hW.alike hK, hD9⟩, hS.F ht⟩) hS.2.2 dX4_number_65
  · have hlt_2 : i < md := tq_lt c_1 (by omega) (by omega)
    refine lv_iload_n hx hb dX4_number_10 rfl (lv_at hl 0 rfl) ?_
    refine lv_istore_n (lv' := [(2, .int (nI i)), (1, .int (nI i)), (0, .ref aM)]) hx hb dX4_number_11 rfl hl (by decide) rfl (fun ls hl => ?_)
    refine tq_loop 48 (S := Nat × (Nat → Int32)) (fun j x_ => t_X4_number_12 mm i (i, z) j = (false, x_) ∧ x_.1 + j = i ∧ (∀ q, q ≤ i → q ≠ x_.1 → tq_r md (x_.2 q))) (fun x_ => [(aM, .inr (4, [.int n1, .int rt, .int ac, .ref aMf, .ref aMt, .ref aMw, .ref aMo, .int sv, .int hv, .ref aMr, .ref aMi, .ref aMn, .ref aMa, .ref aMe, .ref aMv, .ref aMl, .ref aMd, .ref aMdh, .ref aMdl, .int (nI md), .ref aMod, .int th, .long r0, .long r1, .long r2])), (aMn, .inl (cI, 48, .inl mm)), (aMod, .inl (cI, 48, .inl x_.2))]) (fun j x_ => [(2, .int (nI x_.1)), (1, .int (nI i)), (0, .ref aM)]) (fun j x_ hi_12 hx_12 ih_12 H locs ls hP hD hS hl => ?_) 0 (i, z) (Nat.zero_le _) ⟨rfl, ⟨Nat.add_zero _, fun q h1 h2 => iv_2 q (by omega)⟩⟩ _ _ _ hP hD hS (lv_sub hl [0, 1, 2] rfl)
    obtain ⟨kk, y⟩ := x_
    have hP : va_P (dC, dI) vwCl [(aM, .inr (4, [.int n1, .int rt, .int ac, .ref aMf, .ref aMt, .ref aMw, .ref aMo, .int sv, .int hv, .ref aMr, .ref aMi, .ref aMn, .ref aMa, .ref aMe, .ref aMv, .ref aMl, .ref aMd, .ref aMdh, .ref aMdl, .int (nI md), .ref aMod, .int th, .long r0, .long r1, .long r2])), (aMn, .inl (cI, 48, .inl mm)), (aMod, .inl (cI, 48, .inl y))] H := hP
    have hD : va_D A [(aM, .inr (4, [.int n1, .int rt, .int ac, .ref aMf, .ref aMt, .ref aMw, .ref aMo, .int sv, .int hv, .ref aMr, .ref aMi, .ref aMn, .ref aMa, .ref aMe, .ref aMv, .ref aMl, .ref aMd, .ref aMdh, .ref aMdl, .int (nI md), .ref aMod, .int th, .long r0, .long r1, .long r2])), (aMn, .inl (cI, 48, .inl mm)), (aMod, .inl (cI, 48, .inl y))] := hD
    have hl : lv_has ls 3 [(2, .int (nI kk)), (1, .int (nI i)), (0, .ref aM)] := hl
    have iv_12 : kk + j = i ∧ (∀ q, q ≤ i → q ≠ kk → tq_r md (y q)) := hx_12.2
    have hx_12 := hx_12.1
    have hlt_12 : j < 48 := by have := iv_12.1; omega
    refine lv_iload_n hx hb dX4_number_12 rfl (lv_at hl 0 rfl) ?_
    refine lv_if_le (tgt := 52) hx hb dX4_number_13 (by decide) (fun c_3 => ?_) (fun c_3 => ?_)
    · have ex_4 : t_X4_number_12 mm i (i, z) 48 = (true, (kk, y)) := tq_br_stop hx_12 (by show b_X4_number_12 mm i j kk y = _; unfold b_X4_number_12; rw [if_pos c_3]) hlt_12
      obtain ⟨kk_4, hkk_4⟩ : ∃ z9_ : Nat, z9_ = kk := ⟨_, rfl⟩
      obtain ⟨y_4, hy_4⟩ : ∃ z9_ : (Nat → Int32), z9_ = y := ⟨_, rfl⟩
      have ey_4 : (kk_4, y_4) = (t_X4_number_12 mm i (i, z) 48).2 := by rw [hkk_4, hy_4, ex_4]
      have hP : va_P (dC, dI) vwCl [(aM, .inr (4, [.int n1, .int rt, .int ac, .ref aMf, .ref aMt, .ref aMw, .ref aMo, .int sv, .int hv, .ref aMr, .ref aMi, .ref aMn, .ref aMa, .ref aMe, .ref aMv, .ref aMl, .ref aMd, .ref aMdh, .ref aMdl, .int (nI md), .ref aMod, .int th, .long r0, .long r1, .long r2])), (aMn, .inl (cI, 48, .inl mm)), (aMod, .inl (cI, 48, .inl y_4))] H := by rw [hy_4]; exact hP
      have hD : va_D A [(aM, .inr (4, [.int n1, .int rt, .int ac, .ref aMf, .ref aMt, .ref aMw, .ref aMo, .int sv, .int hv, .ref aMr, .ref aMi, .ref aMn, .ref aMa, .ref aMe, .ref aMv, .ref aMl, .ref aMd, .ref aMdh, .ref aMdl, .int (nI md), .ref aMod, .int th, .long r0, .long r1, .long r2])), (aMn, .inl (cI, 48, .inl mm)), (aMod, .inl (cI, 48, .inl y_4))] := by rw [hy_4]; exact hD
      have hl : lv_has ls 3 [(2, .int (nI kk_4)), (1, .int (nI i)), (0, .ref aM)] := by rw [hkk_4]; exact hl
      refine lv_aload_n hx hb dX4_number_52 rfl (lv_at hl 2 rfl) ?_
      refine va_get (D := (dC, dI)) (ci := 4) (v := .ref aMod) (C := RX4) (T := TX4) (N := 25) hx hb hts inX4 hown hK hP 0 rfl rfl 20 (by decide) (hts (.fieldLink RX4 58 "TreeOfArcsModel" "order" "[I") (by decide +kernel)) (fun _ h9 => h9) rfl dX4_number_53 ?_
      refine lv_iload_n hx hb dX4_number_56 rfl (lv_at hl 0 rfl) ?_
      refine lv_iload_n hx hb dX4_number_57 rfl (lv_at hl 1 rfl) ?_
      refine tq_iast hx hb hK hP hD hS 2 0 rfl rfl kk_4 rfl (by have := iv_12.1; omega) (by decide) dX4_number_58 (fun H locs hP hD hS => ?_)
      have hP : va_P (dC, dI) vwCl [(aM, .inr (4, [.int n1, .int rt, .int ac, .ref aMf, .ref aMt, .ref aMw, .ref aMo, .int sv, .int hv, .ref aMr, .ref aMi, .ref aMn, .ref aMa, .ref aMe, .ref aMv, .ref aMl, .ref aMd, .ref aMdh, .ref aMdl, .int (nI md), .ref aMod, .int th, .long r0, .long r1, .long r2])), (aMn, .inl (cI, 48, .inl mm)), (aMod, .inl (cI, 48, .inl (upd y_4 kk_4 (nI i))))] H := hP
      have hD : va_D A [(aM, .inr (4, [.int n1, .int rt, .int ac, .ref aMf, .ref aMt, .ref aMw, .ref aMo, .int sv, .int hv, .ref aMr, .ref aMi, .ref aMn, .ref aMa, .ref aMe, .ref aMv, .ref aMl, .ref aMd, .ref aMdh, .ref aMdl, .int (nI md), .ref aMod, .int th, .long r0, .long r1, .long r2])), (aMn, .inl (cI, 48, .inl mm)), (aMod, .inl (cI, 48, .inl (upd y_4 kk_4 (nI i))))] := hD
      refine lv_iinc (v := (nI (i + 1))) (lv' := [(1, .int (nI (i + 1))), (2, .int (nI kk_4)), (0, .ref aM)]) hx hb dX4_number_59 hl (k := 1) rfl (nI_1 _) (by decide) rfl (fun ls hl => ?_)
      refine lv_goto (tgt := 2) hx hb dX4_number_62 (by decide) ?_
      have e9 : t_X4_number_2 mm od (i + 1) = (upd y_4 kk_4 (nI i)) := by refine (tq_it_go hx_2).trans ?_; show b_X4_number_2 mm i z = _; unfold b_X4_number_2; rw [← ey_4]; (try dsimp only); all_goals rfl
      exact ih_2 (upd y_4 kk_4 (nI i)) hlt_2 ⟨e9, (fun q h => by rw [hy_4, hkk_4]; exact tq_updP (P := tq_r md) (tq_r_nI hlt_2 (by omega)) (fun h9 => iv_12.2 q (by omega) h9))⟩ _ _ _ (hP.sub [0, 1, 2] rfl) (hD.sub [0, 1, 2] (by decide) rfl) hS (lv_sub hl [0, 2] rfl)
    · have hkk : 0 < kk := tq_posn c_3
      refine lv_aload_n hx hb dX4_number_16 rfl (lv_at hl 2 rfl) ?_
      refine lv_iload_n hx hb dX4_number_17 rfl (lv_at hl 1 rfl) ?_
      refine lv_aload_n hx hb dX4_number_18 rfl (lv_at hl 2 rfl) ?_
      refine va_get (D := (dC, dI)) (ci := 4) (v := .ref aMod) (C := RX4) (T := TX4) (N := 25) hx hb hts inX4 hown hK hP 0 rfl rfl 20 (by decide) (hts (.fieldLink RX4 58 "TreeOfArcsModel" "order" "[I") (by decide +kernel)) (fun _ h9 => h9) rfl dX4_number_19 ?_
      refine lv_iload_n hx hb dX4_number_22 rfl (lv_at hl 0 rfl) ?_
      refine lv_iconst (v := 1) hx hb dX4_number_23 (by decide) ?_
      refine lv_isub hx hb dX4_number_24 ?_
      refine tq_iald hx hb hK hP 2 0 rfl rfl (kk - 1) (tq_pred hkk) (by have := iv_12.1; omega) (by decide) dX4_number_25 ?_
      have hm_5 := c_X4_isBefore l dC dI cI cJ cZ aM aMf aMt aMw aMo aMr aMi aMn aMa aMe aMv aMl aMd aMdh aMdl aMod H.size n1 rt ac sv hv md th r0 r1 r2 mm i (tq_x (y (kk - 1))) hmd (by omega) ((iv_12.2 (kk - 1) (by have := iv_12.1; omega) (by omega)).2) hnz
      rw [← (iv_12.2 (kk - 1) (by have := iv_12.1; omega) (by omega)).1] at hm_5
      have hPc := hP.sub (ws' := [(aM, .inr (4, [.int n1, .int rt, .int ac, .ref aMf, .ref aMt, .ref aMw, .ref aMo, .int sv, .int hv, .ref aMr, .ref aMi, .ref aMn, .ref aMa, .ref aMe, .ref aMv, .ref aMl, .ref aMd, .ref aMdh, .ref aMdl, .int (nI md), .ref aMod, .int th, .long r0, .long r1, .long r2])), (aMn, .inl (cI, 48, .inl mm))]) [0, 1] rfl
      have hDc := hD.sub (ws' := [(aM, .inr (4, [.int n1, .int rt, .int ac, .ref aMf, .ref aMt, .ref aMw, .ref aMo, .int sv, .int hv, .ref aMr, .ref aMi, .ref aMn, .ref aMa, .ref aMe, .ref aMv, .ref aMl, .ref aMd, .ref aMdh, .ref aMdl, .int (nI md), .ref aMod, .int th, .long r0, .long r1, .long r2])), (aMn, .inl (cI, 48, .inl mm))]) [0, 1] (by decide) rfl
      have hFc := va_free (wc := [(aM, .inr (4, [.int n1, .int rt, .int ac, .ref aMf, .ref aMt, .ref aMw, .ref aMo, .int sv, .int hv, .ref aMr, .ref aMi, .ref aMn, .ref aMa, .ref aMe, .ref aMv, .ref aMl, .ref aMd, .ref aMdh, .ref aMdl, .int (nI md), .ref aMod, .int th, .long r0, .long r1, .long r2])), (aMn, .inl (cI, 48, .inl mm))]) hD hS hA [0, 1] rfl
      refine va_calli (va_runV (As := [.int (nI i), .int (y (kk - 1))]) (rest := []) ⟨hx, hb, hml, hown, hts⟩ (hm_5) (cwV 2 hts gX4_number_X4_isBefore rfl rfl rfl (by decide +kernel) ⟨Nat.le_of_ble_eq_true rfl, Nat.le_of_ble_eq_true rfl⟩) ⟨fun a U g mk q => by obtain ⟨q0, q1, qP, qK, qD, qE⟩ := q; exact ⟨q0, q1, qP, va_K.moved (u := U) (U := U.calling g mk a) (Vm.Alike.refl U.vm) qK, qD, tq_E.same (u := U) rfl qE⟩, va_recv hK hPc (ci := 4) (q0 := 0) rfl rfl, fun U hU hW => ⟨rfl, by rw [hU], by rw [hU]; exact hPc, va_K.moved hW.alike hK, hDc.weaken (fun _ _ _ _ => trivial), hE.warm hW⟩⟩ rfl rfl hl.1 rfl (lv_room (Nat.le_of_ble_eq_true rfl)) dX4_number_26 ⟨(Nat.zero_le _), (Nat.zero_le _)⟩) hS (fun q _ h => hFc q h) hFc (fun r_6 u t H1 locs ht hvm hw9 hB hz1 hk1 hS => ?_)
      obtain ⟨hP1, hK1, hD1⟩ := hB
      rw [ht] at hP1
      obtain ⟨hP, hD⟩ := va_join (wr := [(aMod, .inl (cI, 48, .inl y))]) (w1 := [(aM, .inr (4, [.int n1, .int rt, .int ac, .ref aMf, .ref aMt, .ref aMw, .ref aMo, .int sv, .int hv, .ref aMr, .ref aMi, .ref aMn, .ref aMa, .ref aMe, .ref aMv, .ref aMl, .ref aMd, .ref aMdh, .ref aMdl, .int (nI md), .ref aMod, .int th, .long r0, .long r1, .long r2])), (aMn, .inl (cI, 48, .inl mm))]) hP hD [0, 1] [2] rfl rfl (by decide) (by decide) hk1 hFc hP1 hD1
      generalize H1 = H at hP hS ⊢
      have hP : va_P (dC, dI) vwCl [(aMod, .inl (cI, 48, .inl y)), (aM, .inr (4, [.int n1, .int rt, .int ac, .ref aMf, .ref aMt, .ref aMw, .ref aMo, .int sv, .int hv, .ref aMr, .ref aMi, .ref aMn, .ref aMa, .ref aMe, .ref aMv, .ref aMl, .ref aMd, .ref aMdh, .ref aMdl, .int (nI md), .ref aMod, .int th, .long r0, .long r1, .long r2])), (aMn, .inl (cI, 48, .inl mm))] H := hP
      have hD : va_D A [(aMod, .inl (cI, 48, .inl y)), (aM, .inr (4, [.int n1, .int rt, .int ac, .ref aMf, .ref aMt, .ref aMw, .ref aMo, .int sv, .int hv, .ref aMr, .ref aMi, .ref aMn, .ref aMa, .ref aMe, .ref aMv, .ref aMl, .ref aMd, .ref aMdh, .ref aMdl, .int (nI md), .ref aMod, .int th, .long r0, .long r1, .long r2])), (aMn, .inl (cI, 48, .inl mm))] := hD
      subst hw9
      refine lv_if_eq (tgt := 52) hx hb dX4_number_29 (by decide) (fun c_7 => ?_) (fun c_7 => ?_)
      · have ex_8 : t_X4_number_12 mm i (i, z) 48 = (true, (kk, y)) := tq_br_stop hx_12 (by show b_X4_number_12 mm i j kk y = _; unfold b_X4_number_12; rw [if_neg c_3, if_pos c_7]) hlt_12
        obtain ⟨kk_8, hkk_8⟩ : ∃ z9_ : Nat, z9_ = kk := ⟨_, rfl⟩
        obtain ⟨y_8, hy_8⟩ : ∃ z9_ : (Nat → Int32), z9_ = y := ⟨_, rfl⟩
        have ey_8 : (kk_8, y_8) = (t_X4_number_12 mm i (i, z) 48).2 := by rw [hkk_8, hy_8, ex_8]
        have hP : va_P (dC, dI) vwCl [(aMod, .inl (cI, 48, .inl y_8)), (aM, .inr (4, [.int n1, .int rt, .int ac, .ref aMf, .ref aMt, .ref aMw, .ref aMo, .int sv, .int hv, .ref aMr, .ref aMi, .ref aMn, .ref aMa, .ref aMe, .ref aMv, .ref aMl, .ref aMd, .ref aMdh, .ref aMdl, .int (nI md), .ref aMod, .int th, .long r0, .long r1, .long r2])), (aMn, .inl (cI, 48, .inl mm))] H := by rw [hy_8]; exact hP
        have hD : va_D A [(aMod, .inl (cI, 48, .inl y_8)), (aM, .inr (4, [.int n1, .int rt, .int ac, .ref aMf, .ref aMt, .ref aMw, .ref aMo, .int sv, .int hv, .ref aMr, .ref aMi, .ref aMn, .ref aMa, .ref aMe, .ref aMv, .ref aMl, .ref aMd, .ref aMdh, .ref aMdl, .int (nI md), .ref aMod, .int th, .long r0, .long r1, .long r2])), (aMn, .inl (cI, 48, .inl mm))] := by rw [hy_8]; exact hD
        have hl : lv_has ls 3 [(2, .int (nI kk_8)), (1, .int (nI i)), (0, .ref aM)] := by rw [hkk_8]; exact hl
        refine lv_aload_n hx hb dX4_number_52 rfl (lv_at hl 2 rfl) ?_
        refine va_get (D := (dC, dI)) (ci := 4) (v := .ref aMod) (C := RX4) (T := TX4) (N := 25) hx hb hts inX4 hown hK hP 1 rfl rfl 20 (by decide) (hts (.fieldLink RX4 58 "TreeOfArcsModel" "order" "[I") (by decide +kernel)) (fun _ h9 => h9) rfl dX4_number_53 ?_
        refine lv_iload_n hx hb dX4_number_56 rfl (lv_at hl 0 rfl) ?_
        refine lv_iload_n hx hb dX4_number_57 rfl (lv_at hl 1 rfl) ?_
        refine tq_iast hx hb hK hP hD hS 0 0 rfl rfl kk_8 rfl (by have := iv_12.1; omega) (by decide) dX4_number_58 (fun H locs hP hD hS => ?_)
        have hP : va_P (dC, dI) vwCl [(aMod, .inl (cI, 48, .inl (upd y_8 kk_8 (nI i)))), (aM, .inr (4, [.int n1, .int rt, .int ac, .ref aMf, .ref aMt, .ref aMw, .ref aMo, .int sv, .int hv, .ref aMr, .ref aMi, .ref aMn, .ref aMa, .ref aMe, .ref aMv, .ref aMl, .ref aMd, .ref aMdh, .ref aMdl, .int (nI md), .ref aMod, .int th, .long r0, .long r1, .long r2])), (aMn, .inl (cI, 48, .inl mm))] H := hP
        have hD : va_D A [(aMod, .inl (cI, 48, .inl (upd y_8 kk_8 (nI i)))), (aM, .inr (4, [.int n1, .int rt, .int ac, .ref aMf, .ref aMt, .ref aMw, .ref aMo, .int sv, .int hv, .ref aMr, .ref aMi, .ref aMn, .ref aMa, .ref aMe, .ref aMv, .ref aMl, .ref aMd, .ref aMdh, .ref aMdl, .int (nI md), .ref aMod, .int th, .long r0, .long r1, .long r2])), (aMn, .inl (cI, 48, .inl mm))] := hD
        refine lv_iinc (v := (nI (i + 1))) (lv' := [(1, .int (nI (i + 1))), (2, .int (nI kk_8)), (0, .ref aM)]) hx hb dX4_number_59 hl (k := 1) rfl (nI_1 _) (by decide) rfl (fun ls hl => ?_)
        refine lv_goto (tgt := 2) hx hb dX4_number_62 (by decide) ?_
        have e9 : t_X4_number_2 mm od (i + 1) = (upd y_8 kk_8 (nI i)) := by refine (tq_it_go hx_2).trans ?_; show b_X4_number_2 mm i z = _; unfold b_X4_number_2; rw [← ey_8]; (try dsimp only); all_goals rfl
        exact ih_2 (upd y_8 kk_8 (nI i)) hlt_2 ⟨e9, (fun q h => by rw [hy_8, hkk_8]; exact tq_updP (P := tq_r md) (tq_r_nI hlt_2 (by omega)) (fun h9 => iv_12.2 q (by omega) h9))⟩ _ _ _ (hP.sub [1, 2, 0] rfl) (hD.sub [1, 2, 0] (by decide) rfl) hS (lv_sub hl [0, 2] rfl)
      · refine lv_aload_n hx hb dX4_number_32 rfl (lv_at hl 2 rfl) ?_
        refine va_get (D := (dC, dI)) (ci := 4) (v := .ref aMod) (C := RX4) (T := TX4) (N := 25) hx hb hts inX4 hown hK hP 1 rfl rfl 20 (by decide) (hts (.fieldLink RX4 58 "TreeOfArcsModel" "order" "[I") (by decide +kernel)) (fun _ h9 => h9) rfl dX4_number_33 ?_
        refine lv_iload_n hx hb dX4_number_36 rfl (lv_at hl 0 rfl) ?_
        refine lv_aload_n hx hb dX4_number_37 rfl (lv_at hl 2 rfl) ?_
        refine va_get (D := (dC, dI)) (ci := 4) (v := .ref aMod) (C := RX4) (T := TX4) (N := 25) hx hb hts inX4 hown hK hP 1 rfl rfl 20 (by decide) (hts (.fieldLink RX4 58 "TreeOfArcsModel" "order" "[I") (by decide +kernel)) (fun _ h9 => h9) rfl dX4_number_38 ?_
        refine lv_iload_n hx hb dX4_number_41 rfl (lv_at hl 0 rfl) ?_
        refine lv_iconst (v := 1) hx hb dX4_number_42 (by decide) ?_
        refine lv_isub hx hb dX4_number_43 ?_
        refine tq_iald hx hb hK hP 0 0 rfl rfl (kk - 1) (tq_pred hkk) (by have := iv_12.1; omega) (by decide) dX4_number_44 ?_
        refine tq_iast hx hb hK hP hD hS 0 0 rfl rfl kk rfl (by have := iv_12.1; omega) (by decide) dX4_number_45 (fun H locs hP hD hS => ?_)
        have hP : va_P (dC, dI) vwCl [(aMod, .inl (cI, 48, .inl (upd y kk (y (kk - 1))))), (aM, .inr (4, [.int n1, .int rt, .int ac, .ref aMf, .ref aMt, .ref aMw, .ref aMo, .int sv, .int hv, .ref aMr, .ref aMi, .ref aMn, .ref aMa, .ref aMe, .ref aMv, .ref aMl, .ref aMd, .ref aMdh, .ref aMdl, .int (nI md), .ref aMod, .int th, .long r0, .long r1, .long r2])), (aMn, .inl (cI, 48, .inl mm))] H := hP
        have hD : va_D A [(aMod, .inl (cI, 48, .inl (upd y kk (y (kk - 1))))), (aM, .inr (4, [.int n1, .int rt, .int ac, .ref aMf, .ref aMt, .ref aMw, .ref aMo, .int sv, .int hv, .ref aMr, .ref aMi, .ref aMn, .ref aMa, .ref aMe, .ref aMv, .ref aMl, .ref aMd, .ref aMdh, .ref aMdl, .int (nI md), .ref aMod, .int th, .long r0, .long r1, .long r2])), (aMn, .inl (cI, 48, .inl mm))] := hD
        refine lv_iinc (v := (nI (kk - 1))) (lv' := [(2, .int (nI (kk - 1))), (1, .int (nI i)), (0, .ref aM)]) hx hb dX4_number_46 hl (k := 0) rfl (tq_decr hkk) (by decide) rfl (fun ls hl => ?_)
        refine lv_goto (tgt := 12) hx hb dX4_number_49 (by decide) ?_
        have e9 : t_X4_number_12 mm i (i, z) (j + 1) = (false, ((kk - 1), (upd y kk (y (kk - 1))))) := by refine (tq_br_go hx_12).trans ?_; show b_X4_number_12 mm i j kk y = _; unfold b_X4_number_12; rw [if_neg c_3, if_neg c_7]
        exact ih_12 ((kk - 1), (upd y kk (y (kk - 1)))) hlt_12 ⟨e9, ⟨by have := iv_12.1; omega, fun q h1 h2 => tq_updP (P := tq_r md) (f := y) (k := kk) (v := y (kk - 1)) (q := q) (iv_12.2 (kk - 1) (by have := iv_12.1; omega) (by omega)) (fun h9 => iv_12.2 q h1 h9)⟩⟩ _ _ _ (hP.sub [1, 2, 0] rfl) (hD.sub [1, 2, 0] (by decide) rfl) hS (lv_sub hl [0, 1, 2] rfl)
