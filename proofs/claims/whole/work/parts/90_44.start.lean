/-! What the law's entry gives: the classes, the strings, the fields of Throwable. -/
set_option maxHeartbeats 4000000 in
set_option maxRecDepth 100000 in
theorem lw_facts {p : Program} {s : State} {m : MethodId} {meth : Method} {c : Code} {b L : Nat} {xs : Nat → Int32} (C0 : lw_At p s m meth c b L xs) :
    tq_E s ∧ tq_T s ∧ tq_C s ∧ tq_Z (fun q : Nat => s.heap.size ≤ q) s s.heap ∧ ∃ (dC : Nat → ClassId) (dI : Nat → Nat → Nat) (cI cJ cZ : ClassId), va_K (dC, dI) vwCl [(cI, .int), (cJ, .long), (cZ, .boolean)] s := by
  obtain ⟨hx, hb, hr, hml, hown, hts, hX, hbl, hlocks, hgv⟩ := C0
  have hfl := flat_of_before _ hgv
  have hA : ∀ a : Nat, a < s.heap.size → ¬ (fun q : Nat => s.heap.size ≤ q) a := fun a h => Nat.not_le.mpr h
  obtain ⟨c0, i0, hK0⟩ := u_known (C := RX0) (T := TX0) (N := 13) (n := 13) hts inX0 (hts (.instantiable RX0 13) (by decide +kernel))
  obtain ⟨c1, i1, hK1⟩ := u_known (C := RX1) (T := TX1) (N := 7) (n := 7) hts inX1 (hts (.instantiable RX1 7) (by decide +kernel))
  obtain ⟨c2, i2, hK2⟩ := u_known (C := RX2) (T := TX2) (N := 3) (n := 3) hts inX2 (hts (.instantiable RX2 3) (by decide +kernel))
  obtain ⟨c3, i3, hK3⟩ := u_known (C := RX3) (T := TX3) (N := 5) (n := 5) hts inX3 (hts (.instantiable RX3 5) (by decide +kernel))
  obtain ⟨c4, i4, hK4⟩ := u_known (C := RX4) (T := TX4) (N := 25) (n := 25) hts inX4 (hts (.instantiable RX4 25) (by decide +kernel))
  obtain ⟨cx, kx, hfx, -⟩ := Cond.instantiable_spec (hts (.instantiable RX3 5) (by decide +kernel))
  obtain ⟨cI, kI, pI, nI1, nI2, nI3⟩ := Cond.arrayClass_spec (hts (.arrayClass .int) (by decide +kernel))
  obtain ⟨cJ, kJ, pJ, nJ1, nJ2, nJ3⟩ := Cond.arrayClass_spec (hts (.arrayClass .long) (by decide +kernel))
  obtain ⟨cZ, kZ, pZ, nZ1, nZ2, nZ3⟩ := Cond.arrayClass_spec (hts (.arrayClass .boolean) (by decide +kernel))
  refine ⟨⟨va_Nw.of rfl (hts (.methodLinkNest RX1 36 yX3_holds "TreeOfArcs") (by decide +kernel)), va_Nw.of rfl (hts (.methodLinkNest RX0 118 yX3_holds "TreeOfArcs") (by decide +kernel))⟩, ⟨?_, ?_, ?_⟩, ?_, ⟨?_, ?_⟩, ?_⟩
  · have hstr : ∀ q ∈ tq_txt, Cond.stringRef RX3 q.1 q.2 ∈ lw_tbl := by decide +kernel
    intro q hq
    have h1 := hts _ (hstr q hq)
    obtain ⟨-, -, -, sa, -, -, -, -, -, hev⟩ := Cond.stringRef_spec hfx h1
    exact ⟨sa, vk_R.same (u := s) rfl ⟨h1, hev⟩⟩
  · have hc : ∀ E ∈ tq_exc, Cond.castable E E ∈ lw_tbl := by decide +kernel
    exact fun E hE => va_Nw.of rfl (hts _ (hc E hE))
  · have hc : ∀ E ∈ tq_sup, Cond.declares (Bundle.initS E) ∈ lw_tbl := by decide +kernel
    exact fun E hE => va_Nw.of rfl (hts _ (hc E hE))
  · intro E hE
    rcases List.mem_cons.mp hE with rfl | hE
    · exact va_Nc.of (hfl (.not (.castable "java/lang/IllegalArgumentException" "java/lang/IndexOutOfBoundsException")) (by decide +kernel))
    · rcases List.mem_singleton.mp hE with rfl
      exact va_Nc.of (hfl (.not (.castable "java/lang/IllegalStateException" "java/lang/IndexOutOfBoundsException")) (by decide +kernel))
  · exact vx_Zqof (hts (.laysStatic Bundle.tN "UNASSIGNED_STACK" Bundle.steD) (by decide +kernel)) (hts (.initialized Bundle.tN) (by decide +kernel)) (hfl (.isRef (.static Bundle.tN "UNASSIGNED_STACK" Bundle.steD)) (by decide +kernel)) hA
  · exact vx_Zqof (hts (.laysStatic Bundle.tN "SUPPRESSED_SENTINEL" Bundle.listD) (by decide +kernel)) (hts (.initialized Bundle.tN) (by decide +kernel)) (hfl (.isRef (.static Bundle.tN "SUPPRESSED_SENTINEL" Bundle.listD)) (by decide +kernel)) hA
  · refine ⟨fun k => match k with | 0 => c0 | 1 => c1 | 2 => c2 | 3 => c3 | _ => c4, fun k => match k with | 0 => i0 | 1 => i1 | 2 => i2 | 3 => i3 | _ => i4, cI, cJ, cZ, ?_, ?_⟩
    · intro k q hq
      match k, hq with
      | 0, hq => cases hq; exact hK0
      | 1, hq => cases hq; exact hK1
      | 2, hq => cases hq; exact hK2
      | 3, hq => cases hq; exact hK3
      | 4, hq => cases hq; exact hK4
      | k + 5, hq => simp [vwCl] at hq
    · intro k q hq
      match k, hq with
      | 0, hq => cases hq; exact ⟨fun n z => ⟨fun k h => (by cases h), kI, nI2, pI, nI3⟩, nI1⟩
      | 1, hq => cases hq; exact ⟨fun n z => ⟨fun k h => (by cases h), kJ, nJ2, pJ, nJ3⟩, nJ1⟩
      | 2, hq => cases hq; exact ⟨fun n z => ⟨fun k h => (by cases h), kZ, nZ2, pZ, nZ3⟩, nZ1⟩
      | k + 3, hq => simp at hq
