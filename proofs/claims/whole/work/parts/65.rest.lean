/-! The reference's rests: a weight, and a power in two parts. -/
theorem fi_ss (x y z : Int64) : x - y - z = x - (y + z) := by
  apply Int64.toBitVec_inj.1
  rw [Int64.toBitVec_sub, Int64.toBitVec_sub, Int64.toBitVec_sub, Int64.toBitVec_add]
  rw [BitVec.sub_eq_add_neg, BitVec.sub_eq_add_neg, BitVec.sub_eq_add_neg, BitVec.neg_add, BitVec.sub_eq_add_neg, BitVec.add_assoc]
theorem fb_gl {a i : Nat} (hi : i < 32) : (nI a).toBitVec.getLsbD i = a.testBit i := by
  show (BitVec.ofNat 32 a).getLsbD i = _
  rw [BitVec.getLsbD_ofNat, decide_eq_true hi, Bool.true_and]
theorem fb_m1 : ∀ i, i < 32 → ((-1 : Int32)).toBitVec.getLsbD i = true := by decide +kernel
theorem fb_z {x : Int32} : x = 0 ↔ ∀ i, i < 32 → x.toBitVec.getLsbD i = false := by
  constructor
  · rintro rfl i _; exact BitVec.getLsbD_zero
  · intro h
    apply Int32.toBitVec_inj.1
    apply BitVec.eq_of_getLsbD_eq
    intro i hi
    rw [h i hi]
    exact BitVec.getLsbD_zero.symm
theorem fb_subset {a b : Nat} (ha : a < 2 ^ 24) : (nI a &&& (nI b ^^^ (-1))) = 0 ↔ a &&& b = a := by
  rw [fb_z]
  constructor
  · intro h
    apply Nat.eq_of_testBit_eq
    intro i
    rw [Nat.testBit_and]
    rcases Nat.lt_or_ge i 32 with q | q
    · have h1 := h i q
      rw [Int32.toBitVec_and, Int32.toBitVec_xor, BitVec.getLsbD_and, BitVec.getLsbD_xor, fb_gl q, fb_gl q, fb_m1 i q] at h1
      cases ht : a.testBit i
      · rfl
      · rw [ht] at h1
        cases ht2 : b.testBit i
        · rw [ht2] at h1; exact absurd h1 (by decide)
        · rfl
    · rw [Nat.testBit_lt_two_pow (Nat.lt_of_lt_of_le ha (Nat.pow_le_pow_right (by decide) (by omega)))]; rfl
  · intro h i q
    rw [Int32.toBitVec_and, Int32.toBitVec_xor, BitVec.getLsbD_and, BitVec.getLsbD_xor, fb_gl q, fb_gl q, fb_m1 i q]
    have h1 : (a &&& b).testBit i = a.testBit i := by rw [h]
    rw [Nat.testBit_and] at h1
    cases ht : a.testBit i
    · rfl
    · rw [ht] at h1
      cases ht2 : b.testBit i
      · rw [ht2] at h1; exact absurd h1 (by decide)
      · rfl
theorem fi_c : (4611686018427387904 : Int64).toInt = 4611686018427387904 := by decide +kernel
theorem fi_1 : (1 : Int64).toInt = 1 := by decide +kernel
/-- the exact power of the reference's two parts -/
def r_x (h l : Int64) : Int := h.toInt * 4611686018427387904 + l.toInt
def r_ok (h l : Int64) : Prop := 0 ≤ l.toInt ∧ l.toInt < 4611686018427387904 ∧ -1 ≤ h.toInt ∧ h.toInt ≤ 1
theorem k_restOf {md a k : Nat} {to mm : Nat → Int32} {wt du dh dl : Nat → Int64} {W : Nat → Nat} (hmd : md ≤ 48) (ha : a < 60) (hta : tq_r 24 (to a)) (hW : ∀ p, p < md → mm p = nI (W p) ∧ W p < 2 ^ 24) (hk : k < md) (hok : ∀ p, p < md → p ≠ k → r_ok (dh p) (dl p)) :
    (f_X4_restOf md to wt mm du dh dl a k).1 = wt a - fs 0 (fun p => decide (p ≠ k) && gr_in W k (tq_x (to a)) p) du md ∧ r_x (f_X4_restOf md to wt mm du dh dl a k).2.1 (f_X4_restOf md to wt mm du dh dl a k).2.2 = 2 ^ a - fs 0 (fun p => decide (p ≠ k) && gr_in W k (tq_x (to a)) p) (fun p => r_x (dh p) (dl p)) md ∧
      0 ≤ (f_X4_restOf md to wt mm du dh dl a k).2.2.toInt ∧ (f_X4_restOf md to wt mm du dh dl a k).2.2.toInt < 4611686018427387904 ∧ -96 ≤ (f_X4_restOf md to wt mm du dh dl a k).2.1.toInt ∧ (f_X4_restOf md to wt mm du dh dl a k).2.1.toInt ≤ 96 := by
  obtain ⟨b1, b2, b3⟩ := fi_pow a ha
  have key : ∀ i, i ≤ md → (t_X4_restOf_24 to mm du dh dl a k ((wt a), 0, ((1 : Int64) <<< ((nI a : Int32).toInt64 &&& 63))) i).1 = wt a - fs 0 (fun p => decide (p ≠ k) && gr_in W k (tq_x (to a)) p) du i ∧ r_x (t_X4_restOf_24 to mm du dh dl a k ((wt a), 0, ((1 : Int64) <<< ((nI a : Int32).toInt64 &&& 63))) i).2.1 (t_X4_restOf_24 to mm du dh dl a k ((wt a), 0, ((1 : Int64) <<< ((nI a : Int32).toInt64 &&& 63))) i).2.2 = 2 ^ a - fs 0 (fun p => decide (p ≠ k) && gr_in W k (tq_x (to a)) p) (fun p => r_x (dh p) (dl p)) i ∧
      0 ≤ (t_X4_restOf_24 to mm du dh dl a k ((wt a), 0, ((1 : Int64) <<< ((nI a : Int32).toInt64 &&& 63))) i).2.2.toInt ∧ (t_X4_restOf_24 to mm du dh dl a k ((wt a), 0, ((1 : Int64) <<< ((nI a : Int32).toInt64 &&& 63))) i).2.2.toInt < 4611686018427387904 ∧ -(2 * i : Int) ≤ (t_X4_restOf_24 to mm du dh dl a k ((wt a), 0, ((1 : Int64) <<< ((nI a : Int32).toInt64 &&& 63))) i).2.1.toInt ∧ (t_X4_restOf_24 to mm du dh dl a k ((wt a), 0, ((1 : Int64) <<< ((nI a : Int32).toInt64 &&& 63))) i).2.1.toInt ≤ 2 * i := by
    unfold t_X4_restOf_24
    refine tq_it_inv (N := md) (fun i (x : Int64 × Int64 × Int64) => x.1 = wt a - fs 0 (fun p => decide (p ≠ k) && gr_in W k (tq_x (to a)) p) du i ∧ r_x x.2.1 x.2.2 = 2 ^ a - fs 0 (fun p => decide (p ≠ k) && gr_in W k (tq_x (to a)) p) (fun p => r_x (dh p) (dl p)) i ∧ 0 ≤ x.2.2.toInt ∧ x.2.2.toInt < 4611686018427387904 ∧ -(2 * i : Int) ≤ x.2.1.toInt ∧ x.2.1.toInt ≤ 2 * i) ?_ (fun i x hi h => ?_)
    · refine ⟨(Int64.sub_zero _).symm, ?_, ?_, ?_, (show -(2 * ((0 : Nat) : Int)) ≤ (0 : Int64).toInt by decide), (show (0 : Int64).toInt ≤ 2 * ((0 : Nat) : Int) by decide)⟩
      · show (0 : Int64).toInt * 4611686018427387904 + ((1 : Int64) <<< ((nI a : Int32).toInt64 &&& 63)).toInt = 2 ^ a - 0
        rw [b1, show (0 : Int64).toInt = 0 from rfl]; omega
      · show 0 ≤ ((1 : Int64) <<< ((nI a : Int32).toInt64 &&& 63)).toInt
        rw [b1]; omega
      · show ((1 : Int64) <<< ((nI a : Int32).toInt64 &&& 63)).toInt < 4611686018427387904
        rw [b1]; omega
    · obtain ⟨q0, q1, q2⟩ := x
      obtain ⟨h1, h2, h3, h4, h5, h6⟩ := h
      have h1 : q0 = wt a - fs 0 (fun p => decide (p ≠ k) && gr_in W k (tq_x (to a)) p) du i := h1
      have h2 : q1.toInt * 4611686018427387904 + q2.toInt = 2 ^ a - fs 0 (fun p => decide (p ≠ k) && gr_in W k (tq_x (to a)) p) (fun p => r_x (dh p) (dl p)) i := h2
      have h3 : 0 ≤ q2.toInt := h3
      have h4 : q2.toInt < 4611686018427387904 := h4
      have h5 : -(2 * i : Int) ≤ q1.toInt := h5
      have h6 : q1.toInt ≤ 2 * i := h6
      have e1 : ∀ (α : Type) [Add α] (z : α) (f : Nat → α), fs z (fun p => decide (p ≠ k) && gr_in W k (tq_x (to a)) p) f (i + 1) = if (decide (i ≠ k) && gr_in W k (tq_x (to a)) i) = true then fs z (fun p => decide (p ≠ k) && gr_in W k (tq_x (to a)) p) f i + f i else fs z (fun p => decide (p ≠ k) && gr_in W k (tq_x (to a)) p) f i := fun α _ z f => rfl
      have keep : ¬ (decide (i ≠ k) && gr_in W k (tq_x (to a)) i) = true → (q0 = wt a - fs 0 (fun p => decide (p ≠ k) && gr_in W k (tq_x (to a)) p) du (i + 1) ∧ r_x q1 q2 = 2 ^ a - fs 0 (fun p => decide (p ≠ k) && gr_in W k (tq_x (to a)) p) (fun p => r_x (dh p) (dl p)) (i + 1) ∧ 0 ≤ q2.toInt ∧ q2.toInt < 4611686018427387904 ∧ -(2 * (i + 1 : Nat) : Int) ≤ q1.toInt ∧ q1.toInt ≤ 2 * (i + 1 : Nat)) := fun hn => by
        rw [e1, e1, if_neg hn, if_neg hn]
        exact ⟨h1, h2, h3, h4, by omega, by omega⟩
      show (b_X4_restOf_24 to mm du dh dl a k i q0 q1 q2).1 = _ ∧ r_x (b_X4_restOf_24 to mm du dh dl a k i q0 q1 q2).2.1 (b_X4_restOf_24 to mm du dh dl a k i q0 q1 q2).2.2 = _ ∧ 0 ≤ (b_X4_restOf_24 to mm du dh dl a k i q0 q1 q2).2.2.toInt ∧ (b_X4_restOf_24 to mm du dh dl a k i q0 q1 q2).2.2.toInt < _ ∧ _ ≤ (b_X4_restOf_24 to mm du dh dl a k i q0 q1 q2).2.1.toInt ∧ (b_X4_restOf_24 to mm du dh dl a k i q0 q1 q2).2.1.toInt ≤ _
      unfold b_X4_restOf_24
      generalize hKc : (4611686018427387904 : Int64) = Kc
      have hK1 : Kc.toInt = 4611686018427387904 := by rw [← hKc]; exact fi_c
      clear hKc
      by_cases c1 : i = k
      · rw [if_pos (by rw [c1])]
        exact keep (fun h => by rw [c1] at h; simp at h)
      · rw [if_neg (fun h => c1 ((nI_eq (by omega) (by omega)).mp h)), (hW i hi).1, (hW k hk).1]
        have hs := fb_subset (b := W k) (hW i hi).2
        by_cases c2 : (nI (W i) &&& (nI (W k) ^^^ (-1))) = 0
        · rw [if_pos c2]
          have hh : f_X4_has mm i (to a) = f_X3_holds (mm i) (to a) := rfl
          rw [hh, (hW i hi).1]
          have hb := fb_holds0 (hW i hi).2 hta
          by_cases c3 : f_X3_holds (nI (W i)) (to a) = 0
          · rw [if_pos c3]
            refine keep (fun h => ?_)
            rw [Bool.and_eq_true] at h
            have h9 := h.2
            unfold gr_in at h9
            rw [hb.mp c3, Bool.false_and] at h9
            exact Bool.false_ne_true h9
          · rw [if_neg c3]
            have hin : (decide (i ≠ k) && gr_in W k (tq_x (to a)) i) = true := by
              rw [Bool.and_eq_true]
              refine ⟨decide_eq_true c1, ?_⟩
              unfold gr_in
              rw [Bool.and_eq_true, decide_eq_true_eq]
              refine ⟨?_, hs.mp c2⟩
              cases ht : (W i).testBit (tq_x (to a))
              · exact absurd (hb.mpr ht) c3
              · rfl
            obtain ⟨o1, o2, o3, o4⟩ := hok i hi c1
            have s2 : (q2 - dl i).toInt = q2.toInt - (dl i).toInt := fi_sub (by omega) (by omega)
            have s1 : (q1 - dh i).toInt = q1.toInt - (dh i).toInt := fi_sub (by omega) (by omega)
            rw [e1, e1, if_pos hin, if_pos hin]
            have hcg := lg_cmp_ge (q2 - dl i) 0
            have hx : r_x (dh i) (dl i) = (dh i).toInt * 4611686018427387904 + (dl i).toInt := rfl
            by_cases c4 : 0 ≤ q2 - dl i
            · rw [if_pos (hcg.mpr c4)]
              have c5 : 0 ≤ (q2 - dl i).toInt := Int64.le_iff_toInt_le.mp c4
              refine ⟨?_, ?_, c5, ?_, ?_, ?_⟩
              · show q0 - du i = _
                rw [h1, fi_ss]
              · show (q1 - dh i).toInt * 4611686018427387904 + (q2 - dl i).toInt = _
                rw [s1, s2, hx]; omega
              · show (q2 - dl i).toInt < _
                omega
              · show _ ≤ (q1 - dh i).toInt
                omega
              · show (q1 - dh i).toInt ≤ _
                omega
            · rw [if_neg (fun h => c4 (hcg.mp h))]
              have c5 : (q2 - dl i).toInt < 0 := Int.not_le.mp (fun h => c4 (Int64.le_iff_toInt_le.mpr h))
              have s3 : ((q2 - dl i) + Kc).toInt = (q2 - dl i).toInt + 4611686018427387904 := (fi_add (by rw [hK1]; omega) (by rw [hK1]; omega)).trans (by rw [hK1])
              have s4 : ((q1 - dh i) - 1).toInt = (q1 - dh i).toInt - 1 := (fi_sub (by rw [fi_1]; omega) (by rw [fi_1]; omega)).trans (by rw [fi_1])
              refine ⟨?_, ?_, ?_, ?_, ?_, ?_⟩
              · show q0 - du i = _
                rw [h1, fi_ss]
              · show ((q1 - dh i) - 1).toInt * 4611686018427387904 + ((q2 - dl i) + Kc).toInt = _
                rw [s3, s4, s1, s2, hx]; omega
              · show 0 ≤ ((q2 - dl i) + Kc).toInt
                rw [s3]; omega
              · show ((q2 - dl i) + Kc).toInt < _
                rw [s3]; omega
              · show _ ≤ ((q1 - dh i) - 1).toInt
                rw [s4]; omega
              · show ((q1 - dh i) - 1).toInt ≤ _
                rw [s4]; omega
        · rw [if_neg c2]
          refine keep (fun h => ?_)
          rw [Bool.and_eq_true] at h
          have h9 := h.2
          unfold gr_in at h9
          rw [Bool.and_eq_true, decide_eq_true_eq] at h9
          exact c2 (hs.mpr h9.2)
  have h9 := key md (Nat.le_refl _)
  revert h9
  unfold f_X4_restOf
  generalize t_X4_restOf_24 to mm du dh dl a k ((wt a), 0, ((1 : Int64) <<< ((nI a : Int32).toInt64 &&& 63))) md = z
  intro h9
  exact ⟨h9.1, h9.2.1, h9.2.2.1, h9.2.2.2.1, by have := h9.2.2.2.2.1; show -96 ≤ z.2.1.toInt; omega, by have := h9.2.2.2.2.2; show z.2.1.toInt ≤ 96; omega⟩
