/-! Sets of nodes as numbers: ints below 2^24 by their bits, and how many bits there are. -/
theorem tb_tn {n : Nat} (h : n < 2 ^ 32) : (nI n).toBitVec.toNat = n := by
  show (BitVec.ofNat 32 n).toNat = n
  rw [BitVec.toNat_ofNat, Nat.mod_eq_of_lt h]
theorem tb_eq {x : Int32} {n : Nat} (h : x.toBitVec.toNat = n) : x = nI n := by
  apply Int32.toBitVec_inj.1
  show x.toBitVec = BitVec.ofNat 32 n
  apply BitVec.eq_of_toNat_eq
  rw [BitVec.toNat_ofNat, ← h, Nat.mod_eq_of_lt x.toBitVec.isLt]
theorem tb_and {a b : Nat} (ha : a < 2 ^ 32) (hb : b < 2 ^ 32) : nI a &&& nI b = nI (a &&& b) := tb_eq (by rw [Int32.toBitVec_and, BitVec.toNat_and, tb_tn ha, tb_tn hb])
theorem tb_or {a b : Nat} (ha : a < 2 ^ 32) (hb : b < 2 ^ 32) : nI a ||| nI b = nI (a ||| b) := tb_eq (by rw [Int32.toBitVec_or, BitVec.toNat_or, tb_tn ha, tb_tn hb])
theorem tb_sub {a b : Nat} (h : b ≤ a) : nI a - nI b = nI (a - b) := by
  have e1 := nI_add (a - b) b
  rw [Nat.sub_add_cancel h] at e1
  rw [← e1, Int32.add_sub_cancel]
theorem tb_cnt : ∀ v, v < 32 → ((nI v &&& 31).toBitVec.smod 32).toNat = v := by decide +kernel
theorem tb_cntu : ∀ v, v < 32 → (((nI v).toUInt32 &&& Int32.toUInt32 31).toBitVec % 32).toNat = v := by decide +kernel
theorem tb_shr {n v : Nat} (hn : n < 2 ^ 31) (hv : v < 32) : nI n >>> (nI v &&& 31) = nI (n / 2 ^ v) := by
  have hm : (nI n).toBitVec.msb = false := BitVec.msb_eq_false_iff_two_mul_lt.mpr (by rw [tb_tn (by omega)]; omega)
  refine tb_eq ?_
  rw [Int32.toBitVec_shiftRight]
  show ((nI n).toBitVec.sshiftRight ((nI v &&& 31).toBitVec.smod 32).toNat).toNat = _
  rw [tb_cnt v hv, BitVec.sshiftRight_eq_of_msb_false hm, BitVec.toNat_ushiftRight, tb_tn (by omega), Nat.shiftRight_eq_div_pow]
theorem tb_ushr {n v : Nat} (hn : n < 2 ^ 32) (hv : v < 32) : ((nI n).toUInt32 >>> ((nI v).toUInt32 &&& Int32.toUInt32 31)).toInt32 = nI (n / 2 ^ v) := by
  refine tb_eq ?_
  show ((nI n).toUInt32 >>> ((nI v).toUInt32 &&& Int32.toUInt32 31)).toBitVec.toNat = _
  rw [UInt32.toBitVec_shiftRight]
  show ((nI n).toBitVec >>> (((nI v).toUInt32 &&& Int32.toUInt32 31).toBitVec % 32).toNat).toNat = _
  rw [tb_cntu v hv, BitVec.toNat_ushiftRight, tb_tn hn, Nat.shiftRight_eq_div_pow]
theorem tb_one : ∀ v, v < 31 → (1 : Int32) <<< (nI v &&& 31) = nI (2 ^ v) := by decide +kernel
theorem tb_and1 (n : Nat) : n &&& 1 = n % 2 := Nat.and_one_is_mod n
/-- the bit v of a set of nodes -/
theorem tb_bit {n v : Nat} (hn : n < 2 ^ 24) (hv : v < 24) : (nI n >>> (nI v &&& 31)) &&& 1 = nI (n / 2 ^ v % 2) := by
  have h1 : n / 2 ^ v ≤ n := Nat.div_le_self _ _
  rw [tb_shr (by omega) (by omega), show (1 : Int32) = nI 1 from rfl, tb_and (by omega) (by decide), tb_and1]
theorem tb_test {n v : Nat} : n.testBit v = decide (n / 2 ^ v % 2 = 1) := Nat.testBit_eq_decide_div_mod_eq
/-- how many of the first 24 bits are set -/
def tb_pc (n : Nat) : Nat → Nat
  | 0 => 0
  | v + 1 => tb_pc n v + n / 2 ^ v % 2
theorem tb_split {h b m c : Nat} (hb : b < 256) (hc : c < 256) : (256 * h + b) &&& (256 * m + c) = 256 * (h &&& m) + (b &&& c) := by
  have h1 : b &&& c < 2 ^ 8 := Nat.and_lt_two_pow _ (show c < 2 ^ 8 from hc)
  apply Nat.eq_of_testBit_eq
  intro i
  rw [Nat.testBit_and, show 256 * h + b = 2 ^ 8 * h + b from rfl, show 256 * m + c = 2 ^ 8 * m + c from rfl, show 256 * (h &&& m) + (b &&& c) = 2 ^ 8 * (h &&& m) + (b &&& c) from rfl,
    Nat.testBit_two_pow_mul_add _ (show b < 2 ^ 8 from hb), Nat.testBit_two_pow_mul_add _ (show c < 2 ^ 8 from hc), Nat.testBit_two_pow_mul_add _ h1]
  split
  · rw [Nat.testBit_and]
  · rw [Nat.testBit_and]
theorem tb_k1 : ∀ r, r < 2 → ∀ b, b < 256 → (128 * r + b / 2) &&& 85 = (b / 2) &&& 85 := by decide +kernel
theorem tb_k2 : ∀ r, r < 4 → ∀ b, b < 256 → (64 * r + b / 4) &&& 51 = (b / 4) &&& 51 := by decide +kernel
theorem tb_k3 : ∀ r, r < 16 → ∀ e, e < 32 → (16 * r + e) &&& 15 = e &&& 15 := by decide +kernel
/-- the three steps on a byte -/
def tb_y1 (b : Nat) : Nat := b - ((b / 2) &&& 85)
def tb_y2 (b : Nat) : Nat := (b &&& 51) + ((b / 4) &&& 51)
def tb_y3 (b : Nat) : Nat := (b + b / 16) &&& 15
theorem tb_y : ∀ b, b < 256 → tb_y1 b < 256 ∧ tb_y2 (tb_y1 b) < 256 ∧ tb_y2 (tb_y1 b) / 16 ≤ 4 ∧ tb_y2 (tb_y1 b) % 16 ≤ 4 ∧ tb_y3 (tb_y2 (tb_y1 b)) = tb_pc b 8 ∧ tb_pc b 8 ≤ 8 := by decide +kernel
theorem tb_s1 {h b m : Nat} (hb : b < 256) : (256 * h + b) - (((256 * h + b) / 2) &&& (256 * m + 85)) = 256 * (h - ((h / 2) &&& m)) + tb_y1 b := by
  have e1 : (256 * h + b) / 2 = 256 * (h / 2) + (128 * (h % 2) + b / 2) := by omega
  have h1 : (h / 2) &&& m ≤ h / 2 := Nat.and_le_left
  have h2 : (b / 2) &&& 85 ≤ b / 2 := Nat.and_le_left
  rw [e1, tb_split (by omega) (by decide), tb_k1 _ (by omega) _ hb]
  unfold tb_y1
  omega
theorem tb_s2 {h b m : Nat} (hb : b < 256) : ((256 * h + b) &&& (256 * m + 51)) + (((256 * h + b) / 4) &&& (256 * m + 51)) = 256 * ((h &&& m) + ((h / 4) &&& m)) + tb_y2 b := by
  have e1 : (256 * h + b) / 4 = 256 * (h / 4) + (64 * (h % 4) + b / 4) := by omega
  rw [e1, tb_split hb (by decide), tb_split (by omega) (by decide), tb_k2 _ (by omega) _ hb]
  unfold tb_y2
  omega
theorem tb_s3 {h b m : Nat} (hb : b < 256) (h1 : b / 16 ≤ 4) (h2 : b % 16 ≤ 4) (h3 : h % 16 ≤ 4) : ((256 * h + b) + (256 * h + b) / 16) &&& (256 * m + 15) = 256 * ((h + h / 16) &&& m) + tb_y3 b := by
  have e1 : (256 * h + b) + (256 * h + b) / 16 = 256 * (h + h / 16) + (16 * (h % 16) + (b + b / 16)) := by omega
  have e2 : 16 * (h % 16) + (b + b / 16) = 16 * (h % 16 + b / 16) + (b % 16 + b / 16) := by omega
  rw [e1, tb_split (by omega) (by decide), e2, tb_k3 _ (by omega) _ (by omega)]
  unfold tb_y3
  rw [show b + b / 16 = 16 * (b / 16) + (b % 16 + b / 16) by omega, tb_k3 _ (by omega) _ (by omega)]
theorem tb_pc_add {a b : Nat} (hb : b < 256) : ∀ v, v ≤ 16 → tb_pc (256 * a + b) (8 + v) = tb_pc b 8 + tb_pc a v := by
  have h8 : tb_pc (256 * a + b) 8 = tb_pc b 8 := by
    show 0 + (256 * a + b) / 2 ^ 0 % 2 + (256 * a + b) / 2 ^ 1 % 2 + (256 * a + b) / 2 ^ 2 % 2 + (256 * a + b) / 2 ^ 3 % 2 + (256 * a + b) / 2 ^ 4 % 2 + (256 * a + b) / 2 ^ 5 % 2 + (256 * a + b) / 2 ^ 6 % 2 + (256 * a + b) / 2 ^ 7 % 2 = 0 + b / 2 ^ 0 % 2 + b / 2 ^ 1 % 2 + b / 2 ^ 2 % 2 + b / 2 ^ 3 % 2 + b / 2 ^ 4 % 2 + b / 2 ^ 5 % 2 + b / 2 ^ 6 % 2 + b / 2 ^ 7 % 2
    omega
  intro v
  induction v with
  | zero => intro _; exact h8
  | succ v ih =>
    intro hv
    show tb_pc (256 * a + b) (8 + v) + (256 * a + b) / 2 ^ (8 + v) % 2 = tb_pc b 8 + (tb_pc a v + a / 2 ^ v % 2)
    have e1 : (256 * a + b) / 2 ^ (8 + v) = a / 2 ^ v := by
      rw [Nat.pow_add, ← Nat.div_div_eq_div_mul, show (256 * a + b) / 2 ^ 8 = a by omega]
    rw [ih (by omega), e1, Nat.add_assoc]
theorem tb_S1 {b0 b1 b2 : Nat} (h0 : b0 < 256) (h1 : b1 < 256) (h2 : b2 < 256) : (256 * (256 * b2 + b1) + b0) - (((256 * (256 * b2 + b1) + b0) / 2) &&& 1431655765) = 256 * (256 * tb_y1 b2 + tb_y1 b1) + tb_y1 b0 := by
  have e2 : b2 - ((b2 / 2) &&& 21845) = tb_y1 b2 := by
    have e := tb_s1 (h := 0) (b := b2) (m := 85) h2
    rw [show 256 * 0 + b2 = b2 by omega] at e
    exact e.trans (by rw [Nat.zero_sub]; omega)
  rw [show (1431655765 : Nat) = 256 * 5592405 + 85 from rfl, tb_s1 h0, show (5592405 : Nat) = 256 * 21845 + 85 from rfl, tb_s1 h1, e2]
theorem tb_S2 {b0 b1 b2 : Nat} (h0 : b0 < 256) (h1 : b1 < 256) (h2 : b2 < 256) : ((256 * (256 * b2 + b1) + b0) &&& 858993459) + (((256 * (256 * b2 + b1) + b0) / 4) &&& 858993459) = 256 * (256 * tb_y2 b2 + tb_y2 b1) + tb_y2 b0 := by
  have e2 : (b2 &&& 13107) + ((b2 / 4) &&& 13107) = tb_y2 b2 := by
    have e := tb_s2 (h := 0) (b := b2) (m := 51) h2
    rw [show 256 * 0 + b2 = b2 by omega, Nat.zero_and] at e
    exact e.trans (by omega)
  rw [show (858993459 : Nat) = 256 * 3355443 + 51 from rfl, tb_s2 h0, show (3355443 : Nat) = 256 * 13107 + 51 from rfl, tb_s2 h1, e2]
theorem tb_S3 {b0 b1 b2 : Nat} (h0 : b0 < 256) (h1 : b1 < 256) (h2 : b2 < 256) (p0 : b0 / 16 ≤ 4) (q0 : b0 % 16 ≤ 4) (p1 : b1 / 16 ≤ 4) (q1 : b1 % 16 ≤ 4) (p2 : b2 / 16 ≤ 4) (q2 : b2 % 16 ≤ 4) :
    ((256 * (256 * b2 + b1) + b0) + (256 * (256 * b2 + b1) + b0) / 16) &&& 252645135 = 256 * (256 * tb_y3 b2 + tb_y3 b1) + tb_y3 b0 := by
  have e2 : (b2 + b2 / 16) &&& 3855 = tb_y3 b2 := by
    have e := tb_s3 (h := 0) (b := b2) (m := 15) h2 p2 q2 (by omega)
    rw [show 256 * 0 + b2 = b2 by omega, Nat.zero_div, Nat.add_zero, Nat.zero_and] at e
    exact e.trans (by omega)
  rw [show (252645135 : Nat) = 256 * 986895 + 15 from rfl, tb_s3 h0 p0 q0 (by omega), show (986895 : Nat) = 256 * 3855 + 15 from rfl, tb_s3 h1 p1 q1 (by omega), e2]
/-- the library's count of bits is the number of bits -/
theorem tb_bitCount {n : Nat} (hn : n < 2 ^ 24) : f_J6_bitCount_0f7a4 (nI n) = nI (tb_pc n 24) := by
  obtain ⟨b0, b1, b2, h0, h1, h2, rfl⟩ : ∃ b0 b1 b2, b0 < 256 ∧ b1 < 256 ∧ b2 < 256 ∧ n = 256 * (256 * b2 + b1) + b0 := ⟨n % 256, n / 256 % 256, n / 65536, by omega, by omega, by omega, by omega⟩
  have y0 := tb_y b0 h0
  have y1 := tb_y b1 h1
  have y2 := tb_y b2 h2
  have l1 : ∀ x m : Nat, x &&& m ≤ x := fun x m => Nat.and_le_left
  have hA : nI (256 * (256 * b2 + b1) + b0) - ((((nI (256 * (256 * b2 + b1) + b0)).toUInt32 >>> ((1 : Int32).toUInt32 &&& Int32.toUInt32 31)).toInt32) &&& (1431655765)) = nI (256 * (256 * tb_y1 b2 + tb_y1 b1) + tb_y1 b0) := by
    have e1 : ((nI (256 * (256 * b2 + b1) + b0)).toUInt32 >>> ((1 : Int32).toUInt32 &&& Int32.toUInt32 31)).toInt32 = nI ((256 * (256 * b2 + b1) + b0) / 2) := tb_ushr (v := 1) (by omega) (by decide)
    have h3 := l1 ((256 * (256 * b2 + b1) + b0) / 2) 1431655765
    rw [e1, show (1431655765 : Int32) = nI 1431655765 from rfl, tb_and (by omega) (by decide), tb_sub (by omega), tb_S1 h0 h1 h2]
  have hB : (nI (256 * (256 * tb_y1 b2 + tb_y1 b1) + tb_y1 b0) &&& (858993459)) + ((((nI (256 * (256 * tb_y1 b2 + tb_y1 b1) + tb_y1 b0)).toUInt32 >>> ((2 : Int32).toUInt32 &&& Int32.toUInt32 31)).toInt32) &&& (858993459)) = nI (256 * (256 * tb_y2 (tb_y1 b2) + tb_y2 (tb_y1 b1)) + tb_y2 (tb_y1 b0)) := by
    have e1 : ((nI (256 * (256 * tb_y1 b2 + tb_y1 b1) + tb_y1 b0)).toUInt32 >>> ((2 : Int32).toUInt32 &&& Int32.toUInt32 31)).toInt32 = nI ((256 * (256 * tb_y1 b2 + tb_y1 b1) + tb_y1 b0) / 4) := tb_ushr (v := 2) (by omega) (by decide)
    rw [e1, show (858993459 : Int32) = nI 858993459 from rfl, tb_and (by omega) (by decide), tb_and (by omega) (by decide), nI_add, tb_S2 y0.1 y1.1 y2.1]
  have hC : (nI (256 * (256 * tb_y2 (tb_y1 b2) + tb_y2 (tb_y1 b1)) + tb_y2 (tb_y1 b0)) + (((nI (256 * (256 * tb_y2 (tb_y1 b2) + tb_y2 (tb_y1 b1)) + tb_y2 (tb_y1 b0))).toUInt32 >>> ((4 : Int32).toUInt32 &&& Int32.toUInt32 31)).toInt32)) &&& (252645135) = nI (256 * (256 * tb_pc b2 8 + tb_pc b1 8) + tb_pc b0 8) := by
    have e1 : ((nI (256 * (256 * tb_y2 (tb_y1 b2) + tb_y2 (tb_y1 b1)) + tb_y2 (tb_y1 b0))).toUInt32 >>> ((4 : Int32).toUInt32 &&& Int32.toUInt32 31)).toInt32 = nI ((256 * (256 * tb_y2 (tb_y1 b2) + tb_y2 (tb_y1 b1)) + tb_y2 (tb_y1 b0)) / 16) := tb_ushr (v := 4) (by omega) (by decide)
    rw [e1, nI_add, show (252645135 : Int32) = nI 252645135 from rfl, tb_and (by omega) (by decide), tb_S3 y0.2.1 y1.2.1 y2.2.1 y0.2.2.1 y0.2.2.2.1 y1.2.2.1 y1.2.2.2.1 y2.2.2.1 y2.2.2.2.1, y0.2.2.2.2.1, y1.2.2.2.2.1, y2.2.2.2.2.1]
  have g0 := y0.2.2.2.2.2
  have g1 := y1.2.2.2.2.2
  have g2 := y2.2.2.2.2.2
  have hp : tb_pc (256 * (256 * b2 + b1) + b0) 24 = tb_pc b0 8 + (tb_pc b1 8 + tb_pc b2 8) := by
    rw [tb_pc_add h0 16 (by decide), tb_pc_add h1 8 (by decide)]
  rw [hp]
  generalize tb_pc b0 8 = e0 at hC g0 ⊢
  generalize tb_pc b1 8 = e1 at hC g1 ⊢
  generalize tb_pc b2 8 = e2 at hC g2 ⊢
  have hD : nI (256 * (256 * e2 + e1) + e0) + (((nI (256 * (256 * e2 + e1) + e0)).toUInt32 >>> ((8 : Int32).toUInt32 &&& Int32.toUInt32 31)).toInt32) = nI (256 * (256 * e2 + e1) + e0 + (256 * e2 + e1)) := by
    have e3 : ((nI (256 * (256 * e2 + e1) + e0)).toUInt32 >>> ((8 : Int32).toUInt32 &&& Int32.toUInt32 31)).toInt32 = nI ((256 * (256 * e2 + e1) + e0) / 256) := tb_ushr (v := 8) (by omega) (by decide)
    rw [e3, nI_add, show (256 * (256 * e2 + e1) + e0) / 256 = 256 * e2 + e1 by omega]
  have hE : nI (256 * (256 * e2 + e1) + e0 + (256 * e2 + e1)) + (((nI (256 * (256 * e2 + e1) + e0 + (256 * e2 + e1))).toUInt32 >>> ((16 : Int32).toUInt32 &&& Int32.toUInt32 31)).toInt32) = nI (256 * (256 * e2 + e1) + e0 + (256 * e2 + e1) + e2) := by
    have e3 : ((nI (256 * (256 * e2 + e1) + e0 + (256 * e2 + e1))).toUInt32 >>> ((16 : Int32).toUInt32 &&& Int32.toUInt32 31)).toInt32 = nI ((256 * (256 * e2 + e1) + e0 + (256 * e2 + e1)) / 65536) := tb_ushr (v := 16) (by omega) (by decide)
    rw [e3, nI_add, show (256 * (256 * e2 + e1) + e0 + (256 * e2 + e1)) / 65536 = e2 by omega]
  unfold f_J6_bitCount_0f7a4
  rw [hA, hB, hC, hD, hE, show (63 : Int32) = nI 63 from rfl, tb_and (by omega) (by decide), show (63 : Nat) = 2 ^ 6 - 1 from rfl, Nat.and_two_pow_sub_one_eq_mod]
  congr 1
  omega
