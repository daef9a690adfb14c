/-! longs whose bits are a row of truths -/
theorem lN_bv (n : Nat) : (lN n).toBitVec = BitVec.ofNat 64 n := rfl
theorem l_and (a b : Nat) : lN a &&& lN b = lN (a &&& b) := by
  apply Int64.toBitVec_inj.mp
  rw [Int64.toBitVec_and, lN_bv, lN_bv, lN_bv]
  apply BitVec.eq_of_toNat_eq
  rw [BitVec.toNat_and, BitVec.toNat_ofNat, BitVec.toNat_ofNat, BitVec.toNat_ofNat, Nat.and_mod_two_pow]
theorem l_or (a b : Nat) : lN a ||| lN b = lN (a ||| b) := by
  apply Int64.toBitVec_inj.mp
  rw [Int64.toBitVec_or, lN_bv, lN_bv, lN_bv]
  apply BitVec.eq_of_toNat_eq
  rw [BitVec.toNat_or, BitVec.toNat_ofNat, BitVec.toNat_ofNat, BitVec.toNat_ofNat, Nat.or_mod_two_pow]
theorem l_xor (a b : Nat) : lN a ^^^ lN b = lN (a ^^^ b) := by
  apply Int64.toBitVec_inj.mp
  rw [Int64.toBitVec_xor, lN_bv, lN_bv, lN_bv]
  apply BitVec.eq_of_toNat_eq
  rw [BitVec.toNat_xor, BitVec.toNat_ofNat, BitVec.toNat_ofNat, BitVec.toNat_ofNat, Nat.xor_mod_two_pow]
theorem l_half {v : Nat} (h : v < 2 ^ 63) : lN v / 2 = lN (v / 2) := by
  rw [show (2 : Int64) = lN 2 from rfl, pk_lDiv h (by decide) (by decide)]
theorem l_rem {v : Nat} (h : v < 2 ^ 63) : lN v - lN v / 2 * 2 = lN (v % 2) := by
  rw [show (2 : Int64) = lN 2 from rfl, pk_lRem h (by decide) (by decide)]
theorem l_one (v : Nat) : lN v &&& 1 = lN (v % 2) := by
  rw [show (1 : Int64) = lN 1 from rfl, l_and, Nat.and_one_is_mod]
theorem l_ushr {v : Nat} (h : v < 2 ^ 63) : ((Int64.toUInt64 (lN v)) >>> ((Int32.toInt64 1).toUInt64 &&& Int64.toUInt64 63)).toInt64 = lN (v / 2) := by
  rw [show (Int32.toInt64 1).toUInt64 &&& Int64.toUInt64 63 = 1 from by decide]
  apply Int64.toBitVec_inj.mp
  show ((Int64.toUInt64 (lN v)) >>> (1 : UInt64)).toBitVec = _
  rw [UInt64.toBitVec_shiftRight]
  show (lN v).toBitVec >>> _ = _
  rw [lN_bv, lN_bv]
  apply BitVec.eq_of_toNat_eq
  rw [show ((1 : UInt64).toBitVec % 64) = (1 : BitVec 64) from by decide]
  show (BitVec.ofNat 64 v >>> (1 : BitVec 64).toNat).toNat = _
  rw [BitVec.toNat_ushiftRight, BitVec.toNat_ofNat, BitVec.toNat_ofNat, Nat.mod_eq_of_lt (by omega : v < 2 ^ 64), Nat.mod_eq_of_lt (by omega : v / 2 < 2 ^ 64), Nat.shiftRight_eq_div_pow]
  rfl
theorem l_shl (v : Nat) : lN v <<< (Int32.toInt64 1 &&& 63) = lN (2 * v) := by
  rw [show Int32.toInt64 1 &&& 63 = 1 from by decide]
  apply Int64.toBitVec_inj.mp
  rw [Int64.toBitVec_shiftLeft, lN_bv, lN_bv]
  apply BitVec.eq_of_toNat_eq
  rw [show ((1 : Int64).toBitVec.smod 64) = (1 : BitVec 64) from by decide]
  simp [BitVec.toNat_shiftLeft, Nat.shiftLeft_eq]
  omega
theorem l_dbl (v : Nat) : (2 : Int64) * lN v = lN (2 * v) := by rw [show (2 : Int64) = lN 2 from rfl, lN_mul]
theorem n_or1 (v : Nat) : 2 * v ||| 1 = 2 * v + 1 := by
  apply Nat.eq_of_testBit_eq
  intro i
  cases i with
  | zero => simp
  | succ i =>
    rw [Nat.testBit_or, Nat.testBit_succ, Nat.testBit_succ, Nat.testBit_succ, show 2 * v / 2 = v by omega, show (2 * v + 1) / 2 = v by omega, show 1 / 2 = 0 by decide]
    simp
theorem l_push (v : Nat) (b : Bool) : (lN v <<< (Int32.toInt64 1 &&& 63)) ||| Int32.toInt64 (b2 b) = lN (2 * v + (if b then 1 else 0)) := by
  rw [l_shl]
  cases b
  · rw [show Int32.toInt64 (b2 false) = lN 0 from by decide, l_or]; simp
  · rw [show Int32.toInt64 (b2 true) = lN 1 from by decide, l_or, n_or1]; simp
/-- the mask that leaves all but the lowest bit -/
def mNot : Nat := 2 ^ 64 - 2
theorem l_m2 : (-2 : Int64) = lN mNot := by decide
theorem l_m1 : (-1 : Int64) = lN (2 ^ 64 - 1) := by decide
def andN (v : Nat) : Nat := if v % 2 = 1 then v / 2 else v / 2 &&& mNot
def orN (v : Nat) : Nat := v / 2 ||| v % 2
theorem l_and_c {v : Nat} (h : v < 2 ^ 63) : lN (v / 2) &&& (lN v ||| (-2)) = lN (andN v) := by
  have key : ∀ j : Nat, (v ||| mNot).testBit j = (decide (j < 64) && (decide (j ≠ 0) || v.testBit 0)) := by
    intro j
    rw [Nat.testBit_or]
    have hm : mNot.testBit j = (decide (j < 64) && decide (j ≠ 0)) := by
      unfold mNot
      rw [show 2 ^ 64 - 2 = 2 * (2 ^ 63 - 1) from by decide]
      cases j with
      | zero => simp
      | succ j =>
        rw [Nat.testBit_succ, show 2 * (2 ^ 63 - 1) / 2 = 2 ^ 63 - 1 from by decide, Nat.testBit_two_pow_sub_one]
        simp
        omega
    rw [hm]
    by_cases h0 : j = 0
    · subst h0; simp
    · by_cases h64 : j < 64
      · simp [h0, h64]
      · have : v.testBit j = false := Nat.testBit_lt_two_pow (Nat.lt_of_lt_of_le h (Nat.pow_le_pow_right (by decide) (by omega)))
        simp [h0, h64, this]
  rw [l_m2, l_or, l_and]
  unfold andN
  by_cases c : v % 2 = 1
  · rw [if_pos c]
    congr 1
    apply Nat.eq_of_testBit_eq
    intro j
    rw [Nat.testBit_and, key]
    have h0 : v.testBit 0 = true := by simp [c]
    rw [h0]
    by_cases h64 : j < 64
    · simp [h64]
    · have : (v / 2).testBit j = false := Nat.testBit_lt_two_pow (Nat.lt_of_lt_of_le (by omega : v / 2 < 2 ^ 63) (Nat.pow_le_pow_right (by decide) (by omega)))
      simp [this]
  · rw [if_neg c]
    congr 1
    apply Nat.eq_of_testBit_eq
    intro j
    rw [Nat.testBit_and, Nat.testBit_and, key]
    have h0 : v.testBit 0 = false := by simp; omega
    rw [h0]
    have hm : mNot.testBit j = (decide (j < 64) && decide (j ≠ 0)) := by
      unfold mNot
      rw [show 2 ^ 64 - 2 = 2 * (2 ^ 63 - 1) from by decide]
      cases j with
      | zero => simp
      | succ j =>
        rw [Nat.testBit_succ, show 2 * (2 ^ 63 - 1) / 2 = 2 ^ 63 - 1 from by decide, Nat.testBit_two_pow_sub_one]
        simp
        omega
    rw [hm]
    simp
theorem andN_lt {v p : Nat} (h : v < 2 ^ (p + 1)) : andN v < 2 ^ (p + 1) := by
  unfold andN
  split
  · omega
  · exact Nat.lt_of_le_of_lt Nat.and_le_left (by omega)
theorem orN_lt {v p : Nat} (h : v < 2 ^ (p + 1)) : orN v < 2 ^ (p + 1) := by
  unfold orN
  refine Nat.or_lt_two_pow (by omega) ?_
  have : 2 ^ 1 ≤ 2 ^ (p + 1) := Nat.pow_le_pow_right (by decide) (by omega)
  omega
theorem xor1_lt {v p : Nat} (h : v < 2 ^ (p + 1)) : v ^^^ 1 < 2 ^ (p + 1) := by
  refine Nat.xor_lt_two_pow h ?_
  have : 2 ^ 1 ≤ 2 ^ (p + 1) := Nat.pow_le_pow_right (by decide) (by omega)
  omega
theorem lg_cmp_one {v : Nat} (h : v < 2) : (lg_cmp (lN v) 1 = 0) = (v = 1) := by
  rcases (show v = 0 ∨ v = 1 by omega) with rfl | rfl
  · exact propext ⟨fun q => absurd q (by decide), fun q => absurd q (by decide)⟩
  · exact propext ⟨fun _ => rfl, fun _ => by decide⟩
