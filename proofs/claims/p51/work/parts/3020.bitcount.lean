/-! Long.bitCount is the number of bits -/
def un (v : Int64) : Nat := v.toBitVec.toNat
theorem un_lt (v : Int64) : un v < 18446744073709551616 := v.toBitVec.isLt
theorem un_us (v : Int64) (k : Int) (m : Nat) (h : ((Int32.ofInt k).toInt64.toUInt64 &&& Int64.toUInt64 63).toNat = m) (hm : m < 64) : un (zt_us v k) = un v / 2 ^ m := by
  unfold un zt_us
  rw [UInt64.toBitVec_toInt64, UInt64.toNat_toBitVec, UInt64.toNat_shiftRight, h, Nat.mod_eq_of_lt hm, Nat.shiftRight_eq_div_pow]
  rfl
theorem un_and (a b : Int64) : un (a &&& b) = un a &&& un b := by
  unfold un
  rw [Int64.toBitVec_and, BitVec.toNat_and]
theorem un_add (a b : Int64) (h : un a + un b < 18446744073709551616) : un (a + b) = un a + un b := by
  unfold un at *
  rw [Int64.toBitVec_add, BitVec.toNat_add]
  exact Nat.mod_eq_of_lt h
theorem un_sub (a b : Int64) (h : un b ≤ un a) : un (a - b) = un a - un b := by
  have ha := un_lt a
  unfold un at *
  rw [Int64.toBitVec_sub, BitVec.toNat_sub]
  omega
theorem un_low (v : Int64) : zt_and (zt_i v) 127 = ((un v % 128 : Nat) : Int) := by
  unfold zt_and zt_i un
  rw [Int32.ofInt_toInt]
  have h : (v.toInt32 &&& Int32.ofInt 127).toBitVec.toNat = v.toBitVec.toNat % 128 := by
    rw [Int32.toBitVec_and, BitVec.toNat_and, Int64.toBitVec_toInt32, BitVec.signExtend_eq_setWidth_of_le _ (by decide), BitVec.toNat_setWidth, show (Int32.ofInt 127).toBitVec.toNat = 2 ^ 7 - 1 by decide, Nat.and_two_pow_sub_one_eq_mod]
    omega
  show (v.toInt32 &&& Int32.ofInt 127).toBitVec.toInt = _
  rw [BitVec.toInt_eq_toNat_cond, h]
  split <;> omega
theorem un_m1 : un (6148914691236517205 : Int64) = b5 8 := by decide +kernel
theorem un_m2 : un (3689348814741910323 : Int64) = b3 8 := by decide +kernel
theorem un_m3 : un (1085102592571150095 : Int64) = bF 8 := by decide +kernel
def s1 (v : Int64) : Int64 := v - ((zt_us v (1 : Int)) &&& (6148914691236517205 : Int64))
def s2 (v : Int64) : Int64 := (v &&& (3689348814741910323 : Int64)) + ((zt_us v (2 : Int)) &&& (3689348814741910323 : Int64))
def s3 (v : Int64) : Int64 := (v + (zt_us v (4 : Int))) &&& (1085102592571150095 : Int64)
def s4 (v : Int64) : Int64 := v + zt_us v (8 : Int)
def s5 (v : Int64) : Int64 := v + zt_us v (16 : Int)
def s6 (v : Int64) : Int64 := v + zt_us v (32 : Int)
theorem un_s1 (v : Int64) : un (s1 v) = c1 8 (un v) := by
  unfold s1 c1
  rw [un_sub _ _ ?_, un_and, un_us v 1 1 (by decide) (by decide), un_m1]
  rw [un_and, un_us v 1 1 (by decide) (by decide)]
  have : (un v / 2 ^ 1 &&& un 6148914691236517205) ≤ un v / 2 ^ 1 := Nat.and_le_left
  omega
theorem b3_8 : b3 8 = 3689348814741910323 := by decide
theorem bF_8 : bF 8 = 1085102592571150095 := by decide
theorem un_s2 (v : Int64) : un (s2 v) = c2 8 (un v) ∧ c2 8 (un v) ≤ 7378697629483820646 := by
  unfold s2 c2
  have g1 : (un v &&& b3 8) ≤ b3 8 := Nat.and_le_right
  have g2 : (un v / 4 &&& b3 8) ≤ b3 8 := Nat.and_le_right
  rw [b3_8] at g1 g2
  refine ⟨?_, by rw [b3_8]; omega⟩
  rw [un_add _ _ ?_, un_and, un_and, un_us v 2 2 (by decide) (by decide), un_m2]
  rw [un_and, un_and, un_us v 2 2 (by decide) (by decide), un_m2, b3_8]
  have : (2 : Nat) ^ 2 = 4 := by decide
  rw [this]
  omega
theorem un_s3 (v : Int64) (h : un v ≤ 7378697629483820646) : un (s3 v) = c3 8 (un v) := by
  unfold s3 c3
  have : (2 : Nat) ^ 4 = 16 := by decide
  rw [un_and, un_add _ _ ?_, un_us v 4 4 (by decide) (by decide), un_m3, this]
  rw [un_us v 4 4 (by decide) (by decide), this]
  omega
theorem un_s (v : Int64) (k : Int) (m : Nat) (h : ((Int32.ofInt k).toInt64.toUInt64 &&& Int64.toUInt64 63).toNat = m) (hm : m < 64) (hs : un v + un v / 2 ^ m < 18446744073709551616) : un (v + zt_us v k) = un v + un v / 2 ^ m := by
  rw [un_add _ _ ?_, un_us v k m h hm]
  rw [un_us v k m h hm]
  exact hs
theorem bc_eq (v : Int64) (σ : zt_S) : F_J_bitCount v σ = some (zt_and (zt_i (s6 (s5 (s4 (s3 (s2 (s1 v))))))) 127, σ) := rfl
theorem pop8_le (n : Nat) : pop8 (n % 256) ≤ 8 := (byte_ok _ (Nat.mod_lt _ (by decide))).2.2.2.2
