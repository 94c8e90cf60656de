/-! BITS of an int below 32768 -/
theorem i32_n (n : Nat) : (Int32.ofInt (n : Int)).toBitVec = BitVec.ofNat 32 n := by
  show BitVec.ofInt 32 (n : Int) = _
  exact BitVec.ofInt_natCast 32 n
theorem bv_n {n : Nat} (h : n < 2147483648) : (BitVec.ofNat 32 n).toInt = (n : Int) := by
  rw [BitVec.toInt_eq_toNat_of_lt (by rw [BitVec.toNat_ofNat]; omega), BitVec.toNat_ofNat]
  omega
/-- an int is known by its bits -/
theorem bt_by {x : Int32} {n : Nat} (h : n < 2147483648) (e : ∀ i, i < 32 → x.toBitVec.getLsbD i = n.testBit i) : x.toInt = (n : Int) := by
  show x.toBitVec.toInt = _
  have : x.toBitVec = BitVec.ofNat 32 n := BitVec.eq_of_getLsbD_eq (fun i hi => by
    rw [e i hi, BitVec.getLsbD_ofNat, decide_eq_true hi, Bool.true_and])
  rw [this, bv_n h]
theorem bt_n (n : Nat) {i : Nat} (hi : i < 32) : (Int32.ofInt (n : Int)).toBitVec.getLsbD i = n.testBit i := by
  rw [i32_n, BitVec.getLsbD_ofNat, decide_eq_true hi, Bool.true_and]
theorem bt_m2 : ∀ i, i < 32 → (Int32.ofInt (-2)).toBitVec.getLsbD i = decide (i ≠ 0) := by decide
theorem bt_1 : ∀ i, i < 32 → (Int32.ofInt 1).toBitVec.getLsbD i = decide (i = 0) := by decide
theorem tb_0 {m b : Nat} (hb : b < 2) : (2 * m + b).testBit 0 = decide (b = 1) := by
  rw [Nat.testBit_zero]
  rw [show (2 * m + b) % 2 = b by omega]
theorem tb_s {m b i : Nat} (hb : b < 2) : (2 * m + b).testBit (i + 1) = m.testBit i := by
  rw [Nat.testBit_succ, show (2 * m + b) / 2 = m by omega]
theorem q_xor {m b : Nat} (hb : b < 2) (h : m < 1000000) : zt_xor ((2 * m + b : Nat) : Int) 1 = ((2 * m + (1 - b) : Nat) : Int) := by
  unfold zt_xor
  refine bt_by (by omega) (fun i hi => ?_)
  rw [Int32.toBitVec_xor, BitVec.getLsbD_xor, bt_n _ hi, bt_1 i hi]
  cases i with
  | zero =>
    rw [tb_0 hb, tb_0 (by omega)]
    have : b = 0 ∨ b = 1 := by omega
    rcases this with z | z <;> subst z <;> rfl
  | succ i =>
    rw [tb_s hb, tb_s (by omega)]
    simp
theorem q_and1 {m b : Nat} (hb : b < 2) : zt_and ((2 * m + b : Nat) : Int) 1 = ((b : Nat) : Int) := by
  unfold zt_and
  refine bt_by (by omega) (fun i hi => ?_)
  rw [Int32.toBitVec_and, BitVec.getLsbD_and, bt_n _ hi, bt_1 i hi]
  have hb' : b = 0 ∨ b = 1 := by omega
  cases i with
  | zero =>
    rw [tb_0 hb]
    rcases hb' with z | z <;> subst z <;> rfl
  | succ i =>
    rw [tb_s hb]
    rcases hb' with z | z <;> subst z <;> simp [Nat.testBit_succ]
theorem q_or {m b : Nat} {c : Nat} (hb : b < 2) (hc : c < 2) (h : m < 1000000) : zt_or ((2 * m + b : Nat) : Int) ((c : Nat) : Int) = ((2 * m + (if b = 1 ∨ c = 1 then 1 else 0) : Nat) : Int) := by
  have hb' : b = 0 ∨ b = 1 := by omega
  have hc' : c = 0 ∨ c = 1 := by omega
  unfold zt_or
  refine bt_by (by split <;> omega) (fun i hi => ?_)
  rw [Int32.toBitVec_or, BitVec.getLsbD_or, bt_n _ hi, bt_n _ hi]
  cases i with
  | zero =>
    rw [tb_0 hb, tb_0 (by split <;> omega)]
    rcases hb' with z | z <;> rcases hc' with y | y <;> subst z <;> subst y <;> rfl
  | succ i =>
    rw [tb_s hb, tb_s (by split <;> omega)]
    rcases hc' with y | y <;> subst y <;> simp [Nat.testBit_succ]
/-- the conjunction of the latest two -/
theorem q_and {m n b c : Nat} (hb : b < 2) (hc : c < 2) (h : m < 1000000) : zt_and ((2 * m + b : Nat) : Int) (zt_or ((2 * n + c : Nat) : Int) (-2)) = ((2 * m + (if b = 1 ∧ c = 1 then 1 else 0) : Nat) : Int) := by
  have hb' : b = 0 ∨ b = 1 := by omega
  have hc' : c = 0 ∨ c = 1 := by omega
  have e : Int32.ofInt (zt_or ((2 * n + c : Nat) : Int) (-2)) = Int32.ofInt ((2 * n + c : Nat) : Int) ||| Int32.ofInt (-2) := by
    unfold zt_or
    exact Int32.ofInt_toInt _
  unfold zt_and
  rw [e]
  refine bt_by (by split <;> omega) (fun i hi => ?_)
  rw [Int32.toBitVec_and, BitVec.getLsbD_and, Int32.toBitVec_or, BitVec.getLsbD_or, bt_n _ hi, bt_n _ hi, bt_m2 i hi]
  cases i with
  | zero =>
    rw [tb_0 hb, tb_0 hc, tb_0 (by split <;> omega)]
    rcases hb' with z | z <;> rcases hc' with y | y <;> subst z <;> subst y <;> rfl
  | succ i =>
    rw [tb_s hb, tb_s (b := if b = 1 ∧ c = 1 then 1 else 0) (by split <;> omega)]
    simp
theorem q_sh : ((Int32.ofInt 1 &&& 31).toBitVec.smod 32) = 1#32 := by decide
theorem q_shl {n : Nat} (h : n < 1000000) : zt_shl ((n : Nat) : Int) 1 = ((2 * n : Nat) : Int) := by
  unfold zt_shl
  show ((Int32.ofInt (n : Int)).toBitVec <<< ((Int32.ofInt 1 &&& 31).toBitVec.smod 32)).toInt = _
  rw [q_sh, i32_n]
  have : (BitVec.ofNat 32 n <<< 1#32) = BitVec.ofNat 32 (2 * n) := by
    apply BitVec.eq_of_toNat_eq
    rw [BitVec.shiftLeft_eq', BitVec.toNat_shiftLeft, BitVec.toNat_ofNat, BitVec.toNat_ofNat, Nat.shiftLeft_eq]
    rw [show (1 % 2 ^ 32) = 1 from rfl, Nat.mod_eq_of_lt (show n < 2 ^ 32 by omega), Nat.pow_one, BitVec.toNat_ofNat, Nat.mul_comm]
  rw [this, bv_n (by omega)]
theorem q_shr {n : Nat} (h : n < 1000000) : zt_shr ((n : Nat) : Int) 1 = ((n / 2 : Nat) : Int) := by
  unfold zt_shr
  show ((Int32.ofInt (n : Int)).toBitVec.sshiftRight' ((Int32.ofInt 1 &&& 31).toBitVec.smod 32)).toInt = _
  rw [q_sh, i32_n, BitVec.sshiftRight_eq', BitVec.toInt_sshiftRight, bv_n (by omega)]
  show (n : Int) >>> 1 = _
  rw [Int.shiftRight_eq_div_pow]
  omega
