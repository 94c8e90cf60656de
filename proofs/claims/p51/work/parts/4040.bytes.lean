/-! BYTES IN WORDS -/
theorem i32n {x : Int} (h : 0 ≤ x ∧ x < 4294967296) : (Int32.ofInt x).toBitVec.toNat = x.toNat := by
  show (BitVec.ofInt 32 x).toNat = x.toNat
  rw [BitVec.toNat_ofInt]
  omega
theorem i32i {y : Int32} (h : y.toBitVec.toNat < 2147483648) : y.toInt = (y.toBitVec.toNat : Int) := by
  show y.toBitVec.toInt = _
  rw [BitVec.toInt_eq_toNat_cond, if_pos (by omega)]
theorem shl8 {x : Int} (h : 0 ≤ x ∧ x < 8388608) : zt_shl x 8 = x * 256 := by
  have n := i32n (x := x) (by omega)
  have e : ((Int32.ofInt x) <<< (Int32.ofInt 8 &&& 31)).toBitVec.toNat = x.toNat * 256 := by
    have e1 : ((Int32.ofInt x) <<< (Int32.ofInt 8 &&& 31)).toBitVec = (Int32.ofInt x).toBitVec <<< 8 := rfl
    rw [e1, BitVec.toNat_shiftLeft, Nat.shiftLeft_eq, n]
    omega
  unfold zt_shl
  rw [i32i (by rw [e]; omega), e]
  omega
theorem or8 {x y : Int} (h : 0 ≤ x ∧ x < 8388608) (hy : 0 ≤ y ∧ y < 256) : zt_or (x * 256) y = x * 256 + y := by
  have n := i32n (x := x * 256) (by omega)
  have m := i32n (x := y) (by omega)
  have e : ((Int32.ofInt (x * 256)) ||| (Int32.ofInt y)).toBitVec.toNat = x.toNat * 256 + y.toNat := by
    have e1 : ((Int32.ofInt (x * 256)) ||| (Int32.ofInt y)).toBitVec = (Int32.ofInt (x * 256)).toBitVec ||| (Int32.ofInt y).toBitVec := rfl
    have e2 : (x * 256).toNat = x.toNat <<< 8 := by rw [Nat.shiftLeft_eq]; omega
    rw [e1, BitVec.toNat_or, n, m, e2, ← Nat.shiftLeft_add_eq_or_of_lt (by omega), Nat.shiftLeft_eq]
  unfold zt_or
  rw [i32i (by rw [e]; omega), e]
  omega
theorem shr_s {x : Int} (h : 0 ≤ x ∧ x < 2147483648) : zt_shr x 24 = x / 16777216 ∧ zt_shr x 16 = x / 65536 ∧ zt_shr x 8 = x / 256 ∧ zt_shr x 0 = x := by
  have n := i32n (x := x) (by omega)
  have ms : (Int32.ofInt x).toBitVec.msb = false := by
    rw [BitVec.msb_eq_decide, n]
    exact decide_eq_false (by omega)
  have key : ∀ (k : Int) (j : Nat), ((Int32.ofInt x) >>> (Int32.ofInt k &&& 31)).toBitVec = (Int32.ofInt x).toBitVec.sshiftRight j → zt_shr x k = ((x.toNat / 2 ^ j : Nat) : Int) := fun k j e1 => by
    have e : ((Int32.ofInt x) >>> (Int32.ofInt k &&& 31)).toBitVec.toNat = x.toNat / 2 ^ j := by
      rw [e1, BitVec.sshiftRight_eq_of_msb_false ms, BitVec.toNat_ushiftRight, n, Nat.shiftRight_eq_div_pow]
    have l : x.toNat / 2 ^ j ≤ x.toNat := Nat.div_le_self ..
    unfold zt_shr
    rw [i32i (by rw [e]; omega), e]
  rw [key 24 24 rfl, key 16 16 rfl, key 8 8 rfl, key 0 0 rfl]
  refine ⟨?_, ?_, ?_, ?_⟩ <;> omega
/-- a word of four bytes -/
def wd4 (a b c d : Int) : Int := zt_or (zt_shl (zt_or (zt_shl (zt_or (zt_shl (zt_or (zt_shl 0 8) a) 8) b) 8) c) 8) d
theorem wd4_v {a b c d : Int} (ha : 0 ≤ a ∧ a < 128) (hb : 0 ≤ b ∧ b < 128) (hc : 0 ≤ c ∧ c < 128) (hd : 0 ≤ d ∧ d < 128) : zt_b (zt_shr (wd4 a b c d) 24) = a ∧ zt_b (zt_shr (wd4 a b c d) 16) = b ∧ zt_b (zt_shr (wd4 a b c d) 8) = c ∧ zt_b (zt_shr (wd4 a b c d) 0) = d := by
  have e : wd4 a b c d = ((a * 256 + b) * 256 + c) * 256 + d := by
    unfold wd4
    have z : zt_or (zt_shl 0 8) a = a := by
      have := or8 (x := 0) (y := a) (by omega) (by omega)
      rw [shl8 (by omega), this]; omega
    rw [z, shl8 (x := a) (by omega), or8 (x := a) (y := b) (by omega) (by omega), shl8 (x := a * 256 + b) (by omega), or8 (x := a * 256 + b) (y := c) (by omega) (by omega), shl8 (x := (a * 256 + b) * 256 + c) (by omega), or8 (x := (a * 256 + b) * 256 + c) (y := d) (by omega) (by omega)]
  have s := shr_s (x := wd4 a b c d) (by omega)
  have bb : ∀ x : Int, 0 ≤ x ∧ x < 2147483648 → x % 256 < 128 → zt_b x = x % 256 := fun x h1 h2 => by
    have := (zt_b_v x).1
    rw [this, zt_and_in (by unfold zt_in; omega), if_pos h2]
  rw [s.1, s.2.1, s.2.2.1, s.2.2.2]
  refine ⟨?_, ?_, ?_, ?_⟩
  · rw [bb _ (by omega) (by omega)]; omega
  · rw [bb _ (by omega) (by omega)]; omega
  · rw [bb _ (by omega) (by omega)]; omega
  · rw [bb _ (by omega) (by omega)]; omega
