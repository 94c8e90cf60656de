/-! BITS of a long: which cards a set holds -/
def hb (v : Int64) (c : Int) : Bool := v.toBitVec.getLsbD c.toNat
theorem hb_and (a b : Int64) (c : Int) : hb (a &&& b) c = (hb a c && hb b c) := by
  unfold hb
  rw [Int64.toBitVec_and, BitVec.getLsbD_and]
theorem hb_or (a b : Int64) (c : Int) : hb (a ||| b) c = (hb a c || hb b c) := by
  unfold hb
  rw [Int64.toBitVec_or, BitVec.getLsbD_or]
theorem hb_xor (a b : Int64) (c : Int) : hb (a ^^^ b) c = (hb a c ^^ hb b c) := by
  unfold hb
  rw [Int64.toBitVec_xor, BitVec.getLsbD_xor]
theorem hb_ext {a b : Int64} (h : ∀ c : Int, 0 ≤ c → c < 64 → hb a c = hb b c) : a = b := by
  apply Int64.toBitVec.inj
  apply BitVec.eq_of_getLsbD_eq
  intro i hi
  have := h (i : Int) (by omega) (by omega)
  unfold hb at this
  rwa [Int.toNat_natCast] at this
theorem hb_out {a : Int64} {c : Int} (h : 64 ≤ c) : hb a c = false := by
  unfold hb
  exact BitVec.getLsbD_of_ge _ _ (by omega)
theorem hb_0 (c : Int) : hb 0 c = false := by
  unfold hb
  show (0#64).getLsbD c.toNat = false
  simp
theorem hb_m1 {c : Int} (h0 : 0 ≤ c) (h : c < 64) : hb (-1) c = true := by
  unfold hb
  show ((-1 : Int64).toBitVec).getLsbD c.toNat = true
  rw [show (-1 : Int64).toBitVec = BitVec.allOnes 64 by decide, BitVec.getLsbD_allOnes]
  simpa using (by omega : c.toNat < 64)
theorem hb_sh (y : Nat) (h : y < 64) : (((Int32.ofInt (y : Int)).toInt64 &&& 63).toBitVec.smod 64) = BitVec.ofNat 64 y := by
  have h2 : ∀ y : Nat, y < 64 → (((Int32.ofInt (y : Int)).toInt64 &&& 63).toBitVec.smod 64) = BitVec.ofNat 64 y := by decide +kernel
  exact h2 y h
theorem hb_ls {v : Int64} {k c : Int} (hk : 0 ≤ k ∧ k < 64) (hc : 0 ≤ c ∧ c < 64) : hb (zt_ls v k) c = (decide (k ≤ c) && hb v (c - k)) := by
  unfold hb zt_ls
  obtain ⟨n, rfl⟩ := Int.eq_ofNat_of_zero_le hk.1
  obtain ⟨m, rfl⟩ := Int.eq_ofNat_of_zero_le hc.1
  rw [Int64.toBitVec_shiftLeft, hb_sh n (by omega), BitVec.shiftLeft_eq', BitVec.getLsbD_shiftLeft, BitVec.toNat_ofNat, Nat.mod_eq_of_lt (by omega)]
  have e1 : ((m : Int)).toNat = m := by omega
  have e2 : ((m : Int) - (n : Int)).toNat = m - n := by omega
  rw [e1, e2]
  by_cases h : n ≤ m
  · simp [show m < 64 by omega, show ¬ m < n by omega, show (n : Int) ≤ m by omega, h]
  · simp [show m < n by omega, show ¬ (n : Int) ≤ m by omega, h]
theorem hb_rs {v : Int64} {k c : Int} (hk : 0 ≤ k ∧ k < 64) (hc : 0 ≤ c) (h : k + c < 64) : hb (zt_rs v k) c = hb v (k + c) := by
  unfold hb zt_rs
  obtain ⟨n, rfl⟩ := Int.eq_ofNat_of_zero_le hk.1
  obtain ⟨m, rfl⟩ := Int.eq_ofNat_of_zero_le hc
  rw [Int64.toBitVec_shiftRight, hb_sh n (by omega), BitVec.getLsbD_sshiftRight', BitVec.toNat_ofNat, Nat.mod_eq_of_lt (by omega)]
  have e1 : ((m : Int)).toNat = m := by omega
  have e2 : ((n : Int) + (m : Int)).toNat = n + m := by omega
  rw [e1, e2]
  simp [show ¬ 64 ≤ m by omega, show n + m < 64 by omega]
theorem hb_1 {c : Int} (h : 0 ≤ c) : hb 1 c = decide (c = 0) := by
  unfold hb
  obtain ⟨m, rfl⟩ := Int.eq_ofNat_of_zero_le h
  show (1#64).getLsbD _ = _
  rw [Int.toNat_natCast, BitVec.getLsbD_one]
  cases m with
  | zero => rfl
  | succ m => simp; omega
theorem hb_one {k c : Int} (hk : 0 ≤ k ∧ k < 64) (hc : 0 ≤ c ∧ c < 64) : hb (zt_ls 1 k) c = decide (c = k) := by
  rw [hb_ls hk hc]
  by_cases h : k ≤ c
  · rw [hb_1 (by omega)]
    by_cases h2 : c = k
    · subst h2; simp
    · simp [h2]; intro _; omega
  · simp [h]; omega
theorem zt_lc0 {u v : Int64} : zt_lc u v = 0 ↔ u = v := by
  unfold zt_lc lg_cmp
  constructor
  · intro h
    split at h
    · exact absurd h (by decide)
    · split at h
      · assumption
      · exact absurd h (by decide)
  · intro h
    subst h
    simp
theorem hb_and1 (v : Int64) : (v &&& 1 = 0) ↔ hb v 0 = false := by
  constructor
  · intro h
    have h2 : hb (v &&& 1) 0 = false := by rw [h]; exact hb_0 0
    rw [hb_and, hb_1 (by decide)] at h2
    simpa using h2
  · intro h
    apply hb_ext
    intro c h0 h1
    rw [hb_and, hb_0, hb_1 h0]
    by_cases h2 : c = 0
    · subst h2; rw [h]; rfl
    · simp [h2]
