/-! Long.bitCount: the law of it -/
theorem dg_s (k n : Nat) : dg (k + 1) n = 256 * dg k (n / 256) + pop8 (n % 256) := rfl
theorem sg_s (k n : Nat) : sg (k + 1) n = pop8 (n % 256) + sg k (n / 256) := rfl
theorem dg8 (n : Nat) : ∃ x0 x1 x2 x3 x4 x5 x6 x7 : Nat, (x0 ≤ 8 ∧ x1 ≤ 8 ∧ x2 ≤ 8 ∧ x3 ≤ 8 ∧ x4 ≤ 8 ∧ x5 ≤ 8 ∧ x6 ≤ 8 ∧ x7 ≤ 8) ∧ dg 8 n = x0 + 256 * x1 + 65536 * x2 + 16777216 * x3 + 4294967296 * x4 + 1099511627776 * x5 + 281474976710656 * x6 + 72057594037927936 * x7 ∧ sg 8 n = x0 + x1 + x2 + x3 + x4 + x5 + x6 + x7 := by
  have a0 : dg 8 n = 256 * dg 7 (n / 256) + pop8 (n % 256) := dg_s 7 n
  have b0 : sg 8 n = pop8 (n % 256) + sg 7 (n / 256) := sg_s 7 n
  have l0 := pop8_le n
  generalize pop8 (n % 256) = x0 at a0 b0 l0
  generalize n / 256 = n1 at a0 b0
  have a1 : dg 7 n1 = 256 * dg 6 (n1 / 256) + pop8 (n1 % 256) := dg_s 6 n1
  have b1 : sg 7 n1 = pop8 (n1 % 256) + sg 6 (n1 / 256) := sg_s 6 n1
  have l1 := pop8_le n1
  generalize pop8 (n1 % 256) = x1 at a1 b1 l1
  generalize n1 / 256 = n2 at a1 b1
  have a2 : dg 6 n2 = 256 * dg 5 (n2 / 256) + pop8 (n2 % 256) := dg_s 5 n2
  have b2 : sg 6 n2 = pop8 (n2 % 256) + sg 5 (n2 / 256) := sg_s 5 n2
  have l2 := pop8_le n2
  generalize pop8 (n2 % 256) = x2 at a2 b2 l2
  generalize n2 / 256 = n3 at a2 b2
  have a3 : dg 5 n3 = 256 * dg 4 (n3 / 256) + pop8 (n3 % 256) := dg_s 4 n3
  have b3 : sg 5 n3 = pop8 (n3 % 256) + sg 4 (n3 / 256) := sg_s 4 n3
  have l3 := pop8_le n3
  generalize pop8 (n3 % 256) = x3 at a3 b3 l3
  generalize n3 / 256 = n4 at a3 b3
  have a4 : dg 4 n4 = 256 * dg 3 (n4 / 256) + pop8 (n4 % 256) := dg_s 3 n4
  have b4 : sg 4 n4 = pop8 (n4 % 256) + sg 3 (n4 / 256) := sg_s 3 n4
  have l4 := pop8_le n4
  generalize pop8 (n4 % 256) = x4 at a4 b4 l4
  generalize n4 / 256 = n5 at a4 b4
  have a5 : dg 3 n5 = 256 * dg 2 (n5 / 256) + pop8 (n5 % 256) := dg_s 2 n5
  have b5 : sg 3 n5 = pop8 (n5 % 256) + sg 2 (n5 / 256) := sg_s 2 n5
  have l5 := pop8_le n5
  generalize pop8 (n5 % 256) = x5 at a5 b5 l5
  generalize n5 / 256 = n6 at a5 b5
  have a6 : dg 2 n6 = 256 * dg 1 (n6 / 256) + pop8 (n6 % 256) := dg_s 1 n6
  have b6 : sg 2 n6 = pop8 (n6 % 256) + sg 1 (n6 / 256) := sg_s 1 n6
  have l6 := pop8_le n6
  generalize pop8 (n6 % 256) = x6 at a6 b6 l6
  generalize n6 / 256 = n7 at a6 b6
  have a7 : dg 1 n7 = 256 * dg 0 (n7 / 256) + pop8 (n7 % 256) := dg_s 0 n7
  have b7 : sg 1 n7 = pop8 (n7 % 256) + sg 0 (n7 / 256) := sg_s 0 n7
  have l7 := pop8_le n7
  generalize pop8 (n7 % 256) = x7 at a7 b7 l7
  generalize n7 / 256 = n8 at a7 b7
  have z1 : dg 0 n8 = 0 := rfl
  have z2 : sg 0 n8 = 0 := rfl
  exact ⟨x0, x1, x2, x3, x4, x5, x6, x7, ⟨l0, l1, l2, l3, l4, l5, l6, l7⟩, by rw [a0, a1, a2, a3, a4, a5, a6, a7, z1]; clear a0 a1 a2 a3 a4 a5 a6 a7 b0 b1 b2 b3 b4 b5 b6 b7; omega, by rw [b0, b1, b2, b3, b4, b5, b6, b7, z2]; clear a0 a1 a2 a3 a4 a5 a6 a7 b0 b1 b2 b3 b4 b5 b6 b7; omega⟩
theorem bc_nat (n a : Nat) (h : a = dg 8 n) : ((a + a / 256) + (a + a / 256) / 65536 + ((a + a / 256) + (a + a / 256) / 65536) / 4294967296) % 128 = sg 8 n ∧ (a + a / 256) + (a + a / 256) / 65536 + ((a + a / 256) + (a + a / 256) / 65536) / 4294967296 < 18446744073709551616 ∧ (a + a / 256) + (a + a / 256) / 65536 < 18446744073709551616 ∧ a + a / 256 < 18446744073709551616 := by
  obtain ⟨x0, x1, x2, x3, x4, x5, x6, x7, ⟨l0, l1, l2, l3, l4, l5, l6, l7⟩, e, g⟩ := dg8 n
  rw [h, e, g]
  exact fold_ok x0 x1 x2 x3 x4 x5 x6 x7 l0 l1 l2 l3 l4 l5 l6 l7
theorem s_all (a : Int64) (n : Nat) (h : un a = dg 8 n) : un (s6 (s5 (s4 a))) % 128 = sg 8 n := by
  obtain ⟨f1, f2, f3, f4⟩ := bc_nat n (un a) h
  have p8 : (2 : Nat) ^ 8 = 256 := by decide
  have p16 : (2 : Nat) ^ 16 = 65536 := by decide
  have p32 : (2 : Nat) ^ 32 = 4294967296 := by decide
  have e4 : un (s4 a) = un a + un a / 256 := by
    unfold s4
    rw [un_s a 8 8 (by decide) (by decide) (by rw [p8]; exact f4), p8]
  have e5 : un (s5 (s4 a)) = (un a + un a / 256) + (un a + un a / 256) / 65536 := by
    unfold s5
    rw [un_s _ 16 16 (by decide) (by decide) (by rw [p16, e4]; exact f3), p16, e4]
  have e6 : un (s6 (s5 (s4 a))) = ((un a + un a / 256) + (un a + un a / 256) / 65536) + ((un a + un a / 256) + (un a + un a / 256) / 65536) / 4294967296 := by
    unfold s6
    rw [un_s _ 32 32 (by decide) (by decide) (by rw [p32, e5]; exact f2), p32, e5]
  rw [e6]
  exact f1
theorem e_bitCount (v : Int64) (σ : zt_S) : F_J_bitCount v σ = some (cn (hb v) 0 64, σ) := by
  have h1 := un_s1 v
  have h2 := un_s2 (s1 v)
  have h3 := un_s3 (s2 (s1 v)) (by rw [h2.1]; exact h2.2)
  rw [h2.1, h1, (c_all 8 (un v) (un_lt v)).2] at h3
  have hc : cn (hb v) 0 64 = (sg 8 (un v) : Int) := sg_cn 8 (un v)
  rw [bc_eq, un_low, s_all _ _ h3, hc]
theorem be_bitCount {α : Type} (K : Int → zt_S → Option α) (v : Int64) (σ : zt_S) : zt_bd (F_J_bitCount v σ) K = K (cn (hb v) 0 64) σ := by
  rw [e_bitCount]; rfl
