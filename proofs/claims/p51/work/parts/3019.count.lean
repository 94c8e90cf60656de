/-! Long.bitCount counts the bits -/
def b5 : Nat → Nat
  | 0 => 0
  | k + 1 => 256 * b5 k + 0x55
def b3 : Nat → Nat
  | 0 => 0
  | k + 1 => 256 * b3 k + 0x33
def bF : Nat → Nat
  | 0 => 0
  | k + 1 => 256 * bF k + 0x0F
def c1 (k n : Nat) : Nat := n - ((n / 2) &&& b5 k)
def c2 (k n : Nat) : Nat := (n &&& b3 k) + ((n / 4) &&& b3 k)
def c3 (k n : Nat) : Nat := (n + n / 16) &&& bF k
theorem and256 (x y a b : Nat) (hy : y < 256) (hb : b < 256) : (256 * x + y) &&& (256 * a + b) = 256 * (x &&& a) + (y &&& b) := by
  have h1 : ((256 * x + y) &&& (256 * a + b)) / 2 ^ 8 = x &&& a := by
    rw [Nat.and_div_two_pow, show (256 * x + y) / 2 ^ 8 = x by omega, show (256 * a + b) / 2 ^ 8 = a by omega]
  have h2 : ((256 * x + y) &&& (256 * a + b)) % 2 ^ 8 = y &&& b := by
    rw [Nat.and_mod_two_pow, show (256 * x + y) % 2 ^ 8 = y by omega, show (256 * a + b) % 2 ^ 8 = b by omega]
  omega
theorem c1_step (k m b : Nat) (hb : b < 256) : c1 (k + 1) (256 * m + b) = 256 * c1 k m + (b - ((b / 2) &&& 0x55)) := by
  have e : (256 * m + b) / 2 = 256 * (m / 2) + (128 * (m % 2) + b / 2) := by omega
  have h0 : ∀ r, r < 2 → ∀ b, b < 256 → (128 * r + b / 2) &&& 0x55 = (b / 2) &&& 0x55 := by decide +kernel
  unfold c1
  rw [b5, e, and256 _ _ _ _ (by omega) (by omega), h0 _ (Nat.mod_lt _ (by decide)) b hb]
  have g1 : (m / 2 &&& b5 k) ≤ m / 2 := Nat.and_le_left
  have g2 : (b / 2 &&& 0x55) ≤ b / 2 := Nat.and_le_left
  omega
theorem c2_step (k m b : Nat) (hb : b < 256) : c2 (k + 1) (256 * m + b) = 256 * c2 k m + ((b &&& 0x33) + ((b / 4) &&& 0x33)) := by
  have e : (256 * m + b) / 4 = 256 * (m / 4) + (64 * (m % 4) + b / 4) := by omega
  have h0 : ∀ r, r < 4 → ∀ b, b < 256 → (64 * r + b / 4) &&& 0x33 = (b / 4) &&& 0x33 := by decide +kernel
  unfold c2
  rw [b3, e, and256 _ _ _ _ hb (by omega), and256 _ _ _ _ (by omega) (by omega), h0 _ (Nat.mod_lt _ (by decide)) b hb]
  omega
theorem c3_step (k m b : Nat) (hb : b ≤ 68) (hm : m % 16 ≤ 4) : c3 (k + 1) (256 * m + b) = 256 * c3 k m + (b + b / 16) % 16 := by
  have e : (256 * m + b) + (256 * m + b) / 16 = 256 * (m + m / 16) + (b + (16 * (m % 16) + b / 16)) := by omega
  unfold c3
  rw [bF, e, and256 _ _ _ _ (by omega) (by omega)]
  have h0 : ∀ x, x < 256 → x &&& 0x0F = x % 16 := by decide +kernel
  rw [h0 _ (by omega)]
  omega
def pop8 (b : Nat) : Nat := (cn (fun c => b.testBit c.toNat) 0 8).toNat
theorem byte_ok : ∀ b, b < 256 → (b - ((b / 2) &&& 0x55) < 256) ∧ (((b - ((b / 2) &&& 0x55)) &&& 0x33) + (((b - ((b / 2) &&& 0x55)) / 4) &&& 0x33) ≤ 68) ∧ ((((b - ((b / 2) &&& 0x55)) &&& 0x33) + (((b - ((b / 2) &&& 0x55)) / 4) &&& 0x33)) % 16 ≤ 4) ∧ ((((b - ((b / 2) &&& 0x55)) &&& 0x33) + (((b - ((b / 2) &&& 0x55)) / 4) &&& 0x33)) + (((b - ((b / 2) &&& 0x55)) &&& 0x33) + (((b - ((b / 2) &&& 0x55)) / 4) &&& 0x33)) / 16) % 16 = pop8 b ∧ pop8 b ≤ 8 := by decide +kernel
def dg : Nat → Nat → Nat
  | 0, _ => 0
  | k + 1, n => 256 * dg k (n / 256) + pop8 (n % 256)
theorem c_all : ∀ (k n : Nat), n < 256 ^ k → (c2 k (c1 k n)) % 16 ≤ 4 ∧ c3 k (c2 k (c1 k n)) = dg k n
  | 0, n, h => by
    have : n = 0 := by simpa using h
    subst this
    decide
  | k + 1, n, h => by
    have hn : n = 256 * (n / 256) + n % 256 := by omega
    have hb : n % 256 < 256 := Nat.mod_lt _ (by decide)
    have ih := c_all k (n / 256) (by rw [Nat.pow_succ] at h; omega)
    obtain ⟨g1, g2, g3, g4, g5⟩ := byte_ok _ hb
    rw [dg]
    generalize n % 256 = b at *
    generalize n / 256 = m at *
    subst hn
    rw [c1_step k m b hb, c2_step k _ _ g1, c3_step k _ _ g2 ih.1, g4, ih.2]
    exact ⟨by omega, rfl⟩
theorem cn_shift (P : Int → Bool) (d : Int) : ∀ (m : Nat) (k : Int), cn P (k + d) m = cn (fun c => P (c + d)) k m
  | 0, _ => rfl
  | m + 1, k => by
    rw [cn, cn, ← cn_shift P d m (k + 1), show k + d + 1 = k + 1 + d by omega]
def sg : Nat → Nat → Nat
  | 0, _ => 0
  | k + 1, n => pop8 (n % 256) + sg k (n / 256)
theorem sg_cn : ∀ (k n : Nat), cn (fun c => n.testBit c.toNat) 0 (8 * k) = (sg k n : Int)
  | 0, n => rfl
  | k + 1, n => by
    have ih := sg_cn k (n / 256)
    rw [show 8 * (k + 1) = 8 + 8 * k by omega, cn_app, sg]
    have e1 : cn (fun c => n.testBit c.toNat) 0 8 = (pop8 (n % 256) : Int) := by
      have e : cn (fun c => n.testBit c.toNat) 0 8 = cn (fun c => (n % 256).testBit c.toNat) 0 8 := cn_congr 8 0 (fun c h0 h1 => by
        rw [show 256 = 2 ^ 8 from rfl, Nat.testBit_mod_two_pow]
        simp; omega)
      have l := cn_le (fun c => (n % 256).testBit c.toNat) 8 0
      rw [e]
      unfold pop8
      omega
    have e2 : cn (fun c => n.testBit c.toNat) (0 + ((8 : Nat) : Int)) (8 * k) = cn (fun c => (n / 256).testBit c.toNat) 0 (8 * k) := by
      rw [cn_shift]
      refine cn_congr _ _ (fun c h0 h1 => ?_)
      rw [show 256 = 2 ^ 8 from rfl, Nat.testBit_div_two_pow]
      congr 1
      omega
    rw [e1, e2, ih]
    omega
theorem fold_ok (h0 h1 h2 h3 h4 h5 h6 h7 : Nat) (b0 : h0 ≤ 8) (b1 : h1 ≤ 8) (b2 : h2 ≤ 8) (b3 : h3 ≤ 8) (b4 : h4 ≤ 8) (b5 : h5 ≤ 8) (b6 : h6 ≤ 8) (b7 : h7 ≤ 8) :
    let d := h0 + 256 * h1 + 65536 * h2 + 16777216 * h3 + 4294967296 * h4 + 1099511627776 * h5 + 281474976710656 * h6 + 72057594037927936 * h7
    let e := d + d / 256
    let f := e + e / 65536
    (f + f / 4294967296) % 128 = h0 + h1 + h2 + h3 + h4 + h5 + h6 + h7 ∧ f + f / 4294967296 < 18446744073709551616 ∧ f < 18446744073709551616 ∧ e < 18446744073709551616 := by
  intro d e f
  have x1 : d / 256 = h1 + 256 * h2 + 65536 * h3 + 16777216 * h4 + 4294967296 * h5 + 1099511627776 * h6 + 281474976710656 * h7 := by omega
  have x2 : e / 65536 = (h2 + h3) + 256 * (h3 + h4) + 65536 * (h4 + h5) + 16777216 * (h5 + h6) + 4294967296 * (h6 + h7) + 1099511627776 * h7 := by omega
  have x3 : f / 4294967296 = (h4 + h5 + h6 + h7) + 256 * (h5 + h6 + h7) + 65536 * (h6 + h7) + 16777216 * h7 := by omega
  omega
