/-! WORDS of a row w of the game (the reference's row; a table of the class stands for one) -/
/-- how many of the m numbers from k on -/
def cn (P : Int → Bool) : Int → Nat → Int
  | _, 0 => 0
  | k, m + 1 => (if P k = true then 1 else 0) + cn P (k + 1) m
theorem cn_le (P : Int → Bool) : ∀ (m : Nat) (k : Int), 0 ≤ cn P k m ∧ cn P k m ≤ m
  | 0, _ => ⟨Int.le_refl _, Int.le_refl _⟩
  | m + 1, k => by
    have := cn_le P m (k + 1)
    rw [cn]
    split <;> omega
theorem cn_congr {P Q : Int → Bool} : ∀ (m : Nat) (k : Int), (∀ c, k ≤ c → c < k + m → P c = Q c) → cn P k m = cn Q k m
  | 0, _, _ => rfl
  | m + 1, k, h => by
    rw [cn, cn, h k (by omega) (by omega), cn_congr m (k + 1) (fun c h1 h2 => h c (by omega) (by omega))]
theorem cn_app (P : Int → Bool) (n : Nat) : ∀ (m : Nat) (k : Int), cn P k (m + n) = cn P k m + cn P (k + m) n
  | 0, k => by rw [Nat.zero_add, cn]; simp
  | m + 1, k => by
    rw [show m + 1 + n = (m + n) + 1 by omega, cn, cn, cn_app P n m (k + 1), show k + ((m + 1 : Nat) : Int) = k + 1 + (m : Int) by omega]
    omega
theorem cn_none {P : Int → Bool} : ∀ (m : Nat) (k : Int), (∀ c, k ≤ c → c < k + m → P c = false) → cn P k m = 0
  | 0, _, _ => rfl
  | m + 1, k, h => by
    rw [cn, h k (by omega) (by omega), cn_none m (k + 1) (fun c h1 h2 => h c (by omega) (by omega))]
    rfl
theorem cn_pos {P : Int → Bool} : ∀ (m : Nat) (k : Int), 0 < cn P k m ↔ ∃ c, k ≤ c ∧ c < k + m ∧ P c = true
  | 0, k => by
    constructor
    · intro h; exact absurd h (by rw [cn]; decide)
    · rintro ⟨c, h1, h2, -⟩; omega
  | m + 1, k => by
    have h0 := cn_le P m (k + 1)
    have ih := cn_pos (P := P) m (k + 1)
    rw [cn]
    constructor
    · intro h
      by_cases hk : P k = true
      · exact ⟨k, by omega, by omega, hk⟩
      · rw [if_neg hk] at h
        obtain ⟨c, h1, h2, h3⟩ := ih.mp (by omega)
        exact ⟨c, by omega, by omega, h3⟩
    · rintro ⟨c, h1, h2, h3⟩
      by_cases hk : P k = true
      · rw [if_pos hk]; omega
      · have hc : c ≠ k := fun z => hk (z ▸ h3)
        have := ih.mpr ⟨c, by omega, by omega, h3⟩
        split <;> omega
/-- one number more or less -/
theorem cn_upd {P Q : Int → Bool} {j : Int} : ∀ (m : Nat) (k : Int), k ≤ j → j < k + m → (∀ c, k ≤ c → c < k + m → c ≠ j → P c = Q c) → cn Q k m = cn P k m - (if P j = true then 1 else 0) + (if Q j = true then 1 else 0)
  | 0, k, h1, h2, _ => by omega
  | m + 1, k, h1, h2, h => by
    rw [cn, cn]
    by_cases hk : j = k
    · subst hk
      rw [cn_congr (P := P) (Q := Q) m (j + 1) (fun c a b => h c (by omega) (by omega) (by omega))]
      omega
    · rw [h k (by omega) (by omega) (fun z => hk z.symm), cn_upd (P := P) (Q := Q) m (k + 1) (by omega) (by omega) (fun c a b d => h c (by omega) (by omega) d)]
      omega
def wS (w : Int → Int) (c : Int) : Int := c / w 0
def wR (w : Int → Int) (c : Int) : Int := c % w 0 + 1
/-- cards that lie in the present trick -/
def wPl (w : Int → Int) : Int := w 12 - w 13 * w 1
def wOv (w : Int → Int) : Bool := decide (w 12 = w 1 * w 2)
def wTn (w : Int → Int) : Int := if wOv w = true then -1 else (w 9 + wPl w) % w 1
def wCd (w : Int → Int) (k : Int) : Int := w (92 + w 13 * w 1 + k)
def wLd (w : Int → Int) : Int := if wPl w = 0 then -1 else wS w (wCd w 0)
def wPw (w : Int → Int) (c u : Int) : Int := if wS w c = w 10 then wR w c + w 11 else if wS w c = u then wR w c else 0
def wPn (w : Int → Int) (c : Int) : Int := wPw w c (if wPl w = 0 then wS w c else wLd w)
/-- the place of the best card among those from k on, b the best before -/
def wBs (w : Int → Int) : Int → Int → Nat → Int
  | b, _, 0 => b
  | b, k, m + 1 => wBs w (if b = -1 ∨ wPn w (wCd w b) < wPn w (wCd w k) then k else b) (k + 1) m
def wBp (w : Int → Int) : Int := wBs w (-1) 0 (wPl w).toNat
def wBt (w : Int → Int) (c : Int) : Bool := decide (wPl w = 0 ∨ wPn w (wCd w (wBp w)) < wPn w c)
def wHd (w : Int → Int) (c : Int) : Int := w (40 + c)
def wHc (w : Int → Int) (p : Int) : Int := cn (fun c => decide (wHd w c = p)) 0 52
def wSc (w : Int → Int) (p s : Int) : Int := cn (fun c => decide (wHd w c = p)) (s * w 0) (w 0).toNat
def wHB (w : Int → Int) (p s : Int) : Bool := decide (0 < cn (fun c => decide (wHd w c = p) && wBt w c) (s * w 0) (w 0).toNat)
def wMp (w : Int → Int) (p c : Int) : Bool :=
  if w 3 = 0 ∨ wPl w = 0 then true
  else if 0 < wSc w p (wLd w) then decide (wS w c = wLd w) && (!decide (w 3 = 2) || wBt w c || !wHB w p (wLd w))
  else !(decide (w 3 = 3) && decide (¬ w 10 = -1) && decide (0 < wSc w p (w 10))) || decide (wS w c = w 10)
def wLg (w : Int → Int) (c : Int) : Bool := decide (¬ wTn w = -1) && decide (wHd w c = wTn w) && wMp w (wTn w) c
def wTk (w : Int → Int) (p : Int) : Int := cn (fun t => decide (w (196 + 6 * t + 1) = p)) 0 (w 13).toNat
def wRs (w : Int → Int) (p : Int) : Int := if w (16 + p) = -1 then wTk w p else if w (16 + p) = wTk w p then 10 + w (16 + p) else if wTk w p < w (16 + p) then wTk w p - w (16 + p) else w (16 + p) - wTk w p
/-- what holds of a row -/
def RI (w : Int → Int) : Prop :=
  ((4 ≤ w 0 ∧ w 0 ≤ 13) ∧ (2 ≤ w 1 ∧ w 1 ≤ 4) ∧ (1 ≤ w 2 ∧ w 2 ≤ 13) ∧ (w 1 * w 2 ≤ 4 * w 0) ∧ (0 ≤ w 3 ∧ w 3 ≤ 3) ∧ (-1 ≤ w 4 ∧ w 4 ≤ 3) ∧ (0 ≤ w 5 ∧ w 5 ≤ 30) ∧ (0 ≤ w 6 ∧ w 6 ≤ 9) ∧ (0 ≤ w 7 ∧ w 7 ≤ 1) ∧ (0 ≤ w 8 ∧ w 8 < w 1) ∧ (0 ≤ w 9 ∧ w 9 < w 1) ∧ (-1 ≤ w 10 ∧ w 10 ≤ 3) ∧ (0 ≤ w 11 ∧ w 11 ≤ 30)) ∧
  ((0 ≤ w 12 ∧ w 12 ≤ w 1 * w 2) ∧ (0 ≤ w 13 ∧ w 13 * w 1 ≤ w 12 ∧ w 12 < w 13 * w 1 + w 1)) ∧
  (0 ≤ w 14 ∧ w 14 ≤ 1000000) ∧
  (∀ p, 0 ≤ p → p < 4 → -1 ≤ w (16 + p) ∧ w (16 + p) ≤ 13) ∧
  (∀ p, 0 ≤ p → p < 4 → -1000000000 ≤ w (20 + p) ∧ w (20 + p) ≤ 1000000000) ∧
  (∀ k, 0 ≤ k → k < 16 → 0 ≤ w (24 + k) ∧ w (24 + k) ≤ 1) ∧
  (∀ c, 0 ≤ c → c < 52 → -1 ≤ w (40 + c) ∧ w (40 + c) < w 1 ∧ (4 * w 0 ≤ c → w (40 + c) = -1)) ∧
  (∀ k, 0 ≤ k → k < w 12 → 0 ≤ w (92 + k) ∧ w (92 + k) < 4 * w 0 ∧ w (40 + w (92 + k)) = -1 ∧ 0 ≤ w (144 + k) ∧ w (144 + k) < w 1) ∧
  (∀ j k, 0 ≤ j → j < k → k < w 12 → w (92 + j) ≠ w (92 + k)) ∧
  (∀ t, 0 ≤ t → t < w 13 → (0 ≤ w (196 + 6 * t) ∧ w (196 + 6 * t) < w 1) ∧ (0 ≤ w (196 + 6 * t + 1) ∧ w (196 + 6 * t + 1) < w 1) ∧ (0 ≤ w (196 + 6 * t + 2) ∧ w (196 + 6 * t + 2) < 4 * w 0) ∧ (0 ≤ w (196 + 6 * t + 3) ∧ w (196 + 6 * t + 3) < 4) ∧ (-1 ≤ w (196 + 6 * t + 4) ∧ w (196 + 6 * t + 4) ≤ 3) ∧ (0 ≤ w (196 + 6 * t + 5) ∧ w (196 + 6 * t + 5) ≤ 30)) ∧
  (∀ p, 0 ≤ p → p < w 1 → wHc w p = w 2 - w 13 - (if (p + w 1 - w 9) % w 1 < wPl w then 1 else 0))
section RIF
variable {w : Int → Int}
theorem RI.n (h : RI w) : ((4 ≤ w 0 ∧ w 0 ≤ 13) ∧ (2 ≤ w 1 ∧ w 1 ≤ 4) ∧ (1 ≤ w 2 ∧ w 2 ≤ 13) ∧ (w 1 * w 2 ≤ 4 * w 0) ∧ (0 ≤ w 3 ∧ w 3 ≤ 3) ∧ (-1 ≤ w 4 ∧ w 4 ≤ 3) ∧ (0 ≤ w 5 ∧ w 5 ≤ 30) ∧ (0 ≤ w 6 ∧ w 6 ≤ 9) ∧ (0 ≤ w 7 ∧ w 7 ≤ 1) ∧ (0 ≤ w 8 ∧ w 8 < w 1) ∧ (0 ≤ w 9 ∧ w 9 < w 1) ∧ (-1 ≤ w 10 ∧ w 10 ≤ 3) ∧ (0 ≤ w 11 ∧ w 11 ≤ 30)) := h.1
theorem RI.pl (h : RI w) : (0 ≤ w 12 ∧ w 12 ≤ w 1 * w 2) ∧ (0 ≤ w 13 ∧ w 13 * w 1 ≤ w 12 ∧ w 12 < w 13 * w 1 + w 1) := h.2.1
theorem RI.wpl (h : RI w) : 0 ≤ wPl w ∧ wPl w < w 1 := by
  have := h.pl
  unfold wPl
  omega
theorem RI.p12 (h : RI w) : w 12 ≤ 52 := by
  have h1 := h.pl
  have h2 := h.n
  omega
theorem RI.p13 (h : RI w) : w 13 ≤ w 2 ∧ (w 13 = w 2 ↔ w 12 = w 1 * w 2) := by
  have h1 := h.pl
  have h2 := h.n
  have a : w 13 ≤ w 2 := by
    rcases Int.lt_or_le (w 2) (w 13) with z | z
    · have z2 : (w 2 + 1) * w 1 ≤ w 13 * w 1 := Int.mul_le_mul_of_nonneg_right (by omega) (by omega)
      rw [Int.add_mul, Int.mul_comm (w 2)] at z2
      omega
    · exact z
  refine ⟨a, fun z => ?_, fun z => ?_⟩
  · have e : w 2 * w 1 = w 1 * w 2 := Int.mul_comm _ _
    rw [z] at h1
    omega
  · rcases Int.lt_or_le (w 13) (w 2) with z1 | z1
    · have z2 : (w 13 + 1) * w 1 ≤ w 2 * w 1 := Int.mul_le_mul_of_nonneg_right (by omega) (by omega)
      rw [Int.add_mul, Int.mul_comm (w 2)] at z2
      omega
    · omega
theorem RI.hd (h : RI w) {c : Int} (h0 : 0 ≤ c) (h1 : c < 52) : -1 ≤ wHd w c ∧ wHd w c < w 1 ∧ (4 * w 0 ≤ c → wHd w c = -1) := h.2.2.2.2.2.2.1 c h0 h1
theorem RI.cd (h : RI w) {k : Int} (h0 : 0 ≤ k) (h1 : k < wPl w) : 0 ≤ wCd w k ∧ wCd w k < 4 * w 0 ∧ wHd w (wCd w k) = -1 := by
  have a := h.pl
  unfold wPl at h1
  have a2 : 0 ≤ w 13 * w 1 := Int.mul_nonneg (by omega) (by have := h.n; omega)
  have b := h.2.2.2.2.2.2.2.1 (w 13 * w 1 + k) (by omega) (by omega)
  rw [← Int.add_assoc] at b
  exact ⟨b.1, b.2.1, b.2.2.1⟩
theorem wS_lt (h : RI w) {c : Int} (h0 : 0 ≤ c) (h1 : c < 4 * w 0) : 0 ≤ wS w c ∧ wS w c < 4 := by
  have a := h.n
  unfold wS
  exact ⟨Int.ediv_nonneg h0 (by omega), (Int.ediv_lt_iff_lt_mul (by omega)).mpr h1⟩
theorem wR_lt (h : RI w) {c : Int} : 1 ≤ wR w c ∧ wR w c ≤ w 0 := by
  have a := h.n
  unfold wR
  have := Int.emod_nonneg c (show w 0 ≠ 0 by omega)
  have := Int.emod_lt_of_pos c (show 0 < w 0 by omega)
  omega
theorem wPw_lt (h : RI w) {c u : Int} : 0 ≤ wPw w c u ∧ wPw w c u ≤ 43 := by
  have a := h.n
  have b := wR_lt h (c := c)
  unfold wPw
  split
  · omega
  · split <;> omega
theorem wPn_lt (h : RI w) {c : Int} : 0 ≤ wPn w c ∧ wPn w c ≤ 43 := wPw_lt h
theorem wTn_lt (h : RI w) : -1 ≤ wTn w ∧ wTn w < w 1 ∧ (wOv w = false → 0 ≤ wTn w) := by
  have a := h.n
  unfold wTn
  have := Int.emod_nonneg (w 9 + wPl w) (show w 1 ≠ 0 by omega)
  have := Int.emod_lt_of_pos (w 9 + wPl w) (show 0 < w 1 by omega)
  split
  · rename_i z; rw [z]; simp; omega
  · omega
theorem wBs_lt : ∀ (m : Nat) (b k : Int), -1 ≤ b → b < k → 0 ≤ k → -1 ≤ wBs w b k m ∧ wBs w b k m < k + m ∧ ((0 ≤ b ∨ 0 < m) → 0 ≤ wBs w b k m)
  | 0, b, k, h0, h1, h2 => by
    rw [wBs]
    refine ⟨h0, by omega, fun z => ?_⟩
    omega
  | m + 1, b, k, h0, h1, h2 => by
    rw [wBs]
    have := wBs_lt m (if b = -1 ∨ wPn w (wCd w b) < wPn w (wCd w k) then k else b) (k + 1) (by split <;> omega) (by split <;> omega) (by omega)
    refine ⟨this.1, by omega, fun _ => this.2.2 ?_⟩
    split <;> omega
theorem wBp_lt (h : RI w) : -1 ≤ wBp w ∧ wBp w < wPl w + (if wPl w = 0 then 1 else 0) ∧ (0 < wPl w → 0 ≤ wBp w ∧ wBp w < wPl w) ∧ (wPl w = 0 → wBp w = -1) := by
  have a := h.wpl
  have b := wBs_lt (w := w) (wPl w).toNat (-1) 0 (by omega) (by omega) (by omega)
  unfold wBp
  refine ⟨b.1, by split <;> omega, fun z => ⟨b.2.2 (by omega), by omega⟩, fun z => ?_⟩
  rw [z]
  rfl
end RIF
