/-! THE REFERENCE'S METHODS over a row in its search: who played is not told -/
def PI (w : Int → Int) : Prop :=
  ((4 ≤ w 0 ∧ w 0 ≤ 13) ∧ (2 ≤ w 1 ∧ w 1 ≤ 4) ∧ (1 ≤ w 2 ∧ w 2 ≤ 13) ∧ (w 1 * w 2 ≤ 4 * w 0) ∧ (0 ≤ w 3 ∧ w 3 ≤ 3) ∧ (-1 ≤ w 4 ∧ w 4 ≤ 3) ∧ (0 ≤ w 5 ∧ w 5 ≤ 30) ∧ (0 ≤ w 6 ∧ w 6 ≤ 9) ∧ (0 ≤ w 7 ∧ w 7 ≤ 1) ∧ (0 ≤ w 8 ∧ w 8 < w 1) ∧ (0 ≤ w 9 ∧ w 9 < w 1) ∧ (-1 ≤ w 10 ∧ w 10 ≤ 3) ∧ (0 ≤ w 11 ∧ w 11 ≤ 30)) ∧
  ((0 ≤ w 12 ∧ w 12 ≤ w 1 * w 2) ∧ (0 ≤ w 13 ∧ w 13 * w 1 ≤ w 12 ∧ w 12 < w 13 * w 1 + w 1)) ∧
  (∀ c, 0 ≤ c → c < 52 → -1 ≤ w (40 + c) ∧ w (40 + c) < w 1 ∧ (4 * w 0 ≤ c → w (40 + c) = -1)) ∧
  (∀ k, 0 ≤ k → k < wPl w → 0 ≤ wCd w k ∧ wCd w k < 4 * w 0)
section PIF
variable {w : Int → Int} {σ : zt_S}
theorem RI.pi (h : RI w) : PI w := ⟨h.n, h.pl, fun c h0 h1 => h.hd h0 h1, fun k h0 h1 => ⟨(h.cd h0 h1).1, (h.cd h0 h1).2.1⟩⟩
theorem PI.n (h : PI w) : ((4 ≤ w 0 ∧ w 0 ≤ 13) ∧ (2 ≤ w 1 ∧ w 1 ≤ 4) ∧ (1 ≤ w 2 ∧ w 2 ≤ 13) ∧ (w 1 * w 2 ≤ 4 * w 0) ∧ (0 ≤ w 3 ∧ w 3 ≤ 3) ∧ (-1 ≤ w 4 ∧ w 4 ≤ 3) ∧ (0 ≤ w 5 ∧ w 5 ≤ 30) ∧ (0 ≤ w 6 ∧ w 6 ≤ 9) ∧ (0 ≤ w 7 ∧ w 7 ≤ 1) ∧ (0 ≤ w 8 ∧ w 8 < w 1) ∧ (0 ≤ w 9 ∧ w 9 < w 1) ∧ (-1 ≤ w 10 ∧ w 10 ≤ 3) ∧ (0 ≤ w 11 ∧ w 11 ≤ 30)) := h.1
theorem PI.pl (h : PI w) : (0 ≤ w 12 ∧ w 12 ≤ w 1 * w 2) ∧ (0 ≤ w 13 ∧ w 13 * w 1 ≤ w 12 ∧ w 12 < w 13 * w 1 + w 1) := h.2.1
theorem PI.wpl (h : PI w) : 0 ≤ wPl w ∧ wPl w < w 1 := by
  have := h.pl
  unfold wPl
  omega
theorem PI.hd (h : PI w) {c : Int} (h0 : 0 ≤ c) (h1 : c < 52) : -1 ≤ wHd w c ∧ wHd w c < w 1 ∧ (4 * w 0 ≤ c → wHd w c = -1) := h.2.2.1 c h0 h1
theorem PI.cd (h : PI w) {k : Int} (h0 : 0 ≤ k) (h1 : k < wPl w) : 0 ≤ wCd w k ∧ wCd w k < 4 * w 0 ∧ True := ⟨(h.2.2.2 k h0 h1).1, (h.2.2.2 k h0 h1).2, trivial⟩
theorem PI.p12 (h : PI w) : w 12 ≤ 52 := by
  have h1 := h.pl
  have h2 := h.n
  omega
theorem PI.p13 (h : PI w) : w 13 ≤ w 2 ∧ (w 13 = w 2 ↔ w 12 = w 1 * w 2) := by
  have h1 := h.pl
  have h2 := h.n
  have a : w 13 ≤ w 2 := by
    rcases Int.lt_or_le (w 2) (w 13) with z | z
    · have z2 : (w 2 + 1) * w 1 ≤ w 13 * w 1 := Int.mul_le_mul_of_nonneg_right (by omega) (by omega)
      rw [Int.add_mul, Int.mul_comm (w 2)] at z2
      omega
    · exact z
  refine ⟨a, fun z => ?_, fun z => ?_⟩
  · have e : w 2 * w 1 = w 1 * w 2 := Int.mul_comm _ _
    rw [z] at h1
    omega
  · rcases Int.lt_or_le (w 13) (w 2) with z1 | z1
    · have z2 : (w 13 + 1) * w 1 ≤ w 2 * w 1 := Int.mul_le_mul_of_nonneg_right (by omega) (by omega)
      rw [Int.add_mul, Int.mul_comm (w 2)] at z2
      omega
    · omega
theorem wS_ltp (h : PI w) {c : Int} (h0 : 0 ≤ c) (h1 : c < 4 * w 0) : 0 ≤ wS w c ∧ wS w c < 4 := by
  have a := h.n
  unfold wS
  exact ⟨Int.ediv_nonneg h0 (by omega), (Int.ediv_lt_iff_lt_mul (by omega)).mpr h1⟩
theorem wR_ltp (h : PI w) {c : Int} : 1 ≤ wR w c ∧ wR w c ≤ w 0 := by
  have a := h.n
  unfold wR
  have := Int.emod_nonneg c (show w 0 ≠ 0 by omega)
  have := Int.emod_lt_of_pos c (show 0 < w 0 by omega)
  omega
theorem wPw_ltp (h : PI w) {c u : Int} : 0 ≤ wPw w c u ∧ wPw w c u ≤ 43 := by
  have a := h.n
  have b := wR_ltp h (c := c)
  unfold wPw
  split
  · omega
  · split <;> omega
theorem wPn_ltp (h : PI w) {c : Int} : 0 ≤ wPn w c ∧ wPn w c ≤ 43 := wPw_ltp h
theorem wTn_ltp (h : PI w) : -1 ≤ wTn w ∧ wTn w < w 1 ∧ (wOv w = false → 0 ≤ wTn w) := by
  have a := h.n
  unfold wTn
  have := Int.emod_nonneg (w 9 + wPl w) (show w 1 ≠ 0 by omega)
  have := Int.emod_lt_of_pos (w 9 + wPl w) (show 0 < w 1 by omega)
  split
  · rename_i z; rw [z]; simp; omega
  · omega
theorem wBp_ltp (h : PI w) : -1 ≤ wBp w ∧ wBp w < wPl w + (if wPl w = 0 then 1 else 0) ∧ (0 < wPl w → 0 ≤ wBp w ∧ wBp w < wPl w) ∧ (wPl w = 0 → wBp w = -1) := by
  have a := h.wpl
  have b := wBs_lt (w := w) (wPl w).toNat (-1) 0 (by omega) (by omega) (by omega)
  unfold wBp
  refine ⟨b.1, by split <;> omega, fun z => ⟨b.2.2 (by omega), by omega⟩, fun z => ?_⟩
  rw [z]
  rfl
theorem pm_suitOf {c : Int} (h : PI (σ.1 164)) (hc : 0 ≤ c ∧ c < 100000) : F_M_suitOf c σ = some (wS (σ.1 164) c, σ) := by
  have a := h.n
  unfold F_M_suitOf wS
  simp (disch := omega) only [if_true, if_false, true_or, or_true, zt_ck, zt_in, if_pos]
theorem pm_rankOf {c : Int} (h : PI (σ.1 164)) (hc : 0 ≤ c ∧ c < 100000) : F_M_rankOf c σ = some (wR (σ.1 164) c, σ) := by
  have a := h.n
  unfold F_M_rankOf wR
  simp (disch := omega) only [if_true, if_false, true_or, or_true, zt_ck, zt_in, if_pos]
theorem pm_isOver (h : PI (σ.1 164)) : F_M_isOver σ = some (if wOv (σ.1 164) = true then 1 else 0, σ) := by
  have a := h.n
  have b := h.pl
  have c := h.p12
  unfold F_M_isOver F_M_isOver_28 wOv
  by_cases h1 : σ.1 164 12 = σ.1 164 1 * σ.1 164 2
  · simp (disch := omega) only [if_true, if_false, true_or, or_true, zt_ck, zt_in, if_pos, h1, decide_true]
  · simp (disch := omega) only [if_true, if_false, true_or, or_true, zt_ck, zt_in, if_pos, if_neg, h1, decide_false]
    rfl
theorem PI.m13 {w : Int → Int} (h : PI w) : 0 ≤ w 13 * w 1 ∧ w 13 * w 1 ≤ 52 := by
  have a := h.n
  have b := h.pl
  have c := h.p12
  exact ⟨Int.mul_nonneg (by omega) (by omega), by omega⟩
theorem pm_cardInTrick {k : Int} (h : PI (σ.1 164)) (hk : 0 ≤ k ∧ k < 4) : F_M_cardInTrick k σ = some (wCd (σ.1 164) k, σ) := by
  have a := h.m13
  unfold F_M_cardInTrick wCd
  simp (disch := omega) only [if_true, if_false, true_or, or_true, zt_ck, if_pos]
theorem pm_turn (h : PI (σ.1 164)) : F_M_turn σ = some (wTn (σ.1 164), σ) := by
  have a := h.n
  have b := h.wpl
  unfold F_M_turn F_M_turn_30 wTn
  rw [pm_isOver h]
  by_cases h1 : wOv (σ.1 164) = true
  · simp (disch := omega) only [if_true, if_false, true_or, or_true, zt_bdS, h1, zt_ck, zt_in, if_pos, if_neg]
  · simp (disch := omega) only [if_true, if_false, true_or, or_true, zt_bdS, h1, zt_ck, zt_in, if_pos, em_inTrick]
    rfl
theorem pm_ledSuit (h : PI (σ.1 164)) : F_M_ledSuit σ = some (wLd (σ.1 164), σ) := by
  have a := h.n
  have b := h.wpl
  unfold F_M_ledSuit F_M_ledSuit_20 wLd
  rw [em_inTrick, zt_bdS]
  by_cases h1 : wPl (σ.1 164) = 0
  · simp (disch := omega) only [if_true, if_false, true_or, or_true, zt_ck, zt_in, if_pos, h1]
  · have c := h.cd (k := 0) (by omega) (by omega)
    simp (disch := omega) only [if_true, if_false, true_or, or_true, zt_ck, zt_in, if_pos, if_neg, pm_cardInTrick h, zt_bdS, pm_suitOf h]
theorem wLd_ltp {w : Int → Int} (h : PI w) : -1 ≤ wLd w ∧ wLd w < 4 ∧ (0 < wPl w → 0 ≤ wLd w) := by
  have b := h.wpl
  unfold wLd
  split
  · omega
  · have c := h.cd (k := 0) (by omega) (by omega)
    have d := wS_ltp h c.1 c.2.1
    omega
theorem pm_powerWith {c u : Int} (h : PI (σ.1 164)) (hc : 0 ≤ c ∧ c < 4 * σ.1 164 0) (hu : -10 ≤ u ∧ u < 1000) : F_M_powerWith c u σ = some (wPw (σ.1 164) c u, σ) := by
  have a := h.n
  have b := wS_ltp h hc.1 hc.2
  unfold F_M_powerWith F_M_powerWith_47 wPw
  simp (disch := omega) only [if_true, if_false, true_or, or_true, pm_suitOf h, pm_rankOf h, zt_bdS, zt_ck, zt_in, if_pos]
  split
  · rfl
  · split <;> rfl
theorem pm_powerNow {c : Int} (h : PI (σ.1 164)) (hc : 0 ≤ c ∧ c < 4 * σ.1 164 0) : F_M_powerNow c σ = some (wPn (σ.1 164) c, σ) := by
  have a := h.n
  have b := h.wpl
  have d := wS_ltp h hc.1 hc.2
  have e := wLd_ltp h
  unfold F_M_powerNow F_M_powerNow_21 wPn
  rw [em_inTrick, zt_bdS]
  by_cases h1 : wPl (σ.1 164) = 0
  · simp (disch := omega) only [if_true, if_false, true_or, or_true, zt_ck, zt_in, if_pos, h1, pm_suitOf h, zt_bdS, pm_powerWith h]
  · simp (disch := omega) only [if_true, if_false, true_or, or_true, zt_ck, zt_in, if_pos, if_neg, pm_ledSuit h, zt_bdS, pm_powerWith h]
theorem pm_bestPlace_4 (h : PI (σ.1 164)) : ∀ (m n : Nat) (b k : Int), k + m = wPl (σ.1 164) → m < n → -1 ≤ b → b < k → 0 ≤ k → F_M_bestPlace_4 n b k σ = some (wBs (σ.1 164) b k m, σ)
  | m, 0, _, _, _, h1, _, _, _ => absurd h1 (Nat.not_lt_zero m)
  | 0, n + 1, b, k, h0, h1, h2, h3, h4 => by
    have a := h.n
    have e := h.wpl
    rw [F_M_bestPlace_4, em_inTrick, zt_bdS]
    simp (disch := omega) only [if_true, if_false, true_or, or_true, zt_ck, zt_in, if_pos, if_neg]
    rfl
  | m + 1, n + 1, b, k, h0, h1, h2, h3, h4 => by
    have a := h.n
    have e := h.wpl
    have ih := pm_bestPlace_4 h m n
    have ck := h.cd (k := k) h4 (by omega)
    have pk := wPn_ltp h (c := wCd (σ.1 164) k)
    rw [F_M_bestPlace_4, em_inTrick, zt_bdS, wBs]
    by_cases hb : b = -1
    · simp (disch := omega) only [if_true, if_false, true_or, or_true, zt_ck, zt_in, if_pos, hb, F_M_bestPlace_38, F_M_bestPlace_40]
      exact ih k (k + 1) (by omega) (by omega) (by omega) (by omega) (by omega)
    · have cb := h.cd (k := b) (by omega) (by omega)
      have pb := wPn_ltp h (c := wCd (σ.1 164) b)
      simp (disch := omega) only [if_true, if_false, true_or, or_true, zt_ck, zt_in, if_pos, hb, false_or, if_false, F_M_bestPlace_38, F_M_bestPlace_40, pm_cardInTrick h, zt_bdS, pm_powerNow h]
      split
      · exact ih k (k + 1) (by omega) (by omega) (by omega) (by omega) (by omega)
      · exact ih b (k + 1) (by omega) (by omega) (by omega) (by omega) (by omega)
theorem pm_bestPlace (h : PI (σ.1 164)) : F_M_bestPlace σ = some (wBp (σ.1 164), σ) := by
  have a := h.n
  have e := h.wpl
  unfold F_M_bestPlace wBp
  exact pm_bestPlace_4 h _ _ _ _ (by omega) (zN (by omega)) (by omega) (by omega) (by omega)
theorem pm_isBetter {c : Int} (h : PI (σ.1 164)) (hc : 0 ≤ c ∧ c < 4 * σ.1 164 0) : F_M_isBetter c σ = some (if wBt (σ.1 164) c = true then 1 else 0, σ) := by
  have a := h.n
  have e := h.wpl
  have p1 := wPn_ltp h (c := c)
  unfold F_M_isBetter F_M_isBetter_27 F_M_isBetter_32 wBt
  rw [em_inTrick, zt_bdS]
  by_cases h1 : wPl (σ.1 164) = 0
  · simp (disch := omega) only [if_true, if_false, true_or, or_true, zt_ck, zt_in, if_pos, h1, true_or, decide_true]
  · have bp := (wBp_ltp h).2.2.1 (by omega)
    have cb := h.cd bp.1 bp.2
    have p2 := wPn_ltp h (c := wCd (σ.1 164) (wBp (σ.1 164)))
    simp (disch := omega) only [if_true, if_false, true_or, or_true, zt_ck, zt_in, if_pos, if_neg, pm_powerNow h, pm_bestPlace h, pm_cardInTrick h, zt_bdS, h1, false_or, decide_eq_true_eq]
    split <;> rfl
theorem PI.mu {w : Int → Int} (h : PI w) {s : Int} (hs : 0 ≤ s ∧ s < 4) : 0 ≤ s * w 0 ∧ (s + 1) * w 0 = s * w 0 + w 0 ∧ s * w 0 + w 0 ≤ 4 * w 0 ∧ w 0 ≤ 13 ∧ 4 ≤ w 0 := by
  have a := h.n
  have e : (s + 1) * w 0 = s * w 0 + w 0 := by rw [Int.add_mul, Int.one_mul]
  have f : (s + 1) * w 0 ≤ 4 * w 0 := Int.mul_le_mul_of_nonneg_right (by omega) (by omega)
  exact ⟨Int.mul_nonneg hs.1 (by omega), e, by omega, a.1.2, a.1.1⟩
theorem pm_suitOfPlayer_12 {p s : Int} (h : PI (σ.1 164)) (hs : 0 ≤ s ∧ s < 4) (hp : -5 ≤ p ∧ p < 100) : ∀ (m n : Nat) (acc k : Int), k + m = s * σ.1 164 0 + σ.1 164 0 → m < n → 0 ≤ k → F_M_suitOfPlayer_12 n p s acc k σ = some (acc + cn (fun c => decide (wHd (σ.1 164) c = p)) k m, σ)
  | m, 0, _, _, _, h1, _ => absurd h1 (Nat.not_lt_zero m)
  | 0, n + 1, acc, k, h0, h1, h2 => by
    have b := h.mu hs
    rw [F_M_suitOfPlayer_12, b.2.1]
    simp (disch := omega) only [if_true, if_false, true_or, or_true, zt_ck, zt_in, if_pos, if_neg, cn, Int.add_zero]
  | m + 1, n + 1, acc, k, h0, h1, h2 => by
    have b := h.mu hs
    have ih := pm_suitOfPlayer_12 h hs hp m n
    have a := h.hd h2 (c := k) (by omega)
    have a2 := h.n
    rw [F_M_suitOfPlayer_12, cn, b.2.1]
    by_cases hk : wHd (σ.1 164) k = p
    · simp (disch := omega) only [if_true, if_false, true_or, or_true, zt_ck, zt_in, if_pos, em_holderOf, zt_bdS, hk, F_M_suitOfPlayer_43, decide_true]
      rw [ih _ _ (by omega) (by omega) (by omega), Int.add_assoc]
    · simp (disch := omega) only [if_true, if_false, true_or, or_true, zt_ck, zt_in, if_pos, em_holderOf, zt_bdS, hk, F_M_suitOfPlayer_43, decide_false, if_false]
      rw [ih _ _ (by omega) (by omega) (by omega)]
      simp
theorem pm_suitOfPlayer {p s : Int} (h : PI (σ.1 164)) (hs : 0 ≤ s ∧ s < 4) (hp : -5 ≤ p ∧ p < 100) : F_M_suitOfPlayer p s σ = some (wSc (σ.1 164) p s, σ) := by
  have b := h.mu hs
  unfold F_M_suitOfPlayer
  rw [pm_suitOfPlayer_12 h hs hp (σ.1 164 0).toNat _ 0 _ (by omega) (zN (by omega)) (by omega), Int.zero_add]
  rfl
theorem pm_hasBetter_9 {p s : Int} (h : PI (σ.1 164)) (hs : 0 ≤ s ∧ s < 4) (hp : -5 ≤ p ∧ p < 100) : ∀ (m n : Nat) (k : Int), k + m = s * σ.1 164 0 + σ.1 164 0 → m < n → 0 ≤ k → F_M_hasBetter_9 n p s k σ = some (if 0 < cn (fun c => decide (wHd (σ.1 164) c = p) && wBt (σ.1 164) c) k m then 1 else 0, σ)
  | m, 0, _, _, h1, _ => absurd h1 (Nat.not_lt_zero m)
  | 0, n + 1, k, h0, h1, h2 => by
    have b := h.mu hs
    rw [F_M_hasBetter_9, b.2.1]
    simp (disch := omega) only [if_true, if_false, true_or, or_true, zt_ck, zt_in, if_pos, if_neg, cn]
    rfl
  | m + 1, n + 1, k, h0, h1, h2 => by
    have b := h.mu hs
    have ih := pm_hasBetter_9 h hs hp m n
    have a := h.hd h2 (c := k) (by omega)
    have a2 := h.n
    have a3 := cn_le (fun c => decide (wHd (σ.1 164) c = p) && wBt (σ.1 164) c) m (k + 1)
    rw [F_M_hasBetter_9, cn, b.2.1]
    by_cases hk : wHd (σ.1 164) k = p
    · simp (disch := omega) only [if_true, if_false, true_or, or_true, zt_ck, zt_in, if_pos, em_holderOf, zt_bdS, hk, F_M_hasBetter_42, decide_true, Bool.true_and, pm_isBetter h]
      by_cases hb : wBt (σ.1 164) k = true
      · simp (disch := omega) only [if_true, if_false, true_or, or_true, hb, if_pos, if_neg]
      · simp (disch := omega) only [if_true, if_false, true_or, or_true, hb, if_pos, if_neg, Bool.false_eq_true, if_false, Int.zero_add]
        exact ih _ (by omega) (by omega) (by omega)
    · simp (disch := omega) only [if_true, if_false, true_or, or_true, zt_ck, zt_in, if_pos, em_holderOf, zt_bdS, hk, F_M_hasBetter_42, decide_false, if_false, Bool.false_and, Bool.false_eq_true, Int.zero_add]
      exact ih _ (by omega) (by omega) (by omega)
theorem pm_hasBetter {p s : Int} (h : PI (σ.1 164)) (hs : 0 ≤ s ∧ s < 4) (hp : -5 ≤ p ∧ p < 100) : F_M_hasBetter p s σ = some (if wHB (σ.1 164) p s = true then 1 else 0, σ) := by
  have b := h.mu hs
  unfold F_M_hasBetter wHB
  rw [pm_hasBetter_9 h hs hp (σ.1 164 0).toNat _ _ (by omega) (zN (by omega)) (by omega)]
  simp only [decide_eq_true_eq]
theorem pb_suitOf {β : Type} {c : Int} (h : PI (σ.1 164)) (hc : 0 ≤ c ∧ c < 100000) {K : _ → zt_S → Option β} : zt_bd (F_M_suitOf c σ) K = K (wS (σ.1 164) c) σ := by rw [pm_suitOf h hc]; rfl
theorem pb_isOver_t {β : Type} (h : PI (σ.1 164)) (hB : wOv (σ.1 164) = true) {K : Int → zt_S → Option β} : zt_bd (F_M_isOver σ) K = K 1 σ := by rw [pm_isOver h]; rw [if_pos hB]; rfl
theorem pb_isOver_f {β : Type} (h : PI (σ.1 164)) (hB : ¬ wOv (σ.1 164) = true) {K : Int → zt_S → Option β} : zt_bd (F_M_isOver σ) K = K 0 σ := by rw [pm_isOver h]; rw [if_neg hB]; rfl
theorem pb_turn {β : Type} (h : PI (σ.1 164)) {K : _ → zt_S → Option β} : zt_bd (F_M_turn σ) K = K (wTn (σ.1 164)) σ := by rw [pm_turn h]; rfl
theorem pb_ledSuit {β : Type} (h : PI (σ.1 164)) {K : _ → zt_S → Option β} : zt_bd (F_M_ledSuit σ) K = K (wLd (σ.1 164)) σ := by rw [pm_ledSuit h]; rfl
theorem pb_isBetter_t {β : Type} {c : Int} (h : PI (σ.1 164)) (hc : 0 ≤ c ∧ c < 4 * σ.1 164 0) (hB : wBt (σ.1 164) c = true) {K : Int → zt_S → Option β} : zt_bd (F_M_isBetter c σ) K = K 1 σ := by rw [pm_isBetter h hc]; rw [if_pos hB]; rfl
theorem pb_isBetter_f {β : Type} {c : Int} (h : PI (σ.1 164)) (hc : 0 ≤ c ∧ c < 4 * σ.1 164 0) (hB : ¬ wBt (σ.1 164) c = true) {K : Int → zt_S → Option β} : zt_bd (F_M_isBetter c σ) K = K 0 σ := by rw [pm_isBetter h hc]; rw [if_neg hB]; rfl
theorem pb_suitOfPlayer {β : Type} {p s : Int} (h : PI (σ.1 164)) (hs : 0 ≤ s ∧ s < 4) (hp : -5 ≤ p ∧ p < 100) {K : _ → zt_S → Option β} : zt_bd (F_M_suitOfPlayer p s σ) K = K (wSc (σ.1 164) p s) σ := by rw [pm_suitOfPlayer h hs hp]; rfl
theorem pb_hasBetter_t {β : Type} {p s : Int} (h : PI (σ.1 164)) (hs : 0 ≤ s ∧ s < 4) (hp : -5 ≤ p ∧ p < 100) (hB : wHB (σ.1 164) p s = true) {K : Int → zt_S → Option β} : zt_bd (F_M_hasBetter p s σ) K = K 1 σ := by rw [pm_hasBetter h hs hp]; rw [if_pos hB]; rfl
theorem pb_hasBetter_f {β : Type} {p s : Int} (h : PI (σ.1 164)) (hs : 0 ≤ s ∧ s < 4) (hp : -5 ≤ p ∧ p < 100) (hB : ¬ wHB (σ.1 164) p s = true) {K : Int → zt_S → Option β} : zt_bd (F_M_hasBetter p s σ) K = K 0 σ := by rw [pm_hasBetter h hs hp]; rw [if_neg hB]; rfl
theorem wSc_ltp {w : Int → Int} (h : PI w) {p s : Int} : 0 ≤ wSc w p s ∧ wSc w p s ≤ 13 := by
  have a := h.n
  have := cn_le (fun c => decide (wHd w c = p)) (w 0).toNat (s * w 0)
  unfold wSc
  omega
theorem pm_mayPlay {p c : Int} (h : PI (σ.1 164)) (hp : 0 ≤ p ∧ p < 4) (hc : 0 ≤ c ∧ c < 4 * σ.1 164 0) : F_M_mayPlay p c σ = some (if wMp (σ.1 164) p c = true then 1 else 0, σ) := by
  have a := h.n
  have b := h.wpl
  have d := wS_ltp h hc.1 hc.2
  have e := wLd_ltp h
  have f := wSc_ltp h (p := p) (s := wLd (σ.1 164))
  have g := wSc_ltp h (p := p) (s := σ.1 164 10)
  unfold F_M_mayPlay wMp
  by_cases h3 : σ.1 164 3 = 0
  · simp (disch := first | omega | (unfold zt_in; omega)) only [↓zt_ckI, ↓if_pos, ↓if_neg, if_true, if_false, F_M_mayPlay_16, h3, true_or]
  · by_cases h1 : wPl (σ.1 164) = 0
    · simp (disch := first | omega | (unfold zt_in; omega)) only [↓zt_ckI, ↓if_pos, ↓if_neg, if_true, if_false, ↓eb_inTrick, F_M_mayPlay_16, h1, or_true]
    · have e1 := e.2.2 (by omega)
      simp (disch := first | omega | (unfold zt_in; omega)) only [↓zt_ckI, ↓if_pos, ↓if_neg, if_true, if_false, ↓eb_inTrick, ↓pb_ledSuit h, ↓pb_suitOfPlayer h]
      by_cases h4 : 0 < wSc (σ.1 164) p (wLd (σ.1 164))
      · by_cases h5 : wS (σ.1 164) c = wLd (σ.1 164)
        · by_cases h6 : σ.1 164 3 = 2
          · by_cases h7 : wBt (σ.1 164) c = true
            · simp (disch := first | omega | (unfold zt_in; omega)) only [↓zt_ckI, ↓if_pos, ↓if_neg, if_true, if_false, ↓pb_suitOf h, ↓pb_isBetter_t h hc h7, F_M_mayPlay_68, F_M_mayPlay_73]
              simp [h5, h7]
            · by_cases h8 : wHB (σ.1 164) p (wLd (σ.1 164)) = true
              · simp (disch := first | omega | (unfold zt_in; omega)) only [↓zt_ckI, ↓if_pos, ↓if_neg, if_true, if_false, ↓pb_suitOf h, ↓pb_isBetter_f h hc h7, ↓pb_hasBetter_t h ⟨e1, e.2.1⟩ ⟨by omega, by omega⟩ h8, F_M_mayPlay_72, F_M_mayPlay_73]
                simp [h5, h6, h7, h8]
              · simp (disch := first | omega | (unfold zt_in; omega)) only [↓zt_ckI, ↓if_pos, ↓if_neg, if_true, if_false, ↓pb_suitOf h, ↓pb_isBetter_f h hc h7, ↓pb_hasBetter_f h ⟨e1, e.2.1⟩ ⟨by omega, by omega⟩ h8, F_M_mayPlay_68, F_M_mayPlay_73]
                simp [h5, h6, h7, h8]
          · simp (disch := first | omega | (unfold zt_in; omega)) only [↓zt_ckI, ↓if_pos, ↓if_neg, if_true, if_false, ↓pb_suitOf h, F_M_mayPlay_68, F_M_mayPlay_73]
            simp [h5, h6]
        · simp (disch := first | omega | (unfold zt_in; omega)) only [↓zt_ckI, ↓if_pos, ↓if_neg, if_true, if_false, ↓pb_suitOf h, F_M_mayPlay_72, F_M_mayPlay_73]
          simp [h5]
      · by_cases h5 : σ.1 164 3 = 3
        · by_cases h6 : σ.1 164 10 = -1
          · simp (disch := first | omega | (unfold zt_in; omega)) only [↓zt_ckI, ↓if_pos, ↓if_neg, if_true, if_false, ↓pb_suitOf h, F_M_mayPlay_114, F_M_mayPlay_115, F_M_mayPlay_137, F_M_mayPlay_142]
            simp [h6]
          · by_cases h7 : 0 < wSc (σ.1 164) p (σ.1 164 10)
            · by_cases h8 : wS (σ.1 164) c = σ.1 164 10
              · simp (disch := first | omega | (unfold zt_in; omega)) only [↓zt_ckI, ↓if_pos, ↓if_neg, if_true, if_false, ↓pb_suitOf h, ↓pb_suitOfPlayer h, F_M_mayPlay_115, F_M_mayPlay_137, F_M_mayPlay_142]
                simp [h8]
              · simp (disch := first | omega | (unfold zt_in; omega)) only [↓zt_ckI, ↓if_pos, ↓if_neg, if_true, if_false, ↓pb_suitOf h, ↓pb_suitOfPlayer h, F_M_mayPlay_115, F_M_mayPlay_137, F_M_mayPlay_142]
                simp [h5, h6, h7, h8]
            · simp (disch := first | omega | (unfold zt_in; omega)) only [↓zt_ckI, ↓if_pos, ↓if_neg, if_true, if_false, ↓pb_suitOf h, ↓pb_suitOfPlayer h, F_M_mayPlay_114, F_M_mayPlay_115, F_M_mayPlay_137, F_M_mayPlay_142]
              simp [h7]
        · simp (disch := first | omega | (unfold zt_in; omega)) only [↓zt_ckI, ↓if_pos, ↓if_neg, if_true, if_false, F_M_mayPlay_114, F_M_mayPlay_115, F_M_mayPlay_137, F_M_mayPlay_142]
          simp [h5]
theorem pm_isLegalNow {c : Int} (h : PI (σ.1 164)) (hc : 0 ≤ c ∧ c < 4 * σ.1 164 0) : F_M_isLegalNow c σ = some (if wLg (σ.1 164) c = true then 1 else 0, σ) := by
  have a := h.n
  have b := wTn_ltp h
  have d := h.hd hc.1 (by omega)
  unfold F_M_isLegalNow F_M_isLegalNow_32 F_M_isLegalNow_33 wLg
  by_cases h1 : wTn (σ.1 164) = -1
  · simp (disch := omega) [zt_ck, h1, pm_turn h, zt_bdS]
  · by_cases h2 : wHd (σ.1 164) c = wTn (σ.1 164)
    · by_cases h3 : wMp (σ.1 164) (wTn (σ.1 164)) c = true
      · simp (disch := omega) only [if_true, if_false, true_or, or_true, zt_ck, zt_in, zt_bdS, if_pos, pm_turn h, em_holderOf, pm_mayPlay h, h1, h2, h3, decide_true, decide_false, Bool.true_and, not_false_eq_true]
        simp
      · simp (disch := omega) only [if_true, if_false, true_or, or_true, zt_ck, zt_in, zt_bdS, if_pos, pm_turn h, em_holderOf, pm_mayPlay h, h1, h2, h3, decide_true, decide_false, Bool.true_and, not_false_eq_true]
        simp
    · simp (disch := omega) only [if_true, if_false, true_or, or_true, zt_ck, zt_in, zt_bdS, if_pos, pm_turn h, em_holderOf, h1, h2, decide_true, decide_false, Bool.true_and, Bool.false_and, Bool.and_false, not_false_eq_true, Bool.false_eq_true]
/-- a row that plays alike -/
theorem EV.pi {w' : Int → Int} (e : EV w w') (h : PI w) : PI w' := by
  have pl := e.pl
  refine ⟨?_, ?_, fun c c0 c1 => ?_, fun k k0 k1 => ?_⟩
  · rw [e.1 0 (by omega) (by omega), e.1 1 (by omega) (by omega), e.1 2 (by omega) (by omega), e.1 3 (by omega) (by omega), e.1 4 (by omega) (by omega), e.1 5 (by omega) (by omega), e.1 6 (by omega) (by omega), e.1 7 (by omega) (by omega), e.1 8 (by omega) (by omega), e.1 9 (by omega) (by omega), e.1 10 (by omega) (by omega), e.1 11 (by omega) (by omega)]
    exact h.n
  · rw [e.1 12 (by omega) (by omega), e.1 13 (by omega) (by omega), e.1 1 (by omega) (by omega), e.1 2 (by omega) (by omega)]
    exact h.pl
  · rw [e.1 0 (by omega) (by omega), e.1 1 (by omega) (by omega), e.2.1 c c0 c1]
    exact h.2.2.1 c c0 c1
  · rw [pl] at k1
    rw [e.2.2 k k0 k1, e.1 0 (by omega) (by omega)]
    exact h.2.2.2 k k0 k1
end PIF
