/-! THE REFERENCE'S METHODS over its row -/
theorem zN {m : Nat} (h : m < 1000000) : m < zt_N := Nat.lt_trans h (by unfold zt_N; decide)
section EM
variable {σ : zt_S}
theorem em_suitOf {c : Int} (h : RI (σ.1 164)) (hc : 0 ≤ c ∧ c < 100000) : F_M_suitOf c σ = some (wS (σ.1 164) c, σ) := by
  have a := h.n
  unfold F_M_suitOf wS
  simp (disch := omega) only [if_true, if_false, true_or, or_true, zt_ck, zt_in, if_pos]
theorem em_rankOf {c : Int} (h : RI (σ.1 164)) (hc : 0 ≤ c ∧ c < 100000) : F_M_rankOf c σ = some (wR (σ.1 164) c, σ) := by
  have a := h.n
  unfold F_M_rankOf wR
  simp (disch := omega) only [if_true, if_false, true_or, or_true, zt_ck, zt_in, if_pos]
theorem em_isOver (h : RI (σ.1 164)) : F_M_isOver σ = some (if wOv (σ.1 164) = true then 1 else 0, σ) := by
  have a := h.n
  have b := h.pl
  have c := h.p12
  unfold F_M_isOver F_M_isOver_28 wOv
  by_cases h1 : σ.1 164 12 = σ.1 164 1 * σ.1 164 2
  · simp (disch := omega) only [if_true, if_false, true_or, or_true, zt_ck, zt_in, if_pos, h1, decide_true]
  · simp (disch := omega) only [if_true, if_false, true_or, or_true, zt_ck, zt_in, if_pos, if_neg, h1, decide_false]
    rfl
theorem em_inTrick : F_M_inTrick σ = some (wPl (σ.1 164), σ) := rfl
theorem RI.m13 {w : Int → Int} (h : RI w) : 0 ≤ w 13 * w 1 ∧ w 13 * w 1 ≤ 52 := by
  have a := h.n
  have b := h.pl
  have c := h.p12
  exact ⟨Int.mul_nonneg (by omega) (by omega), by omega⟩
theorem em_cardInTrick {k : Int} (h : RI (σ.1 164)) (hk : 0 ≤ k ∧ k < 4) : F_M_cardInTrick k σ = some (wCd (σ.1 164) k, σ) := by
  have a := h.m13
  unfold F_M_cardInTrick wCd
  simp (disch := omega) only [if_true, if_false, true_or, or_true, zt_ck, if_pos]
theorem em_turn (h : RI (σ.1 164)) : F_M_turn σ = some (wTn (σ.1 164), σ) := by
  have a := h.n
  have b := h.wpl
  unfold F_M_turn F_M_turn_30 wTn
  rw [em_isOver h]
  by_cases h1 : wOv (σ.1 164) = true
  · simp (disch := omega) only [if_true, if_false, true_or, or_true, zt_bdS, h1, zt_ck, zt_in, if_pos, if_neg]
  · simp (disch := omega) only [if_true, if_false, true_or, or_true, zt_bdS, h1, zt_ck, zt_in, if_pos, em_inTrick]
    rfl
theorem em_ledSuit (h : RI (σ.1 164)) : F_M_ledSuit σ = some (wLd (σ.1 164), σ) := by
  have a := h.n
  have b := h.wpl
  unfold F_M_ledSuit F_M_ledSuit_20 wLd
  rw [em_inTrick, zt_bdS]
  by_cases h1 : wPl (σ.1 164) = 0
  · simp (disch := omega) only [if_true, if_false, true_or, or_true, zt_ck, zt_in, if_pos, h1]
  · have c := h.cd (k := 0) (by omega) (by omega)
    simp (disch := omega) only [if_true, if_false, true_or, or_true, zt_ck, zt_in, if_pos, if_neg, em_cardInTrick h, zt_bdS, em_suitOf h]
theorem wLd_lt {w : Int → Int} (h : RI w) : -1 ≤ wLd w ∧ wLd w < 4 ∧ (0 < wPl w → 0 ≤ wLd w) := by
  have b := h.wpl
  unfold wLd
  split
  · omega
  · have c := h.cd (k := 0) (by omega) (by omega)
    have d := wS_lt h c.1 c.2.1
    omega
theorem em_powerWith {c u : Int} (h : RI (σ.1 164)) (hc : 0 ≤ c ∧ c < 4 * σ.1 164 0) (hu : -10 ≤ u ∧ u < 1000) : F_M_powerWith c u σ = some (wPw (σ.1 164) c u, σ) := by
  have a := h.n
  have b := wS_lt h hc.1 hc.2
  unfold F_M_powerWith F_M_powerWith_47 wPw
  simp (disch := omega) only [if_true, if_false, true_or, or_true, em_suitOf h, em_rankOf h, zt_bdS, zt_ck, zt_in, if_pos]
  split
  · rfl
  · split <;> rfl
theorem em_powerNow {c : Int} (h : RI (σ.1 164)) (hc : 0 ≤ c ∧ c < 4 * σ.1 164 0) : F_M_powerNow c σ = some (wPn (σ.1 164) c, σ) := by
  have a := h.n
  have b := h.wpl
  have d := wS_lt h hc.1 hc.2
  have e := wLd_lt h
  unfold F_M_powerNow F_M_powerNow_21 wPn
  rw [em_inTrick, zt_bdS]
  by_cases h1 : wPl (σ.1 164) = 0
  · simp (disch := omega) only [if_true, if_false, true_or, or_true, zt_ck, zt_in, if_pos, h1, em_suitOf h, zt_bdS, em_powerWith h]
  · simp (disch := omega) only [if_true, if_false, true_or, or_true, zt_ck, zt_in, if_pos, if_neg, em_ledSuit h, zt_bdS, em_powerWith h]
theorem em_bestPlace_4 (h : RI (σ.1 164)) : ∀ (m n : Nat) (b k : Int), k + m = wPl (σ.1 164) → m < n → -1 ≤ b → b < k → 0 ≤ k → F_M_bestPlace_4 n b k σ = some (wBs (σ.1 164) b k m, σ)
  | m, 0, _, _, _, h1, _, _, _ => absurd h1 (Nat.not_lt_zero m)
  | 0, n + 1, b, k, h0, h1, h2, h3, h4 => by
    have a := h.n
    have e := h.wpl
    rw [F_M_bestPlace_4, em_inTrick, zt_bdS]
    simp (disch := omega) only [if_true, if_false, true_or, or_true, zt_ck, zt_in, if_pos, if_neg]
    rfl
  | m + 1, n + 1, b, k, h0, h1, h2, h3, h4 => by
    have a := h.n
    have e := h.wpl
    have ih := em_bestPlace_4 h m n
    have ck := h.cd (k := k) h4 (by omega)
    have pk := wPn_lt h (c := wCd (σ.1 164) k)
    rw [F_M_bestPlace_4, em_inTrick, zt_bdS, wBs]
    by_cases hb : b = -1
    · simp (disch := omega) only [if_true, if_false, true_or, or_true, zt_ck, zt_in, if_pos, hb, F_M_bestPlace_38, F_M_bestPlace_40]
      exact ih k (k + 1) (by omega) (by omega) (by omega) (by omega) (by omega)
    · have cb := h.cd (k := b) (by omega) (by omega)
      have pb := wPn_lt h (c := wCd (σ.1 164) b)
      simp (disch := omega) only [if_true, if_false, true_or, or_true, zt_ck, zt_in, if_pos, hb, false_or, if_false, F_M_bestPlace_38, F_M_bestPlace_40, em_cardInTrick h, zt_bdS, em_powerNow h]
      split
      · exact ih k (k + 1) (by omega) (by omega) (by omega) (by omega) (by omega)
      · exact ih b (k + 1) (by omega) (by omega) (by omega) (by omega) (by omega)
theorem em_bestPlace (h : RI (σ.1 164)) : F_M_bestPlace σ = some (wBp (σ.1 164), σ) := by
  have a := h.n
  have e := h.wpl
  unfold F_M_bestPlace wBp
  exact em_bestPlace_4 h _ _ _ _ (by omega) (zN (by omega)) (by omega) (by omega) (by omega)
theorem em_isBetter {c : Int} (h : RI (σ.1 164)) (hc : 0 ≤ c ∧ c < 4 * σ.1 164 0) : F_M_isBetter c σ = some (if wBt (σ.1 164) c = true then 1 else 0, σ) := by
  have a := h.n
  have e := h.wpl
  have p1 := wPn_lt h (c := c)
  unfold F_M_isBetter F_M_isBetter_27 F_M_isBetter_32 wBt
  rw [em_inTrick, zt_bdS]
  by_cases h1 : wPl (σ.1 164) = 0
  · simp (disch := omega) only [if_true, if_false, true_or, or_true, zt_ck, zt_in, if_pos, h1, true_or, decide_true]
  · have bp := (wBp_lt h).2.2.1 (by omega)
    have cb := h.cd bp.1 bp.2
    have p2 := wPn_lt h (c := wCd (σ.1 164) (wBp (σ.1 164)))
    simp (disch := omega) only [if_true, if_false, true_or, or_true, zt_ck, zt_in, if_pos, if_neg, em_powerNow h, em_bestPlace h, em_cardInTrick h, zt_bdS, h1, false_or, decide_eq_true_eq]
    split <;> rfl
theorem em_holderOf {c : Int} (hc : 0 ≤ c ∧ c < 100) : F_M_holderOf c σ = some (wHd (σ.1 164) c, σ) := by
  unfold F_M_holderOf wHd
  simp (disch := omega) only [if_true, if_false, true_or, or_true, zt_ck, if_pos]
theorem em_heldBy_5 {c1 : Nat} {p : Int} (hp : -5 ≤ p ∧ p < 100) (hr : ∀ c, 0 ≤ c → c < 52 → -1 ≤ σ.1 c1 (40 + c) ∧ σ.1 c1 (40 + c) < 100) : ∀ (m n : Nat) (acc k : Int), k + m = 52 → m < n → 0 ≤ k → F_M_heldBy_5 c1 274 n p acc k σ = some (acc + cn (fun c => decide (σ.1 c1 (40 + c) = p)) k m, σ)
  | m, 0, _, _, _, h1, _ => absurd h1 (Nat.not_lt_zero m)
  | 0, n + 1, acc, k, h0, h1, h2 => by
    rw [F_M_heldBy_5]
    simp (disch := omega) only [if_true, if_false, true_or, or_true, zt_ck, zt_in, if_pos, if_neg, cn, Int.add_zero]
  | m + 1, n + 1, acc, k, h0, h1, h2 => by
    have ih := em_heldBy_5 hp hr m n
    have a := hr k h2 (by omega)
    rw [F_M_heldBy_5, cn]
    by_cases hk : σ.1 c1 (40 + k) = p
    · simp (disch := omega) only [if_true, if_false, true_or, or_true, zt_ck, zt_in, if_pos, hk, F_M_heldBy_29, decide_true]
      rw [ih _ _ (by omega) (by omega) (by omega), Int.add_assoc]
    · simp (disch := omega) only [if_true, if_false, true_or, or_true, zt_ck, zt_in, if_pos, hk, F_M_heldBy_29, decide_false, if_false]
      rw [ih _ _ (by omega) (by omega) (by omega)]
      simp
theorem em_heldBy {c1 : Nat} {p : Int} (hp : -5 ≤ p ∧ p < 100) (hr : ∀ c, 0 ≤ c → c < 52 → -1 ≤ σ.1 c1 (40 + c) ∧ σ.1 c1 (40 + c) < 100) : F_M_heldBy c1 274 p σ = some (wHc (σ.1 c1) p, σ) := by
  unfold F_M_heldBy
  rw [em_heldBy_5 hp hr 52 _ 0 0 (by omega) (zN (by omega)) (by omega), Int.zero_add]
  rfl
theorem RI.mu {w : Int → Int} (h : RI w) {s : Int} (hs : 0 ≤ s ∧ s < 4) : 0 ≤ s * w 0 ∧ (s + 1) * w 0 = s * w 0 + w 0 ∧ s * w 0 + w 0 ≤ 4 * w 0 ∧ w 0 ≤ 13 ∧ 4 ≤ w 0 := by
  have a := h.n
  have e : (s + 1) * w 0 = s * w 0 + w 0 := by rw [Int.add_mul, Int.one_mul]
  have f : (s + 1) * w 0 ≤ 4 * w 0 := Int.mul_le_mul_of_nonneg_right (by omega) (by omega)
  exact ⟨Int.mul_nonneg hs.1 (by omega), e, by omega, a.1.2, a.1.1⟩
theorem em_suitOfPlayer_12 {p s : Int} (h : RI (σ.1 164)) (hs : 0 ≤ s ∧ s < 4) (hp : -5 ≤ p ∧ p < 100) : ∀ (m n : Nat) (acc k : Int), k + m = s * σ.1 164 0 + σ.1 164 0 → m < n → 0 ≤ k → F_M_suitOfPlayer_12 n p s acc k σ = some (acc + cn (fun c => decide (wHd (σ.1 164) c = p)) k m, σ)
  | m, 0, _, _, _, h1, _ => absurd h1 (Nat.not_lt_zero m)
  | 0, n + 1, acc, k, h0, h1, h2 => by
    have b := h.mu hs
    rw [F_M_suitOfPlayer_12, b.2.1]
    simp (disch := omega) only [if_true, if_false, true_or, or_true, zt_ck, zt_in, if_pos, if_neg, cn, Int.add_zero]
  | m + 1, n + 1, acc, k, h0, h1, h2 => by
    have b := h.mu hs
    have ih := em_suitOfPlayer_12 h hs hp m n
    have a := h.hd h2 (c := k) (by omega)
    have a2 := h.n
    rw [F_M_suitOfPlayer_12, cn, b.2.1]
    by_cases hk : wHd (σ.1 164) k = p
    · simp (disch := omega) only [if_true, if_false, true_or, or_true, zt_ck, zt_in, if_pos, em_holderOf, zt_bdS, hk, F_M_suitOfPlayer_43, decide_true]
      rw [ih _ _ (by omega) (by omega) (by omega), Int.add_assoc]
    · simp (disch := omega) only [if_true, if_false, true_or, or_true, zt_ck, zt_in, if_pos, em_holderOf, zt_bdS, hk, F_M_suitOfPlayer_43, decide_false, if_false]
      rw [ih _ _ (by omega) (by omega) (by omega)]
      simp
theorem em_suitOfPlayer {p s : Int} (h : RI (σ.1 164)) (hs : 0 ≤ s ∧ s < 4) (hp : -5 ≤ p ∧ p < 100) : F_M_suitOfPlayer p s σ = some (wSc (σ.1 164) p s, σ) := by
  have b := h.mu hs
  unfold F_M_suitOfPlayer
  rw [em_suitOfPlayer_12 h hs hp (σ.1 164 0).toNat _ 0 _ (by omega) (zN (by omega)) (by omega), Int.zero_add]
  rfl
theorem em_hasBetter_9 {p s : Int} (h : RI (σ.1 164)) (hs : 0 ≤ s ∧ s < 4) (hp : -5 ≤ p ∧ p < 100) : ∀ (m n : Nat) (k : Int), k + m = s * σ.1 164 0 + σ.1 164 0 → m < n → 0 ≤ k → F_M_hasBetter_9 n p s k σ = some (if 0 < cn (fun c => decide (wHd (σ.1 164) c = p) && wBt (σ.1 164) c) k m then 1 else 0, σ)
  | m, 0, _, _, h1, _ => absurd h1 (Nat.not_lt_zero m)
  | 0, n + 1, k, h0, h1, h2 => by
    have b := h.mu hs
    rw [F_M_hasBetter_9, b.2.1]
    simp (disch := omega) only [if_true, if_false, true_or, or_true, zt_ck, zt_in, if_pos, if_neg, cn]
    rfl
  | m + 1, n + 1, k, h0, h1, h2 => by
    have b := h.mu hs
    have ih := em_hasBetter_9 h hs hp m n
    have a := h.hd h2 (c := k) (by omega)
    have a2 := h.n
    have a3 := cn_le (fun c => decide (wHd (σ.1 164) c = p) && wBt (σ.1 164) c) m (k + 1)
    rw [F_M_hasBetter_9, cn, b.2.1]
    by_cases hk : wHd (σ.1 164) k = p
    · simp (disch := omega) only [if_true, if_false, true_or, or_true, zt_ck, zt_in, if_pos, em_holderOf, zt_bdS, hk, F_M_hasBetter_42, decide_true, Bool.true_and, em_isBetter h]
      by_cases hb : wBt (σ.1 164) k = true
      · simp (disch := omega) only [if_true, if_false, true_or, or_true, hb, if_pos, if_neg]
      · simp (disch := omega) only [if_true, if_false, true_or, or_true, hb, if_pos, if_neg, Bool.false_eq_true, if_false, Int.zero_add]
        exact ih _ (by omega) (by omega) (by omega)
    · simp (disch := omega) only [if_true, if_false, true_or, or_true, zt_ck, zt_in, if_pos, em_holderOf, zt_bdS, hk, F_M_hasBetter_42, decide_false, if_false, Bool.false_and, Bool.false_eq_true, Int.zero_add]
      exact ih _ (by omega) (by omega) (by omega)
theorem em_hasBetter {p s : Int} (h : RI (σ.1 164)) (hs : 0 ≤ s ∧ s < 4) (hp : -5 ≤ p ∧ p < 100) : F_M_hasBetter p s σ = some (if wHB (σ.1 164) p s = true then 1 else 0, σ) := by
  have b := h.mu hs
  unfold F_M_hasBetter wHB
  rw [em_hasBetter_9 h hs hp (σ.1 164 0).toNat _ _ (by omega) (zN (by omega)) (by omega)]
  simp only [decide_eq_true_eq]
theorem em_trickCell {t j : Int} : F_M_trickCell t j σ = some (196 + 6 * t + j, σ) := rfl
theorem em_tricksOf_4 {p : Int} (h : RI (σ.1 164)) (hp : -5 ≤ p ∧ p < 100) : ∀ (m n : Nat) (acc k : Int), k + m = σ.1 164 13 → m < n → 0 ≤ k → F_M_tricksOf_4 n p acc k σ = some (acc + cn (fun t => decide (σ.1 164 (196 + 6 * t + 1) = p)) k m, σ)
  | m, 0, _, _, _, h1, _ => absurd h1 (Nat.not_lt_zero m)
  | 0, n + 1, acc, k, h0, h1, h2 => by
    have a := h.n
    have b := h.p13
    rw [F_M_tricksOf_4]
    simp (disch := omega) only [if_true, if_false, true_or, or_true, zt_ck, zt_in, if_pos, if_neg, cn, Int.add_zero]
  | m + 1, n + 1, acc, k, h0, h1, h2 => by
    have a := h.n
    have b := h.p13
    have ih := em_tricksOf_4 h hp m n
    have e := h.2.2.2.2.2.2.2.2.2.1 k h2 (by omega)
    rw [F_M_tricksOf_4, cn]
    by_cases hk : σ.1 164 (196 + 6 * k + 1) = p
    · simp (disch := omega) only [if_true, if_false, true_or, or_true, zt_ck, zt_in, if_pos, em_trickCell, zt_bdS, hk, F_M_tricksOf_36, decide_true]
      rw [ih _ _ (by omega) (by omega) (by omega), Int.add_assoc]
    · simp (disch := omega) only [if_true, if_false, true_or, or_true, zt_ck, zt_in, if_pos, em_trickCell, zt_bdS, hk, F_M_tricksOf_36, decide_false, if_false]
      rw [ih _ _ (by omega) (by omega) (by omega)]
      simp
theorem em_tricksOf {p : Int} (h : RI (σ.1 164)) (hp : -5 ≤ p ∧ p < 100) : F_M_tricksOf p σ = some (wTk (σ.1 164) p, σ) := by
  have a := h.n
  have b := h.p13
  have c := h.pl
  unfold F_M_tricksOf
  rw [em_tricksOf_4 h hp (σ.1 164 13).toNat _ 0 0 (by omega) (zN (by omega)) (by omega), Int.zero_add]
  rfl
theorem wTk_lt {w : Int → Int} (h : RI w) {p : Int} : 0 ≤ wTk w p ∧ wTk w p ≤ 13 := by
  have a := h.n
  have b := h.p13
  have c := h.pl
  have := cn_le (fun t => decide (w (196 + 6 * t + 1) = p)) (w 13).toNat 0
  unfold wTk
  omega
theorem em_resultOf {p : Int} (h : RI (σ.1 164)) (hp : 0 ≤ p ∧ p < 4) : F_M_resultOf p σ = some (wRs (σ.1 164) p, σ) := by
  have a := wTk_lt h (p := p)
  have b := h.2.2.2.1 p hp.1 hp.2
  unfold F_M_resultOf F_M_resultOf_49 wRs
  simp (disch := omega) only [if_true, if_false, true_or, or_true, em_tricksOf h, zt_bdS, zt_ck, zt_in, if_pos]
  split
  · rfl
  · split
    · rfl
    · split <;> rfl
theorem eb_suitOf {β : Type} {c : Int} (h : RI (σ.1 164)) (hc : 0 ≤ c ∧ c < 100000) {K : _ → zt_S → Option β} : zt_bd (F_M_suitOf c σ) K = K (wS (σ.1 164) c) σ := by rw [em_suitOf h hc]; rfl
theorem eb_rankOf {β : Type} {c : Int} (h : RI (σ.1 164)) (hc : 0 ≤ c ∧ c < 100000) {K : _ → zt_S → Option β} : zt_bd (F_M_rankOf c σ) K = K (wR (σ.1 164) c) σ := by rw [em_rankOf h hc]; rfl
theorem eb_isOver_t {β : Type} (h : RI (σ.1 164)) (hB : wOv (σ.1 164) = true) {K : Int → zt_S → Option β} : zt_bd (F_M_isOver σ) K = K 1 σ := by rw [em_isOver h]; rw [if_pos hB]; rfl
theorem eb_isOver_f {β : Type} (h : RI (σ.1 164)) (hB : ¬ wOv (σ.1 164) = true) {K : Int → zt_S → Option β} : zt_bd (F_M_isOver σ) K = K 0 σ := by rw [em_isOver h]; rw [if_neg hB]; rfl
theorem eb_inTrick {β : Type} {K : _ → zt_S → Option β} : zt_bd (F_M_inTrick σ) K = K (wPl (σ.1 164)) σ := by rw [em_inTrick ]; rfl
theorem eb_cardInTrick {β : Type} {k : Int} (h : RI (σ.1 164)) (hk : 0 ≤ k ∧ k < 4) {K : _ → zt_S → Option β} : zt_bd (F_M_cardInTrick k σ) K = K (wCd (σ.1 164) k) σ := by rw [em_cardInTrick h hk]; rfl
theorem eb_turn {β : Type} (h : RI (σ.1 164)) {K : _ → zt_S → Option β} : zt_bd (F_M_turn σ) K = K (wTn (σ.1 164)) σ := by rw [em_turn h]; rfl
theorem eb_ledSuit {β : Type} (h : RI (σ.1 164)) {K : _ → zt_S → Option β} : zt_bd (F_M_ledSuit σ) K = K (wLd (σ.1 164)) σ := by rw [em_ledSuit h]; rfl
theorem eb_powerWith {β : Type} {c u : Int} (h : RI (σ.1 164)) (hc : 0 ≤ c ∧ c < 4 * σ.1 164 0) (hu : -10 ≤ u ∧ u < 1000) {K : _ → zt_S → Option β} : zt_bd (F_M_powerWith c u σ) K = K (wPw (σ.1 164) c u) σ := by rw [em_powerWith h hc hu]; rfl
theorem eb_powerNow {β : Type} {c : Int} (h : RI (σ.1 164)) (hc : 0 ≤ c ∧ c < 4 * σ.1 164 0) {K : _ → zt_S → Option β} : zt_bd (F_M_powerNow c σ) K = K (wPn (σ.1 164) c) σ := by rw [em_powerNow h hc]; rfl
theorem eb_bestPlace {β : Type} (h : RI (σ.1 164)) {K : _ → zt_S → Option β} : zt_bd (F_M_bestPlace σ) K = K (wBp (σ.1 164)) σ := by rw [em_bestPlace h]; rfl
theorem eb_isBetter_t {β : Type} {c : Int} (h : RI (σ.1 164)) (hc : 0 ≤ c ∧ c < 4 * σ.1 164 0) (hB : wBt (σ.1 164) c = true) {K : Int → zt_S → Option β} : zt_bd (F_M_isBetter c σ) K = K 1 σ := by rw [em_isBetter h hc]; rw [if_pos hB]; rfl
theorem eb_isBetter_f {β : Type} {c : Int} (h : RI (σ.1 164)) (hc : 0 ≤ c ∧ c < 4 * σ.1 164 0) (hB : ¬ wBt (σ.1 164) c = true) {K : Int → zt_S → Option β} : zt_bd (F_M_isBetter c σ) K = K 0 σ := by rw [em_isBetter h hc]; rw [if_neg hB]; rfl
theorem eb_holderOf {β : Type} {c : Int} (hc : 0 ≤ c ∧ c < 100) {K : _ → zt_S → Option β} : zt_bd (F_M_holderOf c σ) K = K (wHd (σ.1 164) c) σ := by rw [em_holderOf hc]; rfl
theorem eb_heldBy {β : Type} {c1 : Nat} {p : Int} (hp : -5 ≤ p ∧ p < 100) (hr : ∀ c, 0 ≤ c → c < 52 → -1 ≤ σ.1 c1 (40 + c) ∧ σ.1 c1 (40 + c) < 100) {K : _ → zt_S → Option β} : zt_bd (F_M_heldBy c1 274 p σ) K = K (wHc (σ.1 c1) p) σ := by rw [em_heldBy hp hr]; rfl
theorem eb_suitOfPlayer {β : Type} {p s : Int} (h : RI (σ.1 164)) (hs : 0 ≤ s ∧ s < 4) (hp : -5 ≤ p ∧ p < 100) {K : _ → zt_S → Option β} : zt_bd (F_M_suitOfPlayer p s σ) K = K (wSc (σ.1 164) p s) σ := by rw [em_suitOfPlayer h hs hp]; rfl
theorem eb_hasBetter_t {β : Type} {p s : Int} (h : RI (σ.1 164)) (hs : 0 ≤ s ∧ s < 4) (hp : -5 ≤ p ∧ p < 100) (hB : wHB (σ.1 164) p s = true) {K : Int → zt_S → Option β} : zt_bd (F_M_hasBetter p s σ) K = K 1 σ := by rw [em_hasBetter h hs hp]; rw [if_pos hB]; rfl
theorem eb_hasBetter_f {β : Type} {p s : Int} (h : RI (σ.1 164)) (hs : 0 ≤ s ∧ s < 4) (hp : -5 ≤ p ∧ p < 100) (hB : ¬ wHB (σ.1 164) p s = true) {K : Int → zt_S → Option β} : zt_bd (F_M_hasBetter p s σ) K = K 0 σ := by rw [em_hasBetter h hs hp]; rw [if_neg hB]; rfl
theorem eb_trickCell {β : Type} {t j : Int} {K : _ → zt_S → Option β} : zt_bd (F_M_trickCell t j σ) K = K (196 + 6 * t + j) σ := by rw [em_trickCell ]; rfl
theorem eb_tricksOf {β : Type} {p : Int} (h : RI (σ.1 164)) (hp : -5 ≤ p ∧ p < 100) {K : _ → zt_S → Option β} : zt_bd (F_M_tricksOf p σ) K = K (wTk (σ.1 164) p) σ := by rw [em_tricksOf h hp]; rfl
theorem eb_resultOf {β : Type} {p : Int} (h : RI (σ.1 164)) (hp : 0 ≤ p ∧ p < 4) {K : _ → zt_S → Option β} : zt_bd (F_M_resultOf p σ) K = K (wRs (σ.1 164) p) σ := by rw [em_resultOf h hp]; rfl
end EM
