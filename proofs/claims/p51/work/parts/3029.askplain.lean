/-! QUESTIONS that can't fail: how many cards are legal, which suit was led, who wins, when the trump has faded -/
section QW
variable {σ : zt_S}
/-- both tell the same number -/
def AP (fc fm : zt_S → Option (Int × zt_S)) (σ : zt_S) : Prop := ∃ v, fc σ = some (v, σ) ∧ fm σ = some (v, zt_up σ 163 0 0) ∧ zt_in v
theorem ap_led (h : CO σ) : AP F_C_led F_M_led σ := by
  have e : (zt_up σ 163 0 0).1 164 = σ.1 164 := up_f (by decide)
  have g : RI ((zt_up σ 163 0 0).1 164) := by rw [e]; exact h.1
  have l := wLd_lt h.1
  refine ⟨wLd (σ.1 164), ?_, ?_, ⟨by omega, by omega⟩⟩
  · unfold F_C_led
    rw [show σ.1 7 3 = wLd (σ.1 164) from h.2.1.1.1.2.2.2]
  · unfold F_M_led
    rw [zt_letS, eb_ledSuit g, e]
def wLe (w : Int → Int) : Int := cn (wLg w) 0 (4 * w 0).toNat
theorem em_legal_9 (h : RI (σ.1 164)) : ∀ (m n : Nat) (acc k : Int), k + m = 4 * σ.1 164 0 → m < n → 0 ≤ k → 0 ≤ acc → acc ≤ k → F_M_legal_9 n acc k σ = some (acc + cn (wLg (σ.1 164)) k m, σ)
  | m, 0, _, _, _, h1, _, _, _ => absurd h1 (Nat.not_lt_zero m)
  | 0, n + 1, acc, k, h0, h1, h2, h3, h4 => by
    have a := h.n
    rw [cn, Int.add_zero]
    unfold F_M_legal_9
    rw [em_cards, zt_bdS]
    simp (disch := first | omega | (unfold zt_in; omega)) only [↓zt_ckI, ↓if_pos, ↓if_neg, if_true, if_false, zt_letS, zt_ckI, if_pos, if_neg, up_s, up_o, up_2, h0]
  | m + 1, n + 1, acc, k, h0, h1, h2, h3, h4 => by
    have a := h.n
    rw [cn]
    unfold F_M_legal_9 F_M_legal_31
    rw [em_cards, zt_bdS, zt_ckI (show _ ∧ _ from ⟨⟨by omega, by omega⟩, ⟨by omega, by omega⟩⟩), if_pos (show k < 4 * σ.1 164 0 by omega), em_isLegalNow h ⟨h2, by omega⟩, zt_bdS]
    cases wLg (σ.1 164) k
    · rw [if_neg (show ¬ false = true by decide), zt_ckI zt_in0, if_pos rfl, em_legal_9 h m n (acc + 0) (k + 1) (by omega) (by omega) (by omega) (by omega) (by omega), Int.add_zero, Int.zero_add]
    · rw [if_pos (show true = true from rfl), zt_ckI (show zt_in 1 by decide), if_neg (show ¬ (1 : Int) = 0 by decide), em_legal_9 h m n (acc + 1) (k + 1) (by omega) (by omega) (by omega) (by omega) (by omega), Int.add_assoc]
theorem ap_legal (h : CO σ) : AP F_C_legal F_M_legal σ := by
  have a := h.1.n
  have e : (zt_up σ 163 0 0).1 164 = σ.1 164 := up_f (by decide)
  have g : RI ((zt_up σ 163 0 0).1 164) := by rw [e]; exact h.1
  have l := cn_le (wLg (σ.1 164)) (4 * σ.1 164 0).toNat 0
  refine ⟨wLe (σ.1 164), ?_, ?_, by unfold wLe; exact ⟨by omega, by omega⟩⟩
  · obtain ⟨v, g1, g2⟩ := ec_allowedCards h.hu h.1 h.2.1
    unfold F_C_legal
    rw [g1, zt_bdS, be_bitCount]
    have e1 : cn (hb v) 0 64 = cn (hb v) 0 (4 * σ.1 164 0).toNat + cn (hb v) (0 + ((4 * σ.1 164 0).toNat : Int)) (64 - (4 * σ.1 164 0).toNat) := by
      rw [← cn_app]
      congr 1
      omega
    have z : cn (hb v) (0 + ((4 * σ.1 164 0).toNat : Int)) (64 - (4 * σ.1 164 0).toNat) = 0 := cn_none _ _ (fun c h0 h1 => by
      rw [g2 c (by omega) (by omega), decide_eq_false (by omega), Bool.false_and])
    have e2 : cn (hb v) 0 (4 * σ.1 164 0).toNat = wLe (σ.1 164) := cn_congr _ _ (fun c h0 h1 => by
      rw [g2 c (by omega) (by omega), decide_eq_true (by omega), Bool.true_and])
    rw [e1, z, e2, Int.add_zero]
  · unfold F_M_legal
    rw [zt_letS, em_legal_9 g (4 * σ.1 164 0).toNat zt_N 0 0 (by rw [e]; omega) (zN (by omega)) (by decide) (by decide) (by decide), e, Int.zero_add]
    rfl
theorem ap_winning (h : CO σ) : AP F_C_winning F_M_winning σ := by
  have a := h.1.n
  have b := h.1.wpl
  have e : (zt_up σ 163 0 0).1 164 = σ.1 164 := up_f (by decide)
  have g : RI ((zt_up σ 163 0 0).1 164) := by rw [e]; exact h.1
  have q : σ.1 7 6 = (if wPl (σ.1 164) = 0 then -1 else (σ.1 164 9 + wBp (σ.1 164)) % σ.1 164 1) := h.2.1.1.2.1.2.2
  unfold AP F_C_winning F_M_winning F_M_winning_35
  rw [q, zt_letS, eb_bestPlace g, e]
  by_cases h1 : wPl (σ.1 164) = 0
  · have b1 : wBp (σ.1 164) = -1 := by
      unfold wBp
      rw [h1]
      rfl
    rw [if_pos h1, b1]
    exact ⟨-1, rfl, rfl, by decide⟩
  · have b1 := wBp_lt h.1
    rw [if_neg h1]
    have m0 : 0 ≤ (σ.1 164 9 + wBp (σ.1 164)) % σ.1 164 1 := Int.emod_nonneg _ (by omega)
    have m1 : (σ.1 164 9 + wBp (σ.1 164)) % σ.1 164 1 < σ.1 164 1 := Int.emod_lt_of_pos _ (by omega)
    refine ⟨_, rfl, ?_, ⟨by omega, by omega⟩⟩
    simp (disch := first | omega | (unfold zt_in; omega)) only [↓zt_ckI, ↓if_pos, ↓if_neg, if_true, if_false, zt_letS, zt_ckI, if_pos, if_neg, up_s, up_o, up_2]
def wDk (w : Int → Int) : Int := if w 11 = 0 then 0 else if w 6 = 0 then -1 else (w 11 + w 6 - 1) / w 6
theorem ap_darkIn (h : CO σ) : AP F_C_darkIn F_M_darkIn σ := by
  have a := h.1.n
  have e : (zt_up σ 163 0 0).1 164 = σ.1 164 := up_f (by decide)
  have q : σ.1 7 8 = σ.1 164 11 := h.2.1.1.2.2.2
  have q2 : σ.1 6 12 = σ.1 164 6 := h.2.1.2.2.2.2.2.2.2.1
  unfold AP F_C_darkIn F_C_darkIn_40 F_M_darkIn F_M_darkIn_56
  rw [q, q2, zt_letS, e]
  by_cases h1 : σ.1 164 11 = 0
  · refine ⟨0, ?_, ?_, by decide⟩
    · simp (disch := first | omega | (unfold zt_in; omega)) only [↓zt_ckI, ↓if_pos, ↓if_neg, if_true, if_false, zt_letS, zt_ckI, if_pos, if_neg, up_s, up_o, up_2, h1]
    · simp (disch := first | omega | (unfold zt_in; omega)) only [↓zt_ckI, ↓if_pos, ↓if_neg, if_true, if_false, zt_letS, zt_ckI, if_pos, if_neg, up_s, up_o, up_2, h1]
  · by_cases h2 : σ.1 164 6 = 0
    · refine ⟨-1, ?_, ?_, by decide⟩
      · simp (disch := first | omega | (unfold zt_in; omega)) only [↓zt_ckI, ↓if_pos, ↓if_neg, if_true, if_false, zt_letS, zt_ckI, if_pos, if_neg, up_s, up_o, up_2, h2]
      · simp (disch := first | omega | (unfold zt_in; omega)) only [↓zt_ckI, ↓if_pos, ↓if_neg, if_true, if_false, zt_letS, zt_ckI, if_pos, if_neg, up_s, up_o, up_2, h2]
    · have m0 : 0 ≤ (σ.1 164 11 + σ.1 164 6 - 1) / σ.1 164 6 := Int.ediv_nonneg (by omega) (by omega)
      have m1 : (σ.1 164 11 + σ.1 164 6 - 1) / σ.1 164 6 ≤ σ.1 164 11 + σ.1 164 6 - 1 := Int.ediv_le_self _ (by omega)
      refine ⟨(σ.1 164 11 + σ.1 164 6 - 1) / σ.1 164 6, ?_, ?_, ⟨by omega, by omega⟩⟩
      · simp (disch := first | omega | (unfold zt_in; omega)) only [↓zt_ckI, ↓if_pos, ↓if_neg, if_true, if_false, zt_letS, zt_ckI, if_pos, if_neg, up_s, up_o, up_2]
      · simp (disch := first | omega | (unfold zt_in; omega)) only [↓zt_ckI, ↓if_pos, ↓if_neg, if_true, if_false, zt_letS, zt_ckI, if_pos, if_neg, up_s, up_o, up_2]
end QW
