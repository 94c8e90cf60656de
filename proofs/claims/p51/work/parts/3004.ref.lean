/-! THE REFERENCE'S METHODS over its row: what may be played -/
section EM
variable {σ : zt_S}
theorem wSc_lt {w : Int → Int} (h : RI w) {p s : Int} : 0 ≤ wSc w p s ∧ wSc w p s ≤ 13 := by
  have a := h.n
  have := cn_le (fun c => decide (wHd w c = p)) (w 0).toNat (s * w 0)
  unfold wSc
  omega
theorem em_mayPlay {p c : Int} (h : RI (σ.1 164)) (hp : 0 ≤ p ∧ p < 4) (hc : 0 ≤ c ∧ c < 4 * σ.1 164 0) : F_M_mayPlay p c σ = some (if wMp (σ.1 164) p c = true then 1 else 0, σ) := by
  have a := h.n
  have b := h.wpl
  have d := wS_lt h hc.1 hc.2
  have e := wLd_lt h
  have f := wSc_lt h (p := p) (s := wLd (σ.1 164))
  have g := wSc_lt h (p := p) (s := σ.1 164 10)
  unfold F_M_mayPlay wMp
  by_cases h3 : σ.1 164 3 = 0
  · simp (disch := first | omega | (unfold zt_in; omega)) only [↓zt_ckI, ↓if_pos, ↓if_neg, if_true, if_false, F_M_mayPlay_16, h3, true_or]
  · by_cases h1 : wPl (σ.1 164) = 0
    · simp (disch := first | omega | (unfold zt_in; omega)) only [↓zt_ckI, ↓if_pos, ↓if_neg, if_true, if_false, ↓eb_inTrick, F_M_mayPlay_16, h1, or_true]
    · have e1 := e.2.2 (by omega)
      simp (disch := first | omega | (unfold zt_in; omega)) only [↓zt_ckI, ↓if_pos, ↓if_neg, if_true, if_false, ↓eb_inTrick, ↓eb_ledSuit h, ↓eb_suitOfPlayer h]
      by_cases h4 : 0 < wSc (σ.1 164) p (wLd (σ.1 164))
      · by_cases h5 : wS (σ.1 164) c = wLd (σ.1 164)
        · by_cases h6 : σ.1 164 3 = 2
          · by_cases h7 : wBt (σ.1 164) c = true
            · simp (disch := first | omega | (unfold zt_in; omega)) only [↓zt_ckI, ↓if_pos, ↓if_neg, if_true, if_false, ↓eb_suitOf h, ↓eb_isBetter_t h hc h7, F_M_mayPlay_68, F_M_mayPlay_73]
              simp [h5, h7]
            · by_cases h8 : wHB (σ.1 164) p (wLd (σ.1 164)) = true
              · simp (disch := first | omega | (unfold zt_in; omega)) only [↓zt_ckI, ↓if_pos, ↓if_neg, if_true, if_false, ↓eb_suitOf h, ↓eb_isBetter_f h hc h7, ↓eb_hasBetter_t h ⟨e1, e.2.1⟩ ⟨by omega, by omega⟩ h8, F_M_mayPlay_72, F_M_mayPlay_73]
                simp [h5, h6, h7, h8]
              · simp (disch := first | omega | (unfold zt_in; omega)) only [↓zt_ckI, ↓if_pos, ↓if_neg, if_true, if_false, ↓eb_suitOf h, ↓eb_isBetter_f h hc h7, ↓eb_hasBetter_f h ⟨e1, e.2.1⟩ ⟨by omega, by omega⟩ h8, F_M_mayPlay_68, F_M_mayPlay_73]
                simp [h5, h6, h7, h8]
          · simp (disch := first | omega | (unfold zt_in; omega)) only [↓zt_ckI, ↓if_pos, ↓if_neg, if_true, if_false, ↓eb_suitOf h, F_M_mayPlay_68, F_M_mayPlay_73]
            simp [h5, h6]
        · simp (disch := first | omega | (unfold zt_in; omega)) only [↓zt_ckI, ↓if_pos, ↓if_neg, if_true, if_false, ↓eb_suitOf h, F_M_mayPlay_72, F_M_mayPlay_73]
          simp [h5]
      · by_cases h5 : σ.1 164 3 = 3
        · by_cases h6 : σ.1 164 10 = -1
          · simp (disch := first | omega | (unfold zt_in; omega)) only [↓zt_ckI, ↓if_pos, ↓if_neg, if_true, if_false, ↓eb_suitOf h, F_M_mayPlay_114, F_M_mayPlay_115, F_M_mayPlay_137, F_M_mayPlay_142]
            simp [h6]
          · by_cases h7 : 0 < wSc (σ.1 164) p (σ.1 164 10)
            · by_cases h8 : wS (σ.1 164) c = σ.1 164 10
              · simp (disch := first | omega | (unfold zt_in; omega)) only [↓zt_ckI, ↓if_pos, ↓if_neg, if_true, if_false, ↓eb_suitOf h, ↓eb_suitOfPlayer h, F_M_mayPlay_115, F_M_mayPlay_137, F_M_mayPlay_142]
                simp [h8]
              · simp (disch := first | omega | (unfold zt_in; omega)) only [↓zt_ckI, ↓if_pos, ↓if_neg, if_true, if_false, ↓eb_suitOf h, ↓eb_suitOfPlayer h, F_M_mayPlay_115, F_M_mayPlay_137, F_M_mayPlay_142]
                simp [h5, h6, h7, h8]
            · simp (disch := first | omega | (unfold zt_in; omega)) only [↓zt_ckI, ↓if_pos, ↓if_neg, if_true, if_false, ↓eb_suitOf h, ↓eb_suitOfPlayer h, F_M_mayPlay_114, F_M_mayPlay_115, F_M_mayPlay_137, F_M_mayPlay_142]
              simp [h7]
        · simp (disch := first | omega | (unfold zt_in; omega)) only [↓zt_ckI, ↓if_pos, ↓if_neg, if_true, if_false, F_M_mayPlay_114, F_M_mayPlay_115, F_M_mayPlay_137, F_M_mayPlay_142]
          simp [h5]
theorem em_isLegalNow {c : Int} (h : RI (σ.1 164)) (hc : 0 ≤ c ∧ c < 4 * σ.1 164 0) : F_M_isLegalNow c σ = some (if wLg (σ.1 164) c = true then 1 else 0, σ) := by
  have a := h.n
  have b := wTn_lt h
  have d := h.hd hc.1 (by omega)
  unfold F_M_isLegalNow F_M_isLegalNow_32 F_M_isLegalNow_33 wLg
  by_cases h1 : wTn (σ.1 164) = -1
  · simp (disch := omega) [zt_ck, h1, em_turn h, zt_bdS]
  · by_cases h2 : wHd (σ.1 164) c = wTn (σ.1 164)
    · by_cases h3 : wMp (σ.1 164) (wTn (σ.1 164)) c = true
      · simp (disch := omega) only [if_true, if_false, true_or, or_true, zt_ck, zt_in, zt_bdS, if_pos, em_turn h, em_holderOf, em_mayPlay h, h1, h2, h3, decide_true, decide_false, Bool.true_and, not_false_eq_true]
        simp
      · simp (disch := omega) only [if_true, if_false, true_or, or_true, zt_ck, zt_in, zt_bdS, if_pos, em_turn h, em_holderOf, em_mayPlay h, h1, h2, h3, decide_true, decide_false, Bool.true_and, not_false_eq_true]
        simp
    · simp (disch := omega) only [if_true, if_false, true_or, or_true, zt_ck, zt_in, zt_bdS, if_pos, em_turn h, em_holderOf, h1, h2, decide_true, decide_false, Bool.true_and, Bool.false_and, Bool.and_false, not_false_eq_true, Bool.false_eq_true]
end EM
