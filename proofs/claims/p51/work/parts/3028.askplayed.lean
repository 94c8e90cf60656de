/-! CARDS played, hands played; how many cards are legal, which suit was led, who wins -/
section QV
variable {σ : zt_S}
theorem zl_2 : (2 : Int64) = zt_l 2 := by decide
theorem zl_5 : (5 : Int64) = zt_l 5 := by decide
def wPd (w : Int → Int) (k j : Int) : Int := if j = 0 then w (92 + k) else if j = 1 then w (144 + k) else k / w 1
theorem el_played {k j : Int} (h : CO σ) (hi : zt_in k) (hj : zt_in j) : F_L_played k j σ = if (0 ≤ k ∧ k < σ.1 164 12) ∧ (0 ≤ j ∧ j ≤ 2) then some (0, zt_uL σ 184 0 (zt_l (wPd (σ.1 164) k j))) else some (1, zt_nx σ) := by
  have a := h.1.n
  have b := h.1.p12
  have c := h.1.pl
  have e : σ.1 6 16 = σ.1 164 12 := h.2.1.2.2.2.2.2.2.2.2.2.2.2.1
  unfold F_L_played F_C_played F_C_played_15
  by_cases h1 : 0 ≤ k ∧ k < σ.1 164 12
  · have q := h.2.1.2.2.2.1 k h1.1 h1.2
    have q1 : σ.1 13 k = σ.1 164 (92 + k) := q.1
    have q2 : σ.1 14 k = σ.1 164 (144 + k) := q.2
    by_cases h2 : 0 ≤ j ∧ j ≤ 2
    · rw [if_pos (⟨h1, h2⟩ : (0 ≤ k ∧ k < σ.1 164 12) ∧ (0 ≤ j ∧ j ≤ 2))]
      rcases (show j = 0 ∨ j = 1 ∨ j = 2 by omega) with rfl | rfl | rfl
      · rw [show wPd (σ.1 164) k 0 = σ.1 164 (92 + k) from rfl]
        simp (disch := first | omega | (unfold zt_in; omega)) only [↓zt_ckI, ↓if_pos, ↓if_neg, if_true, if_false, zt_letS, zt_ckI, if_pos, if_neg, up_s, up_o, up_2, e, ↓be_at, q1, zt_bxS]
      · rw [show wPd (σ.1 164) k 1 = σ.1 164 (144 + k) from rfl]
        simp (disch := first | omega | (unfold zt_in; omega)) only [↓zt_ckI, ↓if_pos, ↓if_neg, if_true, if_false, zt_letS, zt_ckI, if_pos, if_neg, up_s, up_o, up_2, e, ↓be_at, q2, zt_bxS]
      · rw [show wPd (σ.1 164) k 2 = k / σ.1 164 1 from rfl]
        simp (disch := first | omega | (unfold zt_in; omega)) only [↓zt_ckI, ↓if_pos, ↓if_neg, if_true, if_false, zt_letS, zt_ckI, if_pos, if_neg, up_s, up_o, up_2, e, ↓be_trickOf (h.2.2.su h.1), zt_bxS]
        rw [h.2.2.2.1]
    · rw [if_neg (show ¬ ((0 ≤ k ∧ k < σ.1 164 12) ∧ (0 ≤ j ∧ j ≤ 2)) from fun z => h2 z.2)]
      simp (disch := first | omega | (unfold zt_in; omega)) only [↓zt_ckI, ↓if_pos, ↓if_neg, if_true, if_false, zt_letS, zt_ckI, if_pos, if_neg, up_s, up_o, up_2, e, zt_bxR]
  · rw [if_neg (show ¬ ((0 ≤ k ∧ k < σ.1 164 12) ∧ (0 ≤ j ∧ j ≤ 2)) from fun z => h1 z.1)]
    by_cases h2 : k < 0
    · simp (disch := first | omega | (unfold zt_in; omega)) only [↓zt_ckI, ↓if_pos, ↓if_neg, if_true, if_false, zt_letS, zt_ckI, if_pos, if_neg, up_s, up_o, up_2, h2, zt_bxR]
    · simp (disch := first | omega | (unfold zt_in; omega)) only [↓zt_ckI, ↓if_pos, ↓if_neg, if_true, if_false, zt_letS, zt_ckI, if_pos, if_neg, up_s, up_o, up_2, e, zt_bxR]
theorem em_played {τ : zt_S} {k j : Int} (h : RI (τ.1 164)) (hi : zt_in k) (hj : zt_in j) : F_M_played k j τ = if (0 ≤ k ∧ k < τ.1 164 12) ∧ (0 ≤ j ∧ j ≤ 2) then some (wPd (τ.1 164) k j, zt_up τ 163 0 0) else some (0, zt_up τ 163 0 1) := by
  have a := h.n
  have b := h.p12
  have c := h.pl
  have e : (zt_up τ 163 0 0).1 164 = τ.1 164 := up_f (by decide)
  have g : RI ((zt_up τ 163 0 0).1 164) := by rw [e]; exact h
  have z : (zt_up τ 163 0 0).1 163 0 = 0 := up_s _ _ _ _
  unfold F_M_played F_M_played_41 F_M_played_42 F_M_played_93
  rw [zt_letS, e]
  by_cases h1 : 0 ≤ k ∧ k < τ.1 164 12
  · rw [eb_in0 rfl hi ⟨by omega, by omega⟩ (show 0 ≤ k ∧ k ≤ τ.1 164 12 - 1 by omega), zt_ckI (show zt_in 1 by decide), if_neg (show ¬ (1 : Int) = 0 by decide)]
    by_cases h3 : 0 ≤ j ∧ j ≤ 2
    · rw [if_pos (⟨h1, h3⟩ : (0 ≤ k ∧ k < τ.1 164 12) ∧ (0 ≤ j ∧ j ≤ 2)), eb_in0 zl_2 hj (by decide) h3, zt_ckI (show zt_in 1 by decide), if_neg (show ¬ (1 : Int) = 0 by decide), eb_fails1 z, zt_ckI zt_in0, if_pos rfl, e]
      rcases (show j = 0 ∨ j = 1 ∨ j = 2 by omega) with rfl | rfl | rfl
      · rw [show wPd (τ.1 164) k 0 = τ.1 164 (92 + k) from rfl]
        simp (disch := first | omega | (unfold zt_in; omega)) only [↓zt_ckI, ↓if_pos, ↓if_neg, if_true, if_false, zt_letS, zt_ckI, if_pos, if_neg, up_s, up_o, up_2]
      · rw [show wPd (τ.1 164) k 1 = τ.1 164 (144 + k) from rfl]
        simp (disch := first | omega | (unfold zt_in; omega)) only [↓zt_ckI, ↓if_pos, ↓if_neg, if_true, if_false, zt_letS, zt_ckI, if_pos, if_neg, up_s, up_o, up_2]
      · rw [show wPd (τ.1 164) k 2 = k / τ.1 164 1 from rfl]
        simp (disch := first | omega | (unfold zt_in; omega)) only [↓zt_ckI, ↓if_pos, ↓if_neg, if_true, if_false, zt_letS, zt_ckI, if_pos, if_neg, up_s, up_o, up_2]
    · rw [if_neg (show ¬ ((0 ≤ k ∧ k < τ.1 164 12) ∧ (0 ≤ j ∧ j ≤ 2)) from fun z => h3 z.2), eb_out0 zl_2 hj (by decide) h3, zt_ckI zt_in0, if_pos rfl, eb_fails0 (Or.inl rfl) z, zt_ckI (show zt_in 1 by decide), if_neg (by decide), up_up]
  · rw [if_neg (show ¬ ((0 ≤ k ∧ k < τ.1 164 12) ∧ (0 ≤ j ∧ j ≤ 2)) from fun z => h1 z.1), eb_out0 rfl hi ⟨by omega, by omega⟩ (show ¬ (0 ≤ k ∧ k ≤ τ.1 164 12 - 1) by omega), zt_ckI zt_in0, if_pos rfl, eb_fails0 (Or.inl rfl) z, zt_ckI (show zt_in 1 by decide), if_neg (by decide), up_up]
theorem ak_played {k j : Int} (h : CO σ) (hi : zt_in k) (hj : zt_in j) : AK (F_L_played k j) (F_M_played k j) σ :=
  ak_if (el_played h hi hj) (fun τ e => ⟨0, by rw [em_played (by rw [e]; exact h.1) hi hj, e]⟩)
theorem el_trick {k j : Int} (h : CO σ) (hi : zt_in k) (hj : zt_in j) : F_L_trick k j σ = if (0 ≤ k ∧ k < σ.1 164 13) ∧ (0 ≤ j ∧ j ≤ 5) then some (0, zt_uL σ 184 0 (zt_l (σ.1 164 (196 + 6 * k + j)))) else some (1, zt_nx σ) := by
  have a := h.1.n
  have b := h.1.p13
  have c := h.1.pl
  have e : σ.1 6 17 = σ.1 164 13 := h.2.1.2.2.2.2.2.2.2.2.2.2.2.2.1
  unfold F_L_trick F_C_trick F_C_trick_25
  by_cases h1 : 0 ≤ k ∧ k < σ.1 164 13
  · by_cases h2 : 0 ≤ j ∧ j ≤ 5
    · have q : σ.1 15 (k * 6 + j) = σ.1 164 (196 + 6 * k + j) := by
        have := h.2.1.2.2.2.2.1 (6 * k + j) (by omega) (by omega)
        rw [show k * 6 + j = 6 * k + j by omega, show 196 + 6 * k + j = 196 + (6 * k + j) by omega]
        exact this
      rw [if_pos (⟨h1, h2⟩ : (0 ≤ k ∧ k < σ.1 164 13) ∧ (0 ≤ j ∧ j ≤ 5))]
      simp (disch := first | omega | (unfold zt_in; omega)) only [↓zt_ckI, ↓if_pos, ↓if_neg, if_true, if_false, zt_letS, zt_ckI, if_pos, if_neg, up_s, up_o, up_2, e, ↓be_at, q, zt_bxS]
    · rw [if_neg (show ¬ ((0 ≤ k ∧ k < σ.1 164 13) ∧ (0 ≤ j ∧ j ≤ 5)) from fun z => h2 z.2)]
      by_cases h3 : j < 0
      · simp (disch := first | omega | (unfold zt_in; omega)) only [↓zt_ckI, ↓if_pos, ↓if_neg, if_true, if_false, zt_letS, zt_ckI, if_pos, if_neg, up_s, up_o, up_2, e, h3, zt_bxR]
      · simp (disch := first | omega | (unfold zt_in; omega)) only [↓zt_ckI, ↓if_pos, ↓if_neg, if_true, if_false, zt_letS, zt_ckI, if_pos, if_neg, up_s, up_o, up_2, e, zt_bxR]
  · rw [if_neg (show ¬ ((0 ≤ k ∧ k < σ.1 164 13) ∧ (0 ≤ j ∧ j ≤ 5)) from fun z => h1 z.1)]
    by_cases h2 : k < 0
    · simp (disch := first | omega | (unfold zt_in; omega)) only [↓zt_ckI, ↓if_pos, ↓if_neg, if_true, if_false, zt_letS, zt_ckI, if_pos, if_neg, up_s, up_o, up_2, h2, zt_bxR]
    · simp (disch := first | omega | (unfold zt_in; omega)) only [↓zt_ckI, ↓if_pos, ↓if_neg, if_true, if_false, zt_letS, zt_ckI, if_pos, if_neg, up_s, up_o, up_2, e, zt_bxR]
theorem em_trick {τ : zt_S} {k j : Int} (h : RI (τ.1 164)) (hi : zt_in k) (hj : zt_in j) : F_M_trick k j τ = if (0 ≤ k ∧ k < τ.1 164 13) ∧ (0 ≤ j ∧ j ≤ 5) then some (τ.1 164 (196 + 6 * k + j), zt_up τ 163 0 0) else some (0, zt_up τ 163 0 1) := by
  have a := h.n
  have b := h.p13
  have c := h.pl
  have e : (zt_up τ 163 0 0).1 164 = τ.1 164 := up_f (by decide)
  have g : RI ((zt_up τ 163 0 0).1 164) := by rw [e]; exact h
  have z : (zt_up τ 163 0 0).1 163 0 = 0 := up_s _ _ _ _
  unfold F_M_trick F_M_trick_41 F_M_trick_42 F_M_trick_64
  rw [zt_letS, e]
  by_cases h1 : 0 ≤ k ∧ k < τ.1 164 13
  · rw [eb_in0 rfl hi ⟨by omega, by omega⟩ (show 0 ≤ k ∧ k ≤ τ.1 164 13 - 1 by omega), zt_ckI (show zt_in 1 by decide), if_neg (show ¬ (1 : Int) = 0 by decide)]
    by_cases h3 : 0 ≤ j ∧ j ≤ 5
    · rw [if_pos (⟨h1, h3⟩ : (0 ≤ k ∧ k < τ.1 164 13) ∧ (0 ≤ j ∧ j ≤ 5)), eb_in0 zl_5 hj (by decide) h3, zt_ckI (show zt_in 1 by decide), if_neg (show ¬ (1 : Int) = 0 by decide), eb_fails1 z, zt_ckI zt_in0, if_pos rfl, eb_trickCell, zt_ckI (show _ ∧ _ by omega), e]
    · rw [if_neg (show ¬ ((0 ≤ k ∧ k < τ.1 164 13) ∧ (0 ≤ j ∧ j ≤ 5)) from fun z => h3 z.2), eb_out0 zl_5 hj (by decide) h3, zt_ckI zt_in0, if_pos rfl, eb_fails0 (Or.inl rfl) z, zt_ckI (show zt_in 1 by decide), if_neg (by decide), up_up]
  · rw [if_neg (show ¬ ((0 ≤ k ∧ k < τ.1 164 13) ∧ (0 ≤ j ∧ j ≤ 5)) from fun z => h1 z.1), eb_out0 rfl hi ⟨by omega, by omega⟩ (show ¬ (0 ≤ k ∧ k ≤ τ.1 164 13 - 1) by omega), zt_ckI zt_in0, if_pos rfl, eb_fails0 (Or.inl rfl) z, zt_ckI (show zt_in 1 by decide), if_neg (by decide), up_up]
theorem ak_trick {k j : Int} (h : CO σ) (hi : zt_in k) (hj : zt_in j) : AK (F_L_trick k j) (F_M_trick k j) σ :=
  ak_if (el_trick h hi hj) (fun τ e => ⟨0, by rw [em_trick (by rw [e]; exact h.1) hi hj, e]⟩)
end QV
