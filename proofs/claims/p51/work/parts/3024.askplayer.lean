/-! QUESTIONS about a player -/
section QP
variable {σ : zt_S}
theorem hand_count {w : Int → Int} {v : Int64} {p : Int} (hw : RI w) (hp : 0 ≤ p) (h : ∀ c, 0 ≤ c → c < 64 → hb v c = decide (c < 4 * w 0 ∧ wHd w c = p)) : cn (hb v) 0 64 = wHc w p := by
  have a := hw.n
  have b := hw.2.2.2.2.2.2.1
  have e : cn (hb v) 0 64 = cn (hb v) 0 52 + cn (hb v) (0 + (52 : Nat)) 12 := cn_app (hb v) 12 52 0
  have z : cn (hb v) (0 + (52 : Nat)) 12 = 0 := cn_none 12 _ (fun c h0 h1 => by
    rw [h c (by omega) (by omega)]
    exact decide_eq_false (by omega))
  rw [e, z, Int.add_zero]
  unfold wHc
  refine cn_congr 52 0 (fun c h0 h1 => ?_)
  rw [h c (by omega) (by omega)]
  have b1 := b c (by omega) (by omega)
  unfold wHd
  by_cases h2 : c < 4 * w 0
  · rw [decide_eq_decide]; exact ⟨fun x => x.2, fun x => ⟨h2, x⟩⟩
  · have b2 := b1.2.2 (by omega)
    rw [decide_eq_false (by omega), decide_eq_false (by omega)]
theorem el_held {p : Int} (h : CO σ) (hi : zt_in p) : F_L_held p σ = if 0 ≤ p ∧ p < σ.1 164 1 then some (0, zt_uL σ 184 0 (zt_l (wHc (σ.1 164) p))) else some (1, zt_nx σ) := by
  have a := h.1.n
  unfold F_L_held F_C_held
  rw [ec_needPlayer h hi]
  by_cases h1 : 0 ≤ p ∧ p < σ.1 164 1
  · rw [if_pos h1, if_pos h1, zt_bxS, be_handOf ⟨h1.1, by omega⟩, be_bitCount, hand_count h.1 h1.1 (fun c h0 h3 => h.2.1.2.1 p c h1.1 (by omega) h0 h3)]
    rfl
  · rw [if_neg h1, if_neg h1]
    rfl
theorem em_held {τ : zt_S} {p : Int} (h : RI (τ.1 164)) (hi : zt_in p) : F_M_held p τ = if 0 ≤ p ∧ p < τ.1 164 1 then some (wHc (τ.1 164) p, zt_up τ 163 0 0) else some (0, zt_up τ 163 0 1) := by
  have a := h.n
  have e : (zt_up τ 163 0 0).1 164 = τ.1 164 := up_f (by decide)
  have g : RI ((zt_up τ 163 0 0).1 164) := by rw [e]; exact h
  have z : (zt_up τ 163 0 0).1 163 0 = 0 := up_s _ _ _ _
  unfold F_M_held F_M_held_31
  by_cases h1 : 0 ≤ p ∧ p < τ.1 164 1
  · have h2 : 0 ≤ p ∧ p < (zt_up τ 163 0 0).1 164 1 := by rw [e]; exact h1
    rw [if_pos h1, zt_letS, eb_player g h2, eb_fails1 z, zt_ckI zt_in0, if_pos rfl, eb_heldBy (c1 := 164) ⟨by omega, by omega⟩ (fun c h0 h3 => by have := g.2.2.2.2.2.2.1 c h0 h3; have := g.n; omega), e]
  · have h2 : ¬ (0 ≤ p ∧ p < (zt_up τ 163 0 0).1 164 1) := by rw [e]; exact h1
    rw [if_neg h1, zt_letS, eb_noplayer g hi h2, eb_fails0 (Or.inl rfl) z, zt_ckI (show zt_in 1 by decide), if_neg (by decide), up_up]
theorem ak_held {p : Int} (h : CO σ) (hi : zt_in p) : AK (F_L_held p) (F_M_held p) σ :=
  ak_if (el_held h hi) (fun τ e => ⟨0, by rw [em_held (by rw [e]; exact h.1) hi, e]⟩)
theorem el_tricks {p : Int} (h : CO σ) (hi : zt_in p) : F_L_tricks p σ = if 0 ≤ p ∧ p < σ.1 164 1 then some (0, zt_uL σ 184 0 (zt_l (wTk (σ.1 164) p))) else some (1, zt_nx σ) := by
  have a := h.1.n
  unfold F_L_tricks F_C_tricks
  rw [ec_needPlayer h hi]
  by_cases h1 : 0 ≤ p ∧ p < σ.1 164 1
  · rw [if_pos h1, if_pos h1, zt_bxS, e_at ⟨h1.1, by omega⟩ (by decide), zt_bdS, show σ.1 10 p = wTk (σ.1 164) p from (h.2.1.2.2.1 p h1.1 (by omega)).2.1]
    rfl
  · rw [if_neg h1, if_neg h1]
    rfl
theorem em_tricks {τ : zt_S} {p : Int} (h : RI (τ.1 164)) (hi : zt_in p) : F_M_tricks p τ = if 0 ≤ p ∧ p < τ.1 164 1 then some (wTk (τ.1 164) p, zt_up τ 163 0 0) else some (0, zt_up τ 163 0 1) := by
  have a := h.n
  have e : (zt_up τ 163 0 0).1 164 = τ.1 164 := up_f (by decide)
  have g : RI ((zt_up τ 163 0 0).1 164) := by rw [e]; exact h
  have z : (zt_up τ 163 0 0).1 163 0 = 0 := up_s _ _ _ _
  unfold F_M_tricks F_M_tricks_27
  by_cases h1 : 0 ≤ p ∧ p < τ.1 164 1
  · have h2 : 0 ≤ p ∧ p < (zt_up τ 163 0 0).1 164 1 := by rw [e]; exact h1
    rw [if_pos h1, zt_letS, eb_player g h2, eb_fails1 z, zt_ckI zt_in0, if_pos rfl, eb_tricksOf g ⟨by omega, by omega⟩, e]
  · have h2 : ¬ (0 ≤ p ∧ p < (zt_up τ 163 0 0).1 164 1) := by rw [e]; exact h1
    rw [if_neg h1, zt_letS, eb_noplayer g hi h2, eb_fails0 (Or.inl rfl) z, zt_ckI (show zt_in 1 by decide), if_neg (by decide), up_up]
theorem ak_tricks {p : Int} (h : CO σ) (hi : zt_in p) : AK (F_L_tricks p) (F_M_tricks p) σ :=
  ak_if (el_tricks h hi) (fun τ e => ⟨0, by rw [em_tricks (by rw [e]; exact h.1) hi, e]⟩)
theorem el_result {p : Int} (h : CO σ) (hi : zt_in p) : F_L_result p σ = if 0 ≤ p ∧ p < σ.1 164 1 then some (0, zt_uL σ 184 0 (zt_l (wRs (σ.1 164) p))) else some (1, zt_nx σ) := by
  have a := h.1.n
  unfold F_L_result F_C_result
  rw [ec_needPlayer h hi]
  by_cases h1 : 0 ≤ p ∧ p < σ.1 164 1
  · rw [if_pos h1, if_pos h1, zt_bxS, ed_resultOf h.1 h.2.1 ⟨h1.1, by omega⟩]
    rfl
  · rw [if_neg h1, if_neg h1]
    rfl
theorem em_result {τ : zt_S} {p : Int} (h : RI (τ.1 164)) (hi : zt_in p) : F_M_result p τ = if 0 ≤ p ∧ p < τ.1 164 1 then some (wRs (τ.1 164) p, zt_up τ 163 0 0) else some (0, zt_up τ 163 0 1) := by
  have a := h.n
  have e : (zt_up τ 163 0 0).1 164 = τ.1 164 := up_f (by decide)
  have g : RI ((zt_up τ 163 0 0).1 164) := by rw [e]; exact h
  have z : (zt_up τ 163 0 0).1 163 0 = 0 := up_s _ _ _ _
  unfold F_M_result F_M_result_27
  by_cases h1 : 0 ≤ p ∧ p < τ.1 164 1
  · have h2 : 0 ≤ p ∧ p < (zt_up τ 163 0 0).1 164 1 := by rw [e]; exact h1
    rw [if_pos h1, zt_letS, eb_player g h2, eb_fails1 z, zt_ckI zt_in0, if_pos rfl, eb_resultOf g ⟨by omega, by omega⟩, e]
  · have h2 : ¬ (0 ≤ p ∧ p < (zt_up τ 163 0 0).1 164 1) := by rw [e]; exact h1
    rw [if_neg h1, zt_letS, eb_noplayer g hi h2, eb_fails0 (Or.inl rfl) z, zt_ckI (show zt_in 1 by decide), if_neg (by decide), up_up]
theorem ak_result {p : Int} (h : CO σ) (hi : zt_in p) : AK (F_L_result p) (F_M_result p) σ :=
  ak_if (el_result h hi) (fun τ e => ⟨0, by rw [em_result (by rw [e]; exact h.1) hi, e]⟩)
theorem el_told {p : Int} (h : CO σ) (hi : zt_in p) : F_L_told p σ = if 0 ≤ p ∧ p < σ.1 164 1 then some (0, zt_uL σ 184 0 (zt_l ((σ.1 164) (16 + p)))) else some (1, zt_nx σ) := by
  have a := h.1.n
  unfold F_L_told F_C_told
  rw [ec_needPlayer h hi]
  by_cases h1 : 0 ≤ p ∧ p < σ.1 164 1
  · rw [if_pos h1, if_pos h1, zt_bxS, e_at ⟨h1.1, by omega⟩ (by decide), zt_bdS, show σ.1 9 p = (σ.1 164) (16 + p) from (h.2.1.2.2.1 p h1.1 (by omega)).1]
    rfl
  · rw [if_neg h1, if_neg h1]
    rfl
theorem em_told {τ : zt_S} {p : Int} (h : RI (τ.1 164)) (hi : zt_in p) : F_M_told p τ = if 0 ≤ p ∧ p < τ.1 164 1 then some ((τ.1 164) (16 + p), zt_up τ 163 0 0) else some (0, zt_up τ 163 0 1) := by
  have a := h.n
  have e : (zt_up τ 163 0 0).1 164 = τ.1 164 := up_f (by decide)
  have g : RI ((zt_up τ 163 0 0).1 164) := by rw [e]; exact h
  have z : (zt_up τ 163 0 0).1 163 0 = 0 := up_s _ _ _ _
  unfold F_M_told F_M_told_31
  by_cases h1 : 0 ≤ p ∧ p < τ.1 164 1
  · have h2 : 0 ≤ p ∧ p < (zt_up τ 163 0 0).1 164 1 := by rw [e]; exact h1
    rw [if_pos h1, zt_letS, eb_player g h2, eb_fails1 z, zt_ckI zt_in0, if_pos rfl, zt_ckI (show _ ∧ _ by omega), e]
  · have h2 : ¬ (0 ≤ p ∧ p < (zt_up τ 163 0 0).1 164 1) := by rw [e]; exact h1
    rw [if_neg h1, zt_letS, eb_noplayer g hi h2, eb_fails0 (Or.inl rfl) z, zt_ckI (show zt_in 1 by decide), if_neg (by decide), up_up]
theorem ak_told {p : Int} (h : CO σ) (hi : zt_in p) : AK (F_L_told p) (F_M_told p) σ :=
  ak_if (el_told h hi) (fun τ e => ⟨0, by rw [em_told (by rw [e]; exact h.1) hi, e]⟩)
theorem el_points {p : Int} (h : CO σ) (hi : zt_in p) : F_L_points p σ = if 0 ≤ p ∧ p < σ.1 164 1 then some (0, zt_uL σ 184 0 (zt_l ((σ.1 164) (20 + p)))) else some (1, zt_nx σ) := by
  have a := h.1.n
  unfold F_L_points F_C_points
  rw [ec_needPlayer h hi]
  by_cases h1 : 0 ≤ p ∧ p < σ.1 164 1
  · rw [if_pos h1, if_pos h1, zt_bxS, e_at ⟨h1.1, by omega⟩ (by decide), zt_bdS, show σ.1 12 p = (σ.1 164) (20 + p) from (h.2.1.2.2.1 p h1.1 (by omega)).2.2.2]
    rfl
  · rw [if_neg h1, if_neg h1]
    rfl
theorem em_points {τ : zt_S} {p : Int} (h : RI (τ.1 164)) (hi : zt_in p) : F_M_points p τ = if 0 ≤ p ∧ p < τ.1 164 1 then some ((τ.1 164) (20 + p), zt_up τ 163 0 0) else some (0, zt_up τ 163 0 1) := by
  have a := h.n
  have e : (zt_up τ 163 0 0).1 164 = τ.1 164 := up_f (by decide)
  have g : RI ((zt_up τ 163 0 0).1 164) := by rw [e]; exact h
  have z : (zt_up τ 163 0 0).1 163 0 = 0 := up_s _ _ _ _
  unfold F_M_points F_M_points_31
  by_cases h1 : 0 ≤ p ∧ p < τ.1 164 1
  · have h2 : 0 ≤ p ∧ p < (zt_up τ 163 0 0).1 164 1 := by rw [e]; exact h1
    rw [if_pos h1, zt_letS, eb_player g h2, eb_fails1 z, zt_ckI zt_in0, if_pos rfl, zt_ckI (show _ ∧ _ by omega), e]
  · have h2 : ¬ (0 ≤ p ∧ p < (zt_up τ 163 0 0).1 164 1) := by rw [e]; exact h1
    rw [if_neg h1, zt_letS, eb_noplayer g hi h2, eb_fails0 (Or.inl rfl) z, zt_ckI (show zt_in 1 by decide), if_neg (by decide), up_up]
theorem ak_points {p : Int} (h : CO σ) (hi : zt_in p) : AK (F_L_points p) (F_M_points p) σ :=
  ak_if (el_points h hi) (fun τ e => ⟨0, by rw [em_points (by rw [e]; exact h.1) hi, e]⟩)
end QP
