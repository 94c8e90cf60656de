/-! QUESTIONS about a card -/
section QC
variable {σ : zt_S}
theorem CO.hu (h : CO σ) : SUw σ (zt_su 6) (σ.1 164) := h.2.2
theorem ak_if {fl fm : zt_S → Option (Int × zt_S)} {P : Prop} [Decidable P] {v : Int} (h1 : fl σ = if P then some (0, zt_uL σ 184 0 (zt_l v)) else some (1, zt_nx σ)) (h2 : ∀ τ : zt_S, τ.1 = σ.1 → ∃ u, fm τ = if P then some (v, zt_up τ 163 0 0) else some (u, zt_up τ 163 0 1)) : AK fl fm σ := by
  by_cases hP : P
  · rw [if_pos hP] at h1
    obtain ⟨u, g⟩ := h2 (zt_uL σ 184 0 (zt_l v)) rfl
    rw [if_pos hP] at g
    exact ak_ok h1 g
  · rw [if_neg hP] at h1
    obtain ⟨u, g⟩ := h2 (zt_nx σ) rfl
    rw [if_neg hP] at g
    exact ak_no h1 g
theorem el_suit {c : Int} (h : CO σ) (hi : zt_in c) : F_L_suit c σ = if 0 ≤ c ∧ c < 4 * σ.1 164 0 then some (0, zt_uL σ 184 0 (zt_l (wS (σ.1 164) c))) else some (1, zt_nx σ) := by
  have a := h.1.n
  unfold F_L_suit F_C_suit
  rw [ec_needCard h hi]
  by_cases h1 : 0 ≤ c ∧ c < 4 * σ.1 164 0
  · rw [if_pos h1, if_pos h1, zt_bxS, ed_suitOf h.2.2 h.1 ⟨h1.1, by omega⟩]
    rfl
  · rw [if_neg h1, if_neg h1]
    rfl
theorem em_suit {τ : zt_S} {c : Int} (h : RI (τ.1 164)) (hi : zt_in c) : F_M_suit c τ = if 0 ≤ c ∧ c < 4 * τ.1 164 0 then some (wS (τ.1 164) c, zt_up τ 163 0 0) else some (0, zt_up τ 163 0 1) := by
  have a := h.n
  have e : (zt_up τ 163 0 0).1 164 = τ.1 164 := up_f (by decide)
  have g : RI ((zt_up τ 163 0 0).1 164) := by rw [e]; exact h
  have z : (zt_up τ 163 0 0).1 163 0 = 0 := up_s _ _ _ _
  unfold F_M_suit F_M_suit_27
  by_cases h1 : 0 ≤ c ∧ c < 4 * τ.1 164 0
  · have h2 : 0 ≤ c ∧ c < 4 * (zt_up τ 163 0 0).1 164 0 := by rw [e]; exact h1
    rw [if_pos h1, zt_letS, eb_card g h2, eb_fails1 z, zt_ckI zt_in0, if_pos rfl, eb_suitOf g ⟨h1.1, by omega⟩, e]
  · have h2 : ¬ (0 ≤ c ∧ c < 4 * (zt_up τ 163 0 0).1 164 0) := by rw [e]; exact h1
    rw [if_neg h1, zt_letS, eb_nocard g hi h2, eb_fails0 (Or.inl rfl) z, zt_ckI (show zt_in 1 by decide), if_neg (by decide), up_up]
theorem ak_suit {c : Int} (h : CO σ) (hi : zt_in c) : AK (F_L_suit c) (F_M_suit c) σ :=
  ak_if (el_suit h hi) (fun τ e => ⟨0, by rw [em_suit (by rw [e]; exact h.1) hi, e]⟩)
theorem el_rank {c : Int} (h : CO σ) (hi : zt_in c) : F_L_rank c σ = if 0 ≤ c ∧ c < 4 * σ.1 164 0 then some (0, zt_uL σ 184 0 (zt_l (wR (σ.1 164) c))) else some (1, zt_nx σ) := by
  have a := h.1.n
  unfold F_L_rank F_C_rank
  rw [ec_needCard h hi]
  by_cases h1 : 0 ≤ c ∧ c < 4 * σ.1 164 0
  · rw [if_pos h1, if_pos h1, zt_bxS, ed_rankOf h.2.2 h.1 ⟨h1.1, by omega⟩]
    rfl
  · rw [if_neg h1, if_neg h1]
    rfl
theorem em_rank {τ : zt_S} {c : Int} (h : RI (τ.1 164)) (hi : zt_in c) : F_M_rank c τ = if 0 ≤ c ∧ c < 4 * τ.1 164 0 then some (wR (τ.1 164) c, zt_up τ 163 0 0) else some (0, zt_up τ 163 0 1) := by
  have a := h.n
  have e : (zt_up τ 163 0 0).1 164 = τ.1 164 := up_f (by decide)
  have g : RI ((zt_up τ 163 0 0).1 164) := by rw [e]; exact h
  have z : (zt_up τ 163 0 0).1 163 0 = 0 := up_s _ _ _ _
  unfold F_M_rank F_M_rank_27
  by_cases h1 : 0 ≤ c ∧ c < 4 * τ.1 164 0
  · have h2 : 0 ≤ c ∧ c < 4 * (zt_up τ 163 0 0).1 164 0 := by rw [e]; exact h1
    rw [if_pos h1, zt_letS, eb_card g h2, eb_fails1 z, zt_ckI zt_in0, if_pos rfl, eb_rankOf g ⟨h1.1, by omega⟩, e]
  · have h2 : ¬ (0 ≤ c ∧ c < 4 * (zt_up τ 163 0 0).1 164 0) := by rw [e]; exact h1
    rw [if_neg h1, zt_letS, eb_nocard g hi h2, eb_fails0 (Or.inl rfl) z, zt_ckI (show zt_in 1 by decide), if_neg (by decide), up_up]
theorem ak_rank {c : Int} (h : CO σ) (hi : zt_in c) : AK (F_L_rank c) (F_M_rank c) σ :=
  ak_if (el_rank h hi) (fun τ e => ⟨0, by rw [em_rank (by rw [e]; exact h.1) hi, e]⟩)
theorem el_holder {c : Int} (h : CO σ) (hi : zt_in c) : F_L_holder c σ = if 0 ≤ c ∧ c < 4 * σ.1 164 0 then some (0, zt_uL σ 184 0 (zt_l (wHd (σ.1 164) c))) else some (1, zt_nx σ) := by
  have a := h.1.n
  unfold F_L_holder F_C_holder
  rw [ec_needCard h hi]
  by_cases h1 : 0 ≤ c ∧ c < 4 * σ.1 164 0
  · rw [if_pos h1, if_pos h1, zt_bxS, ed_holderOf h.hu h.1 h.2.1 h1]
    rfl
  · rw [if_neg h1, if_neg h1]
    rfl
theorem em_holder {τ : zt_S} {c : Int} (h : RI (τ.1 164)) (hi : zt_in c) : F_M_holder c τ = if 0 ≤ c ∧ c < 4 * τ.1 164 0 then some (wHd (τ.1 164) c, zt_up τ 163 0 0) else some (0, zt_up τ 163 0 1) := by
  have a := h.n
  have e : (zt_up τ 163 0 0).1 164 = τ.1 164 := up_f (by decide)
  have g : RI ((zt_up τ 163 0 0).1 164) := by rw [e]; exact h
  have z : (zt_up τ 163 0 0).1 163 0 = 0 := up_s _ _ _ _
  unfold F_M_holder F_M_holder_27
  by_cases h1 : 0 ≤ c ∧ c < 4 * τ.1 164 0
  · have h2 : 0 ≤ c ∧ c < 4 * (zt_up τ 163 0 0).1 164 0 := by rw [e]; exact h1
    rw [if_pos h1, zt_letS, eb_card g h2, eb_fails1 z, zt_ckI zt_in0, if_pos rfl, eb_holderOf ⟨h1.1, by omega⟩, e]
  · have h2 : ¬ (0 ≤ c ∧ c < 4 * (zt_up τ 163 0 0).1 164 0) := by rw [e]; exact h1
    rw [if_neg h1, zt_letS, eb_nocard g hi h2, eb_fails0 (Or.inl rfl) z, zt_ckI (show zt_in 1 by decide), if_neg (by decide), up_up]
theorem ak_holder {c : Int} (h : CO σ) (hi : zt_in c) : AK (F_L_holder c) (F_M_holder c) σ :=
  ak_if (el_holder h hi) (fun τ e => ⟨0, by rw [em_holder (by rw [e]; exact h.1) hi, e]⟩)
theorem el_power {c : Int} (h : CO σ) (hi : zt_in c) : F_L_power c σ = if 0 ≤ c ∧ c < 4 * σ.1 164 0 then some (0, zt_uL σ 184 0 (zt_l (wPn (σ.1 164) c))) else some (1, zt_nx σ) := by
  have a := h.1.n
  unfold F_L_power F_C_power
  rw [ec_needCard h hi]
  by_cases h1 : 0 ≤ c ∧ c < 4 * σ.1 164 0
  · rw [if_pos h1, if_pos h1, zt_bxS, ed_powerOf h.2.1.1 h.2.2 h.1 h1]
    rfl
  · rw [if_neg h1, if_neg h1]
    rfl
theorem em_power {τ : zt_S} {c : Int} (h : RI (τ.1 164)) (hi : zt_in c) : F_M_power c τ = if 0 ≤ c ∧ c < 4 * τ.1 164 0 then some (wPn (τ.1 164) c, zt_up τ 163 0 0) else some (0, zt_up τ 163 0 1) := by
  have a := h.n
  have e : (zt_up τ 163 0 0).1 164 = τ.1 164 := up_f (by decide)
  have g : RI ((zt_up τ 163 0 0).1 164) := by rw [e]; exact h
  have z : (zt_up τ 163 0 0).1 163 0 = 0 := up_s _ _ _ _
  unfold F_M_power F_M_power_27
  by_cases h1 : 0 ≤ c ∧ c < 4 * τ.1 164 0
  · have h2 : 0 ≤ c ∧ c < 4 * (zt_up τ 163 0 0).1 164 0 := by rw [e]; exact h1
    rw [if_pos h1, zt_letS, eb_card g h2, eb_fails1 z, zt_ckI zt_in0, if_pos rfl, eb_powerNow g h2, e]
  · have h2 : ¬ (0 ≤ c ∧ c < 4 * (zt_up τ 163 0 0).1 164 0) := by rw [e]; exact h1
    rw [if_neg h1, zt_letS, eb_nocard g hi h2, eb_fails0 (Or.inl rfl) z, zt_ckI (show zt_in 1 by decide), if_neg (by decide), up_up]
theorem ak_power {c : Int} (h : CO σ) (hi : zt_in c) : AK (F_L_power c) (F_M_power c) σ :=
  ak_if (el_power h hi) (fun τ e => ⟨0, by rw [em_power (by rw [e]; exact h.1) hi, e]⟩)
theorem el_b15 {x : Int64} : F_L_isLegal_15 x 0 σ = some (0, zt_uL σ 184 0 x) := rfl
theorem el_w15 {x : Int64} : F_L_wouldLead_15 x 0 σ = some (0, zt_uL σ 184 0 x) := rfl
theorem wLg_card {w : Int → Int} {c : Int} (hc : 0 ≤ c ∧ c < 4 * w 0) {b : Bool} (h : b = (decide (c < 4 * w 0) && wLg w c)) : b = wLg w c := by
  rw [h, decide_eq_true hc.2, Bool.true_and]
theorem el_isLegal {c : Int} (h : CO σ) (hi : zt_in c) : F_L_isLegal c σ = if 0 ≤ c ∧ c < 4 * σ.1 164 0 then some (0, zt_uL σ 184 0 (zt_l (if wLg (σ.1 164) c = true then 1 else 0))) else some (1, zt_nx σ) := by
  have a := h.1.n
  unfold F_L_isLegal F_C_isLegal
  rw [ec_needCard h hi]
  by_cases h1 : 0 ≤ c ∧ c < 4 * σ.1 164 0
  · obtain ⟨v, g1, g2⟩ := ec_allowedCards h.hu h.1 h.2.1
    have g3 := wLg_card h1 (g2 c h1.1 (by omega))
    rw [if_pos h1, if_pos h1, zt_bxS, g1, zt_bdS, e_has ⟨h1.1, by omega⟩, zt_bdS, g3]
    cases wLg (σ.1 164) c
    · rfl
    · rfl
  · rw [if_neg h1, if_neg h1]
    rfl
theorem em_isLegal {τ : zt_S} {c : Int} (h : RI (τ.1 164)) (hi : zt_in c) : F_M_isLegal c τ = if 0 ≤ c ∧ c < 4 * τ.1 164 0 then some (if wLg (τ.1 164) c = true then 1 else 0, zt_up τ 163 0 0) else some (0, zt_up τ 163 0 1) := by
  have a := h.n
  have e : (zt_up τ 163 0 0).1 164 = τ.1 164 := up_f (by decide)
  have g : RI ((zt_up τ 163 0 0).1 164) := by rw [e]; exact h
  have z : (zt_up τ 163 0 0).1 163 0 = 0 := up_s _ _ _ _
  unfold F_M_isLegal F_M_isLegal_30 F_M_isLegal_31
  by_cases h1 : 0 ≤ c ∧ c < 4 * τ.1 164 0
  · have h2 : 0 ≤ c ∧ c < 4 * (zt_up τ 163 0 0).1 164 0 := by rw [e]; exact h1
    rw [if_pos h1, zt_letS, eb_card g h2, eb_fails1 z, zt_ckI zt_in0, if_pos rfl, em_isLegalNow g h2, zt_bdS, e]
    cases wLg (τ.1 164) c
    · rfl
    · rfl
  · have h2 : ¬ (0 ≤ c ∧ c < 4 * (zt_up τ 163 0 0).1 164 0) := by rw [e]; exact h1
    rw [if_neg h1, zt_letS, eb_nocard g hi h2, eb_fails0 (Or.inl rfl) z, zt_ckI (show zt_in 1 by decide), if_neg (by decide), up_up]
    rfl
theorem ak_isLegal {c : Int} (h : CO σ) (hi : zt_in c) : AK (F_L_isLegal c) (F_M_isLegal c) σ :=
  ak_if (el_isLegal h hi) (fun τ e => ⟨0, by rw [em_isLegal (by rw [e]; exact h.1) hi, e]⟩)
theorem el_wouldLead {c : Int} (h : CO σ) (hi : zt_in c) : F_L_wouldLead c σ = if 0 ≤ c ∧ c < 4 * σ.1 164 0 then some (0, zt_uL σ 184 0 (zt_l (if wBt (σ.1 164) c = true then 1 else 0))) else some (1, zt_nx σ) := by
  have a := h.1.n
  unfold F_L_wouldLead F_C_wouldLead
  rw [ec_needCard h hi]
  by_cases h1 : 0 ≤ c ∧ c < 4 * σ.1 164 0
  · rw [if_pos h1, if_pos h1, zt_bxS, ec_wouldBeBest h.2.1.1 h.2.2 h.1 h1, zt_bdS]
    cases wBt (σ.1 164) c
    · rfl
    · rfl
  · rw [if_neg h1, if_neg h1]
    rfl
theorem em_wouldLead {τ : zt_S} {c : Int} (h : RI (τ.1 164)) (hi : zt_in c) : F_M_wouldLead c τ = if 0 ≤ c ∧ c < 4 * τ.1 164 0 then some (if wBt (τ.1 164) c = true then 1 else 0, zt_up τ 163 0 0) else some (0, zt_up τ 163 0 1) := by
  have a := h.n
  have e : (zt_up τ 163 0 0).1 164 = τ.1 164 := up_f (by decide)
  have g : RI ((zt_up τ 163 0 0).1 164) := by rw [e]; exact h
  have z : (zt_up τ 163 0 0).1 163 0 = 0 := up_s _ _ _ _
  unfold F_M_wouldLead F_M_wouldLead_30 F_M_wouldLead_31
  by_cases h1 : 0 ≤ c ∧ c < 4 * τ.1 164 0
  · have h2 : 0 ≤ c ∧ c < 4 * (zt_up τ 163 0 0).1 164 0 := by rw [e]; exact h1
    rw [if_pos h1, zt_letS, eb_card g h2, eb_fails1 z, zt_ckI zt_in0, if_pos rfl, em_isBetter g h2, zt_bdS, e]
    cases wBt (τ.1 164) c
    · rfl
    · rfl
  · have h2 : ¬ (0 ≤ c ∧ c < 4 * (zt_up τ 163 0 0).1 164 0) := by rw [e]; exact h1
    rw [if_neg h1, zt_letS, eb_nocard g hi h2, eb_fails0 (Or.inl rfl) z, zt_ckI (show zt_in 1 by decide), if_neg (by decide), up_up]
    rfl
theorem ak_wouldLead {c : Int} (h : CO σ) (hi : zt_in c) : AK (F_L_wouldLead c) (F_M_wouldLead c) σ :=
  ak_if (el_wouldLead h hi) (fun τ e => ⟨0, by rw [em_wouldLead (by rw [e]; exact h.1) hi, e]⟩)
end QC
