/-! THE LAW's branches that ask yes or no -/
section LY
variable {X : q_X} {σ : zt_S} {v : Int}
def AB (fl fm : zt_S → Option (Int × zt_S)) (σ : zt_S) : Prop := ∃ e v σ1 σ2, fl σ = some (e, σ1) ∧ fm σ1 = some (v, σ2) ∧ σ2.1 163 0 = e ∧ (e = 0 ∨ e = 1) ∧ (e = 0 → σ2.2.1 184 0 = zt_l v ∧ (v = 0 ∨ v = 1)) ∧ FR σ σ2
theorem ab_if {fl fm : zt_S → Option (Int × zt_S)} {P : Prop} [Decidable P] {v : Int} (hv : v = 0 ∨ v = 1) (h1 : fl σ = if P then some (0, zt_uL σ 184 0 (zt_l v)) else some (1, zt_nx σ)) (h2 : ∀ τ : zt_S, τ.1 = σ.1 → ∃ u, fm τ = if P then some (v, zt_up τ 163 0 0) else some (u, zt_up τ 163 0 1)) : AB fl fm σ := by
  by_cases hP : P
  · rw [if_pos hP] at h1
    obtain ⟨u, g⟩ := h2 (zt_uL σ 184 0 (zt_l v)) rfl
    rw [if_pos hP] at g
    exact ⟨0, v, _, _, h1, g, up_s _ _ _ _, Or.inl rfl, fun _ => ⟨uL_s _ _ _ _, hv⟩, fr_1 _ _⟩
  · rw [if_neg hP] at h1
    obtain ⟨u, g⟩ := h2 (zt_nx σ) rfl
    rw [if_neg hP] at g
    exact ⟨1, u, _, _, h1, g, up_s _ _ _ _, Or.inr rfl, fun z => absurd z (by decide), fr_2 _⟩
theorem b01 (b : Bool) : (if b = true then (1 : Int) else 0) = 0 ∨ (if b = true then (1 : Int) else 0) = 1 := by cases b <;> decide
theorem lb_b {fl fm : zt_S → Option (Int × zt_S)} (h : AB fl fm σ) {P : Prop} [Decidable P] (hP : P) (r : zt_S → Option (Int × zt_S)) : ∃ τ, FR σ τ ∧ (zt_ck P <| zt_bd (fl σ) fun a s => zt_ck P <| zt_bd (fm s) fun b s' => zt_bd (F_M_thrown s') fun c s'' => zt_ck (zt_in c ∧ zt_in a) <| if c = a then zt_ck (zt_in a) <| if a = 0 then (zt_ck (zt_in b) <| if b = 0 then (if zt_lc (s''.2.1 184 0) 0 = 0 then r s'' else some ((0 : Int), s'')) else (if zt_lc (s''.2.1 184 0) 1 = 0 then r s'' else some ((0 : Int), s''))) else r s'' else some ((0 : Int), s'')) = r τ := by
  obtain ⟨e, b, s1, s2, h1, h2, h3, h4, h5, h6⟩ := h
  have ze : zt_in e := by rcases h4 with rfl | rfl <;> decide
  have ht : F_M_thrown s2 = some (e, s2) := by unfold F_M_thrown; rw [h3]
  refine ⟨s2, h6, ?_⟩
  rw [zt_ckI hP, h1, zt_bdS, zt_ckI hP, h2, zt_bdS, ht, zt_bdS, zt_ckI ⟨ze, ze⟩, if_pos rfl, zt_ckI ze]
  rcases h4 with rfl | rfl
  · obtain ⟨g1, g2⟩ := h5 rfl
    rw [if_pos rfl]
    rcases g2 with rfl | rfl
    · rw [zt_ckI zt_in0, if_pos rfl, if_pos (zt_lc0.mpr (g1.trans zl_0.symm))]
    · rw [zt_ckI (show zt_in 1 by decide), if_neg (by decide), if_pos (zt_lc0.mpr (g1.trans zl_1.symm))]
  · rw [if_neg (by decide)]
theorem ab_isLegal {c : Int} (h : CO σ) (hi : zt_in c) : AB (F_L_isLegal c) (F_M_isLegal c) σ :=
  ab_if (b01 _) (el_isLegal h hi) (fun τ e => ⟨0, by rw [em_isLegal (by rw [e]; exact h.1) hi, e]⟩)
theorem ab_wouldLead {c : Int} (h : CO σ) (hi : zt_in c) : AB (F_L_wouldLead c) (F_M_wouldLead c) σ :=
  ab_if (b01 _) (el_wouldLead h hi) (fun τ e => ⟨0, by rw [em_wouldLead (by rw [e]; exact h.1) hi, e]⟩)
theorem ab_isMaster {c : Int} (h : CO σ) (hi : zt_in c) : AB (F_L_isMaster c) (F_M_isMaster c) σ :=
  ab_if (b01 _) (el_isMaster h hi) (fun τ e => ⟨0, by rw [em_isMaster (by rw [e]; exact h.1) hi, e]⟩)
theorem ab_could {p c : Int} (h : CO σ) (hi : zt_in p) (hj : zt_in c) : AB (F_L_could p c) (F_M_could p c) σ :=
  ab_if (b01 _) (el_could h hi hj) (fun τ e => ⟨0, by rw [em_could (by rw [e]; exact h.1) hi hj, e]⟩)
theorem lw_isLegal (h : CO σ) (r : Int → zt_S → Option (Int × zt_S)) (hv : 0 ≤ v ∧ v + 6 ≤ (X.1 : Int)) : ∃ τ, FR σ τ ∧ F_L_law_810 X r v σ = r (v + 6) τ := by
  unfold F_L_law_810 F_L_law_864 F_L_law_870 F_L_law_2598
  exact lb_b (ab_isLegal h (zx_in (X := X) (v + 1))) (show 0 ≤ v + 1 ∧ v + 1 < (X.1 : Int) by omega) (r (v + 6))
theorem lw_wouldLead (h : CO σ) (r : Int → zt_S → Option (Int × zt_S)) (hv : 0 ≤ v ∧ v + 6 ≤ (X.1 : Int)) : ∃ τ, FR σ τ ∧ F_L_law_968 X r v σ = r (v + 6) τ := by
  unfold F_L_law_968 F_L_law_1022 F_L_law_1028 F_L_law_2598
  exact lb_b (ab_wouldLead h (zx_in (X := X) (v + 1))) (show 0 ≤ v + 1 ∧ v + 1 < (X.1 : Int) by omega) (r (v + 6))
theorem lw_isMaster (h : CO σ) (r : Int → zt_S → Option (Int × zt_S)) (hv : 0 ≤ v ∧ v + 6 ≤ (X.1 : Int)) : ∃ τ, FR σ τ ∧ F_L_law_1653 X r v σ = r (v + 6) τ := by
  unfold F_L_law_1653 F_L_law_1707 F_L_law_1713 F_L_law_2598
  exact lb_b (ab_isMaster h (zx_in (X := X) (v + 1))) (show 0 ≤ v + 1 ∧ v + 1 < (X.1 : Int) by omega) (r (v + 6))
end LY
