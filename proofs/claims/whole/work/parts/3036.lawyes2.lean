/-! THE LAW's branches that ask yes or no of two numbers -/
section LZ
variable {X : q_X} {σ : zt_S} {v : Int}
theorem lb_b2 {fl fm : zt_S → Option (Int × zt_S)} (h : AB fl fm σ) {P Q : Prop} [Decidable P] [Decidable Q] (hP : P) (hQ : Q) (r : zt_S → Option (Int × zt_S)) : ∃ τ, FR σ τ ∧ (zt_ck P <| zt_ck Q <| zt_bd (fl σ) fun a s => zt_ck P <| zt_ck Q <| zt_bd (fm s) fun b s' => zt_bd (F_M_thrown s') fun c s'' => zt_ck (zt_in c ∧ zt_in a) <| if c = a then zt_ck (zt_in a) <| if a = 0 then (zt_ck (zt_in b) <| if b = 0 then (if zt_lc (s''.2.1 184 0) 0 = 0 then r s'' else some ((0 : Int), s'')) else (if zt_lc (s''.2.1 184 0) 1 = 0 then r s'' else some ((0 : Int), s''))) else r s'' else some ((0 : Int), s'')) = r τ := by
  obtain ⟨τ, g1, g2⟩ := lb_b h (P := True) trivial r
  refine ⟨τ, g1, ?_⟩
  rw [zt_ckI hP, zt_ckI hQ, ← g2, zt_ckI trivial]
  congr 1
  funext a s
  rw [zt_ckI hP, zt_ckI hQ, zt_ckI trivial]
theorem ab_if' {fl fm : zt_S → Option (Int × zt_S)} {P : Prop} [Decidable P] {v : Int} (hv : P → v = 0 ∨ v = 1) (h1 : fl σ = if P then some (0, zt_uL σ 184 0 (zt_l v)) else some (1, zt_nx σ)) (h2 : ∀ τ : zt_S, τ.1 = σ.1 → ∃ u, fm τ = if P then some (v, zt_up τ 163 0 0) else some (u, zt_up τ 163 0 1)) : AB fl fm σ := by
  by_cases hP : P
  · exact ab_if (hv hP) h1 h2
  · rw [if_neg hP] at h1
    obtain ⟨u, g⟩ := h2 (zt_nx σ) rfl
    rw [if_neg hP] at g
    exact ⟨1, u, _, _, h1, g, up_s _ _ _ _, Or.inr rfl, fun z => absurd z (by decide), fr_2 _⟩
theorem ab_lacks {p s : Int} (h : CO σ) (hi : zt_in p) (hj : zt_in s) : AB (F_L_lacks p s) (F_M_lacks p s) σ :=
  ab_if' (fun z => by
    have a := h.1.n
    have q := h.1.2.2.2.2.2.1 (4 * p + s) (by omega) (by omega)
    rw [show (24 : Int) + (4 * p + s) = 24 + 4 * p + s by omega] at q
    omega) (el_lacks h hi hj) (fun τ e => ⟨0, by rw [em_lacks (by rw [e]; exact h.1) hi hj, e]⟩)
theorem lw_lacks (h : CO σ) (r : Int → zt_S → Option (Int × zt_S)) (hv : 0 ≤ v ∧ v + 6 ≤ (X.1 : Int)) : ∃ τ, FR σ τ ∧ F_L_law_1447 X r v σ = r (v + 6) τ := by
  unfold F_L_law_1447 F_L_law_1513 F_L_law_1519 F_L_law_2598
  exact lb_b2 (ab_lacks h (zx_in (X := X) (v + 1)) (zx_in (X := X) (v + 2))) (show 0 ≤ v + 1 ∧ v + 1 < (X.1 : Int) by omega) (show 0 ≤ v + 2 ∧ v + 2 < (X.1 : Int) by omega) (r (v + 6))
theorem lw_could (h : CO σ) (r : Int → zt_S → Option (Int × zt_S)) (hv : 0 ≤ v ∧ v + 6 ≤ (X.1 : Int)) : ∃ τ, FR σ τ ∧ F_L_law_1522 X r v σ = r (v + 6) τ := by
  unfold F_L_law_1522 F_L_law_1588 F_L_law_1594 F_L_law_2598
  exact lb_b2 (ab_could h (zx_in (X := X) (v + 1)) (zx_in (X := X) (v + 2))) (show 0 ≤ v + 1 ∧ v + 1 < (X.1 : Int) by omega) (show 0 ≤ v + 2 ∧ v + 2 < (X.1 : Int) by omega) (r (v + 6))
end LZ
