/-! THE LAW's branches that ask a question: they go on, and change no more than the answers -/
section LW
variable {X : q_X} {σ : zt_S} {v : Int}
theorem lb_1 {fl fm : zt_S → Option (Int × zt_S)} (h : AK fl fm σ) {P : Prop} [Decidable P] (hP : P) (r : zt_S → Option (Int × zt_S)) : ∃ τ, FR σ τ ∧ (zt_ck P <| zt_bd (fl σ) fun a s => zt_ck P <| zt_bd (fm s) fun b s' => zt_bd (F_M_thrown s') fun c s'' => zt_ck (zt_in c ∧ zt_in a) <| if c = a then zt_ck (zt_in a) <| if a = 0 then (if zt_lc (s''.2.1 184 0) (zt_l b) = 0 then r s'' else some ((0 : Int), s'')) else r s'' else some ((0 : Int), s'')) = r τ := by
  obtain ⟨e, b, s1, s2, h1, h2, h3, h4, h5, h6⟩ := h
  have ze : zt_in e := by rcases h4 with rfl | rfl <;> decide
  have ht : F_M_thrown s2 = some (e, s2) := by unfold F_M_thrown; rw [h3]
  refine ⟨s2, h6, ?_⟩
  rw [zt_ckI hP, h1, zt_bdS, zt_ckI hP, h2, zt_bdS, ht, zt_bdS, zt_ckI ⟨ze, ze⟩, if_pos rfl, zt_ckI ze]
  rcases h4 with rfl | rfl
  · rw [if_pos rfl, if_pos (zt_lc0.mpr (h5 rfl))]
  · rw [if_neg (by decide)]
theorem lb_2 {fl fm : zt_S → Option (Int × zt_S)} (h : AK fl fm σ) {P Q : Prop} [Decidable P] [Decidable Q] (hP : P) (hQ : Q) (r : zt_S → Option (Int × zt_S)) : ∃ τ, FR σ τ ∧ (zt_ck P <| zt_ck Q <| zt_bd (fl σ) fun a s => zt_ck P <| zt_ck Q <| zt_bd (fm s) fun b s' => zt_bd (F_M_thrown s') fun c s'' => zt_ck (zt_in c ∧ zt_in a) <| if c = a then zt_ck (zt_in a) <| if a = 0 then (if zt_lc (s''.2.1 184 0) (zt_l b) = 0 then r s'' else some ((0 : Int), s'')) else r s'' else some ((0 : Int), s'')) = r τ := by
  obtain ⟨τ, g1, g2⟩ := lb_1 h (P := True) trivial r
  refine ⟨τ, g1, ?_⟩
  rw [zt_ckI hP, zt_ckI hQ, ← g2, zt_ckI trivial]
  congr 1
  funext a s
  rw [zt_ckI hP, zt_ckI hQ, zt_ckI trivial]
theorem lb_0 {fc fm : zt_S → Option (Int × zt_S)} (h : AP fc fm σ) (r : zt_S → Option (Int × zt_S)) : ∃ τ, FR σ τ ∧ (zt_bd (fc σ) fun a s => zt_bd (fm s) fun b s' => zt_ck (zt_in a ∧ zt_in b) <| if a = b then r s' else some ((0 : Int), s')) = r τ := by
  obtain ⟨x, h1, h2, h3⟩ := h
  refine ⟨zt_up σ 163 0 0, ⟨fun c j h => up_o h, fun c j h => rfl, rfl, Nat.le_refl _, Nat.le_succ _⟩, ?_⟩
  rw [h1, zt_bdS, h2, zt_bdS, zt_ckI ⟨h3, h3⟩, if_pos rfl]
theorem zx_in (i : Int) : zt_in (zt_x X i) := by
  unfold zt_x
  have h1 := Int32.le_toInt (X.2 i.toNat)
  have h2 := Int32.toInt_lt (X.2 i.toNat)
  generalize (X.2 i.toNat).toInt = x at *
  omega
theorem lw_size (h : CO σ) (r : Int → zt_S → Option (Int × zt_S)) (hv : 0 ≤ v ∧ v + 6 ≤ (X.1 : Int)) : ∃ τ, FR σ τ ∧ F_L_law_394 X r v σ = r (v + 6) τ := by
  unfold F_L_law_394 F_L_law_447 F_L_law_2598
  exact lb_1 (ak_size h (zx_in (X := X) (v + 1))) (show 0 ≤ v + 1 ∧ v + 1 < (X.1 : Int) by omega) (r (v + 6))
theorem lw_suit (h : CO σ) (r : Int → zt_S → Option (Int × zt_S)) (hv : 0 ≤ v ∧ v + 6 ≤ (X.1 : Int)) : ∃ τ, FR σ τ ∧ F_L_law_450 X r v σ = r (v + 6) τ := by
  unfold F_L_law_450 F_L_law_503 F_L_law_2598
  exact lb_1 (ak_suit h (zx_in (X := X) (v + 1))) (show 0 ≤ v + 1 ∧ v + 1 < (X.1 : Int) by omega) (r (v + 6))
theorem lw_rank (h : CO σ) (r : Int → zt_S → Option (Int × zt_S)) (hv : 0 ≤ v ∧ v + 6 ≤ (X.1 : Int)) : ∃ τ, FR σ τ ∧ F_L_law_506 X r v σ = r (v + 6) τ := by
  unfold F_L_law_506 F_L_law_559 F_L_law_2598
  exact lb_1 (ak_rank h (zx_in (X := X) (v + 1))) (show 0 ≤ v + 1 ∧ v + 1 < (X.1 : Int) by omega) (r (v + 6))
theorem lw_holder (h : CO σ) (r : Int → zt_S → Option (Int × zt_S)) (hv : 0 ≤ v ∧ v + 6 ≤ (X.1 : Int)) : ∃ τ, FR σ τ ∧ F_L_law_562 X r v σ = r (v + 6) τ := by
  unfold F_L_law_562 F_L_law_615 F_L_law_2598
  exact lb_1 (ak_holder h (zx_in (X := X) (v + 1))) (show 0 ≤ v + 1 ∧ v + 1 < (X.1 : Int) by omega) (r (v + 6))
theorem lw_held (h : CO σ) (r : Int → zt_S → Option (Int × zt_S)) (hv : 0 ≤ v ∧ v + 6 ≤ (X.1 : Int)) : ∃ τ, FR σ τ ∧ F_L_law_618 X r v σ = r (v + 6) τ := by
  unfold F_L_law_618 F_L_law_671 F_L_law_2598
  exact lb_1 (ak_held h (zx_in (X := X) (v + 1))) (show 0 ≤ v + 1 ∧ v + 1 < (X.1 : Int) by omega) (r (v + 6))
theorem lw_ofSuit (h : CO σ) (r : Int → zt_S → Option (Int × zt_S)) (hv : 0 ≤ v ∧ v + 6 ≤ (X.1 : Int)) : ∃ τ, FR σ τ ∧ F_L_law_742 X r v σ = r (v + 6) τ := by
  unfold F_L_law_742 F_L_law_807 F_L_law_2598
  exact lb_2 (ak_ofSuit h (zx_in (X := X) (v + 1)) (zx_in (X := X) (v + 2))) (show 0 ≤ v + 1 ∧ v + 1 < (X.1 : Int) by omega) (show 0 ≤ v + 2 ∧ v + 2 < (X.1 : Int) by omega) (r (v + 6))
theorem lw_legal (h : CO σ) (r : Int → zt_S → Option (Int × zt_S)) : ∃ τ, FR σ τ ∧ F_L_law_873 X r v σ = r (v + 6) τ := by
  unfold F_L_law_873  F_L_law_2598
  exact lb_0 (ap_legal h) (r (v + 6))
theorem lw_power (h : CO σ) (r : Int → zt_S → Option (Int × zt_S)) (hv : 0 ≤ v ∧ v + 6 ≤ (X.1 : Int)) : ∃ τ, FR σ τ ∧ F_L_law_886 X r v σ = r (v + 6) τ := by
  unfold F_L_law_886 F_L_law_939 F_L_law_2598
  exact lb_1 (ak_power h (zx_in (X := X) (v + 1))) (show 0 ≤ v + 1 ∧ v + 1 < (X.1 : Int) by omega) (r (v + 6))
theorem lw_led (h : CO σ) (r : Int → zt_S → Option (Int × zt_S)) : ∃ τ, FR σ τ ∧ F_L_law_942 X r v σ = r (v + 6) τ := by
  unfold F_L_law_942  F_L_law_2598
  exact lb_0 (ap_led h) (r (v + 6))
theorem lw_winning (h : CO σ) (r : Int → zt_S → Option (Int × zt_S)) : ∃ τ, FR σ τ ∧ F_L_law_955 X r v σ = r (v + 6) τ := by
  unfold F_L_law_955  F_L_law_2598
  exact lb_0 (ap_winning h) (r (v + 6))
theorem lw_played (h : CO σ) (r : Int → zt_S → Option (Int × zt_S)) (hv : 0 ≤ v ∧ v + 6 ≤ (X.1 : Int)) : ∃ τ, FR σ τ ∧ F_L_law_1031 X r v σ = r (v + 6) τ := by
  unfold F_L_law_1031 F_L_law_1096 F_L_law_2598
  exact lb_2 (ak_played h (zx_in (X := X) (v + 1)) (zx_in (X := X) (v + 2))) (show 0 ≤ v + 1 ∧ v + 1 < (X.1 : Int) by omega) (show 0 ≤ v + 2 ∧ v + 2 < (X.1 : Int) by omega) (r (v + 6))
theorem lw_trick (h : CO σ) (r : Int → zt_S → Option (Int × zt_S)) (hv : 0 ≤ v ∧ v + 6 ≤ (X.1 : Int)) : ∃ τ, FR σ τ ∧ F_L_law_1099 X r v σ = r (v + 6) τ := by
  unfold F_L_law_1099 F_L_law_1164 F_L_law_2598
  exact lb_2 (ak_trick h (zx_in (X := X) (v + 1)) (zx_in (X := X) (v + 2))) (show 0 ≤ v + 1 ∧ v + 1 < (X.1 : Int) by omega) (show 0 ≤ v + 2 ∧ v + 2 < (X.1 : Int) by omega) (r (v + 6))
theorem lw_tricks (h : CO σ) (r : Int → zt_S → Option (Int × zt_S)) (hv : 0 ≤ v ∧ v + 6 ≤ (X.1 : Int)) : ∃ τ, FR σ τ ∧ F_L_law_1167 X r v σ = r (v + 6) τ := by
  unfold F_L_law_1167 F_L_law_1220 F_L_law_2598
  exact lb_1 (ak_tricks h (zx_in (X := X) (v + 1))) (show 0 ≤ v + 1 ∧ v + 1 < (X.1 : Int) by omega) (r (v + 6))
theorem lw_told (h : CO σ) (r : Int → zt_S → Option (Int × zt_S)) (hv : 0 ≤ v ∧ v + 6 ≤ (X.1 : Int)) : ∃ τ, FR σ τ ∧ F_L_law_1223 X r v σ = r (v + 6) τ := by
  unfold F_L_law_1223 F_L_law_1276 F_L_law_2598
  exact lb_1 (ak_told h (zx_in (X := X) (v + 1))) (show 0 ≤ v + 1 ∧ v + 1 < (X.1 : Int) by omega) (r (v + 6))
theorem lw_result (h : CO σ) (r : Int → zt_S → Option (Int × zt_S)) (hv : 0 ≤ v ∧ v + 6 ≤ (X.1 : Int)) : ∃ τ, FR σ τ ∧ F_L_law_1279 X r v σ = r (v + 6) τ := by
  unfold F_L_law_1279 F_L_law_1332 F_L_law_2598
  exact lb_1 (ak_result h (zx_in (X := X) (v + 1))) (show 0 ≤ v + 1 ∧ v + 1 < (X.1 : Int) by omega) (r (v + 6))
theorem lw_points (h : CO σ) (r : Int → zt_S → Option (Int × zt_S)) (hv : 0 ≤ v ∧ v + 6 ≤ (X.1 : Int)) : ∃ τ, FR σ τ ∧ F_L_law_1335 X r v σ = r (v + 6) τ := by
  unfold F_L_law_1335 F_L_law_1388 F_L_law_2598
  exact lb_1 (ak_points h (zx_in (X := X) (v + 1))) (show 0 ≤ v + 1 ∧ v + 1 < (X.1 : Int) by omega) (r (v + 6))
theorem lw_ranking (h : CO σ) (r : Int → zt_S → Option (Int × zt_S)) (hv : 0 ≤ v ∧ v + 6 ≤ (X.1 : Int)) : ∃ τ, FR σ τ ∧ F_L_law_1391 X r v σ = r (v + 6) τ := by
  unfold F_L_law_1391 F_L_law_1444 F_L_law_2598
  exact lb_1 (ak_ranking h (zx_in (X := X) (v + 1))) (show 0 ≤ v + 1 ∧ v + 1 < (X.1 : Int) by omega) (r (v + 6))
theorem lw_unseen (h : CO σ) (r : Int → zt_S → Option (Int × zt_S)) (hv : 0 ≤ v ∧ v + 6 ≤ (X.1 : Int)) : ∃ τ, FR σ τ ∧ F_L_law_1597 X r v σ = r (v + 6) τ := by
  unfold F_L_law_1597 F_L_law_1650 F_L_law_2598
  exact lb_1 (ak_unseen h (zx_in (X := X) (v + 1))) (show 0 ≤ v + 1 ∧ v + 1 < (X.1 : Int) by omega) (r (v + 6))
theorem lw_masters (h : CO σ) (r : Int → zt_S → Option (Int × zt_S)) (hv : 0 ≤ v ∧ v + 6 ≤ (X.1 : Int)) : ∃ τ, FR σ τ ∧ F_L_law_1716 X r v σ = r (v + 6) τ := by
  unfold F_L_law_1716 F_L_law_1769 F_L_law_2598
  exact lb_1 (ak_masters h (zx_in (X := X) (v + 1))) (show 0 ≤ v + 1 ∧ v + 1 < (X.1 : Int) by omega) (r (v + 6))
theorem lw_darkIn (h : CO σ) (r : Int → zt_S → Option (Int × zt_S)) : ∃ τ, FR σ τ ∧ F_L_law_1772 X r v σ = r (v + 6) τ := by
  unfold F_L_law_1772  F_L_law_2598
  exact lb_0 (ap_darkIn h) (r (v + 6))
end LW
