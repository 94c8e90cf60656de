/-! THE LAW: every branch goes on, and both stay alike -/
section LX
variable {X : q_X} {σ : zt_S} {v n : Int}
theorem ob_1 {m : Int} {fl fm : zt_S → Option (Int × zt_S)} (h : OP m fl fm σ) {P : Prop} [Decidable P] (hP : P) (r : zt_S → Option (Int × zt_S)) : ∃ τ, Inv m τ ∧ (zt_ck P <| zt_bd (fl σ) fun a s => zt_ck P <| zt_bd (fm s) fun b s' => zt_bd (F_M_thrown s') fun c s'' => zt_ck (zt_in c ∧ zt_in a) <| if c = a then zt_ck (zt_in a) <| if a = 0 then (if zt_lc (s''.2.1 184 0) (zt_l b) = 0 then r s'' else some ((0 : Int), s'')) else r s'' else some ((0 : Int), s'')) = r τ := by
  obtain ⟨e, b, s1, s2, h1, h2, h3, h4, h5, h6⟩ := h
  have ze : zt_in e := by unfold zt_in; omega
  have ht : F_M_thrown s2 = some (e, s2) := by unfold F_M_thrown; rw [h3]
  refine ⟨s2, h6, ?_⟩
  rw [zt_ckI hP, h1, zt_bdS, zt_ckI hP, h2, zt_bdS, ht, zt_bdS, zt_ckI ⟨ze, ze⟩, if_pos rfl, zt_ckI ze]
  by_cases e0 : e = 0
  · rw [if_pos e0, if_pos (zt_lc0.mpr (h5 e0))]
  · rw [if_neg e0]
theorem ob_2 {m : Int} {fl fm : zt_S → Option (Int × zt_S)} (h : OP m fl fm σ) {P Q : Prop} [Decidable P] [Decidable Q] (hP : P) (hQ : Q) (r : zt_S → Option (Int × zt_S)) : ∃ τ, Inv m τ ∧ (zt_ck P <| zt_ck Q <| zt_bd (fl σ) fun a s => zt_ck P <| zt_ck Q <| zt_bd (fm s) fun b s' => zt_bd (F_M_thrown s') fun c s'' => zt_ck (zt_in c ∧ zt_in a) <| if c = a then zt_ck (zt_in a) <| if a = 0 then (if zt_lc (s''.2.1 184 0) (zt_l b) = 0 then r s'' else some ((0 : Int), s'')) else r s'' else some ((0 : Int), s'')) = r τ := by
  obtain ⟨τ, g1, g2⟩ := ob_1 h (P := True) trivial r
  refine ⟨τ, g1, ?_⟩
  rw [zt_ckI hP, zt_ckI hQ, ← g2, zt_ckI trivial]
  congr 1
  funext a s
  rw [zt_ckI hP, zt_ckI hQ, zt_ckI trivial]
theorem oq_b {m : Int} {fc fm : zt_S → Option (Int × zt_S)} (h : OQ m fc fm σ) (r : zt_S → Option (Int × zt_S)) : ∃ τ, Inv m τ ∧ (zt_bd (fc σ) fun a s => zt_bd (fm s) fun b s' => zt_ck (zt_in a ∧ zt_in b) <| if a = b then r s' else some ((0 : Int), s')) = r τ := by
  obtain ⟨x, s1, s2, h1, h2, h3, h4⟩ := h
  refine ⟨s2, h4, ?_⟩
  rw [h1, zt_bdS, h2, zt_bdS, zt_ckI ⟨h3, h3⟩, if_pos rfl]
theorem oq_b1 {m : Int} {fc fm : zt_S → Option (Int × zt_S)} (h : OQ m fc fm σ) {P : Prop} [Decidable P] (hP : P) (r : zt_S → Option (Int × zt_S)) : ∃ τ, Inv m τ ∧ (zt_ck P <| zt_bd (fc σ) fun a s => zt_ck P <| zt_bd (fm s) fun b s' => zt_ck (zt_in a ∧ zt_in b) <| if a = b then r s' else some ((0 : Int), s')) = r τ := by
  obtain ⟨x, s1, s2, h1, h2, h3, h4⟩ := h
  refine ⟨s2, h4, ?_⟩
  rw [zt_ckI hP, h1, zt_bdS, zt_ckI hP, h2, zt_bdS, zt_ckI ⟨h3, h3⟩, if_pos rfl]
theorem lx_fr (h : Inv n σ) {x : Option (Int × zt_S)} {k : zt_S → Option (Int × zt_S)} (g : ∃ τ, FR σ τ ∧ x = k τ) : ∃ τ, Inv (n + 1) τ ∧ x = k τ := by
  obtain ⟨τ, g1, g2⟩ := g
  exact ⟨τ, h.fr g1, g2⟩
theorem lx_252 (h : Inv n σ) (hn : 0 ≤ n ∧ n ≤ 1000) (r : Int → zt_S → Option (Int × zt_S)) (hv : 0 ≤ v ∧ v + 6 ≤ (X.1 : Int)) : ∃ τ, Inv (n + 1) τ ∧ F_L_law_252 X r v σ = r (v + 6) τ := by
  obtain ⟨x, s1, s2, h1, h2, h3, h4⟩ := oq_feed (a := zt_x X (v + 1)) (b := zt_x X (v + 2)) (c := zt_x X (v + 3)) (d := zt_x X (v + 4)) (e := zt_x X (v + 5)) h
  refine ⟨s2, h4, ?_⟩
  unfold F_L_law_252 F_L_law_2598
  rw [zt_ckI (by omega), zt_ckI (by omega), zt_ckI (by omega), zt_ckI (by omega), zt_ckI (by omega), h1, zt_bdS, zt_ckI (by omega), zt_ckI (by omega), zt_ckI (by omega), zt_ckI (by omega), zt_ckI (by omega), h2, zt_bdS, zt_ckI ⟨h3, h3⟩, if_pos rfl]
theorem lx_325 (h : Inv n σ) (hn : 0 ≤ n ∧ n ≤ 1000) (r : Int → zt_S → Option (Int × zt_S)) (hv : 0 ≤ v ∧ v + 6 ≤ (X.1 : Int)) : ∃ τ, Inv (n + 1) τ ∧ F_L_law_325 X r v σ = r (v + 6) τ := by
  unfold F_L_law_325 F_L_law_378 F_L_law_2598
  exact ob_1 (op_load h (zx_in (X := X) (v + 1))) (show 0 ≤ v + 1 ∧ v + 1 < (X.1 : Int) by omega) (r (v + 6))
theorem lx_381 (h : Inv n σ) (hn : 0 ≤ n ∧ n ≤ 1000) (r : Int → zt_S → Option (Int × zt_S)) (hv : 0 ≤ v ∧ v + 6 ≤ (X.1 : Int)) : ∃ τ, Inv (n + 1) τ ∧ F_L_law_381 X r v σ = r (v + 6) τ := by
  unfold F_L_law_381 F_L_law_2598
  exact oq_b (oq_errorPosition h) (r (v + 6))
theorem lx_394 (h : Inv n σ) (hn : 0 ≤ n ∧ n ≤ 1000) (r : Int → zt_S → Option (Int × zt_S)) (hv : 0 ≤ v ∧ v + 6 ≤ (X.1 : Int)) : ∃ τ, Inv (n + 1) τ ∧ F_L_law_394 X r v σ = r (v + 6) τ :=
  lx_fr h (lw_size h.1 r hv)
theorem lx_450 (h : Inv n σ) (hn : 0 ≤ n ∧ n ≤ 1000) (r : Int → zt_S → Option (Int × zt_S)) (hv : 0 ≤ v ∧ v + 6 ≤ (X.1 : Int)) : ∃ τ, Inv (n + 1) τ ∧ F_L_law_450 X r v σ = r (v + 6) τ :=
  lx_fr h (lw_suit h.1 r hv)
theorem lx_506 (h : Inv n σ) (hn : 0 ≤ n ∧ n ≤ 1000) (r : Int → zt_S → Option (Int × zt_S)) (hv : 0 ≤ v ∧ v + 6 ≤ (X.1 : Int)) : ∃ τ, Inv (n + 1) τ ∧ F_L_law_506 X r v σ = r (v + 6) τ :=
  lx_fr h (lw_rank h.1 r hv)
theorem lx_562 (h : Inv n σ) (hn : 0 ≤ n ∧ n ≤ 1000) (r : Int → zt_S → Option (Int × zt_S)) (hv : 0 ≤ v ∧ v + 6 ≤ (X.1 : Int)) : ∃ τ, Inv (n + 1) τ ∧ F_L_law_562 X r v σ = r (v + 6) τ :=
  lx_fr h (lw_holder h.1 r hv)
theorem lx_618 (h : Inv n σ) (hn : 0 ≤ n ∧ n ≤ 1000) (r : Int → zt_S → Option (Int × zt_S)) (hv : 0 ≤ v ∧ v + 6 ≤ (X.1 : Int)) : ∃ τ, Inv (n + 1) τ ∧ F_L_law_618 X r v σ = r (v + 6) τ :=
  lx_fr h (lw_held h.1 r hv)
theorem lx_674 (h : Inv n σ) (hn : 0 ≤ n ∧ n ≤ 1000) (r : Int → zt_S → Option (Int × zt_S)) (hv : 0 ≤ v ∧ v + 6 ≤ (X.1 : Int)) : ∃ τ, Inv (n + 1) τ ∧ F_L_law_674 X r v σ = r (v + 6) τ :=
  lx_fr h (lw_inHand h.1 r hv)
theorem lx_742 (h : Inv n σ) (hn : 0 ≤ n ∧ n ≤ 1000) (r : Int → zt_S → Option (Int × zt_S)) (hv : 0 ≤ v ∧ v + 6 ≤ (X.1 : Int)) : ∃ τ, Inv (n + 1) τ ∧ F_L_law_742 X r v σ = r (v + 6) τ :=
  lx_fr h (lw_ofSuit h.1 r hv)
theorem lx_810 (h : Inv n σ) (hn : 0 ≤ n ∧ n ≤ 1000) (r : Int → zt_S → Option (Int × zt_S)) (hv : 0 ≤ v ∧ v + 6 ≤ (X.1 : Int)) : ∃ τ, Inv (n + 1) τ ∧ F_L_law_810 X r v σ = r (v + 6) τ :=
  lx_fr h (lw_isLegal h.1 r hv)
theorem lx_873 (h : Inv n σ) (hn : 0 ≤ n ∧ n ≤ 1000) (r : Int → zt_S → Option (Int × zt_S)) (hv : 0 ≤ v ∧ v + 6 ≤ (X.1 : Int)) : ∃ τ, Inv (n + 1) τ ∧ F_L_law_873 X r v σ = r (v + 6) τ :=
  lx_fr h (lw_legal h.1 r)
theorem lx_886 (h : Inv n σ) (hn : 0 ≤ n ∧ n ≤ 1000) (r : Int → zt_S → Option (Int × zt_S)) (hv : 0 ≤ v ∧ v + 6 ≤ (X.1 : Int)) : ∃ τ, Inv (n + 1) τ ∧ F_L_law_886 X r v σ = r (v + 6) τ :=
  lx_fr h (lw_power h.1 r hv)
theorem lx_942 (h : Inv n σ) (hn : 0 ≤ n ∧ n ≤ 1000) (r : Int → zt_S → Option (Int × zt_S)) (hv : 0 ≤ v ∧ v + 6 ≤ (X.1 : Int)) : ∃ τ, Inv (n + 1) τ ∧ F_L_law_942 X r v σ = r (v + 6) τ :=
  lx_fr h (lw_led h.1 r)
theorem lx_955 (h : Inv n σ) (hn : 0 ≤ n ∧ n ≤ 1000) (r : Int → zt_S → Option (Int × zt_S)) (hv : 0 ≤ v ∧ v + 6 ≤ (X.1 : Int)) : ∃ τ, Inv (n + 1) τ ∧ F_L_law_955 X r v σ = r (v + 6) τ :=
  lx_fr h (lw_winning h.1 r)
theorem lx_968 (h : Inv n σ) (hn : 0 ≤ n ∧ n ≤ 1000) (r : Int → zt_S → Option (Int × zt_S)) (hv : 0 ≤ v ∧ v + 6 ≤ (X.1 : Int)) : ∃ τ, Inv (n + 1) τ ∧ F_L_law_968 X r v σ = r (v + 6) τ :=
  lx_fr h (lw_wouldLead h.1 r hv)
theorem lx_1031 (h : Inv n σ) (hn : 0 ≤ n ∧ n ≤ 1000) (r : Int → zt_S → Option (Int × zt_S)) (hv : 0 ≤ v ∧ v + 6 ≤ (X.1 : Int)) : ∃ τ, Inv (n + 1) τ ∧ F_L_law_1031 X r v σ = r (v + 6) τ :=
  lx_fr h (lw_played h.1 r hv)
theorem lx_1099 (h : Inv n σ) (hn : 0 ≤ n ∧ n ≤ 1000) (r : Int → zt_S → Option (Int × zt_S)) (hv : 0 ≤ v ∧ v + 6 ≤ (X.1 : Int)) : ∃ τ, Inv (n + 1) τ ∧ F_L_law_1099 X r v σ = r (v + 6) τ :=
  lx_fr h (lw_trick h.1 r hv)
theorem lx_1167 (h : Inv n σ) (hn : 0 ≤ n ∧ n ≤ 1000) (r : Int → zt_S → Option (Int × zt_S)) (hv : 0 ≤ v ∧ v + 6 ≤ (X.1 : Int)) : ∃ τ, Inv (n + 1) τ ∧ F_L_law_1167 X r v σ = r (v + 6) τ :=
  lx_fr h (lw_tricks h.1 r hv)
theorem lx_1223 (h : Inv n σ) (hn : 0 ≤ n ∧ n ≤ 1000) (r : Int → zt_S → Option (Int × zt_S)) (hv : 0 ≤ v ∧ v + 6 ≤ (X.1 : Int)) : ∃ τ, Inv (n + 1) τ ∧ F_L_law_1223 X r v σ = r (v + 6) τ :=
  lx_fr h (lw_told h.1 r hv)
theorem lx_1279 (h : Inv n σ) (hn : 0 ≤ n ∧ n ≤ 1000) (r : Int → zt_S → Option (Int × zt_S)) (hv : 0 ≤ v ∧ v + 6 ≤ (X.1 : Int)) : ∃ τ, Inv (n + 1) τ ∧ F_L_law_1279 X r v σ = r (v + 6) τ :=
  lx_fr h (lw_result h.1 r hv)
theorem lx_1335 (h : Inv n σ) (hn : 0 ≤ n ∧ n ≤ 1000) (r : Int → zt_S → Option (Int × zt_S)) (hv : 0 ≤ v ∧ v + 6 ≤ (X.1 : Int)) : ∃ τ, Inv (n + 1) τ ∧ F_L_law_1335 X r v σ = r (v + 6) τ :=
  lx_fr h (lw_points h.1 r hv)
theorem lx_1391 (h : Inv n σ) (hn : 0 ≤ n ∧ n ≤ 1000) (r : Int → zt_S → Option (Int × zt_S)) (hv : 0 ≤ v ∧ v + 6 ≤ (X.1 : Int)) : ∃ τ, Inv (n + 1) τ ∧ F_L_law_1391 X r v σ = r (v + 6) τ :=
  lx_fr h (lw_ranking h.1 r hv)
theorem lx_1447 (h : Inv n σ) (hn : 0 ≤ n ∧ n ≤ 1000) (r : Int → zt_S → Option (Int × zt_S)) (hv : 0 ≤ v ∧ v + 6 ≤ (X.1 : Int)) : ∃ τ, Inv (n + 1) τ ∧ F_L_law_1447 X r v σ = r (v + 6) τ :=
  lx_fr h (lw_lacks h.1 r hv)
theorem lx_1522 (h : Inv n σ) (hn : 0 ≤ n ∧ n ≤ 1000) (r : Int → zt_S → Option (Int × zt_S)) (hv : 0 ≤ v ∧ v + 6 ≤ (X.1 : Int)) : ∃ τ, Inv (n + 1) τ ∧ F_L_law_1522 X r v σ = r (v + 6) τ :=
  lx_fr h (lw_could h.1 r hv)
theorem lx_1597 (h : Inv n σ) (hn : 0 ≤ n ∧ n ≤ 1000) (r : Int → zt_S → Option (Int × zt_S)) (hv : 0 ≤ v ∧ v + 6 ≤ (X.1 : Int)) : ∃ τ, Inv (n + 1) τ ∧ F_L_law_1597 X r v σ = r (v + 6) τ :=
  lx_fr h (lw_unseen h.1 r hv)
theorem lx_1653 (h : Inv n σ) (hn : 0 ≤ n ∧ n ≤ 1000) (r : Int → zt_S → Option (Int × zt_S)) (hv : 0 ≤ v ∧ v + 6 ≤ (X.1 : Int)) : ∃ τ, Inv (n + 1) τ ∧ F_L_law_1653 X r v σ = r (v + 6) τ :=
  lx_fr h (lw_isMaster h.1 r hv)
theorem lx_1716 (h : Inv n σ) (hn : 0 ≤ n ∧ n ≤ 1000) (r : Int → zt_S → Option (Int × zt_S)) (hv : 0 ≤ v ∧ v + 6 ≤ (X.1 : Int)) : ∃ τ, Inv (n + 1) τ ∧ F_L_law_1716 X r v σ = r (v + 6) τ :=
  lx_fr h (lw_masters h.1 r hv)
theorem lx_1772 (h : Inv n σ) (hn : 0 ≤ n ∧ n ≤ 1000) (r : Int → zt_S → Option (Int × zt_S)) (hv : 0 ≤ v ∧ v + 6 ≤ (X.1 : Int)) : ∃ τ, Inv (n + 1) τ ∧ F_L_law_1772 X r v σ = r (v + 6) τ :=
  lx_fr h (lw_darkIn h.1 r)
theorem lx_1785 (hq : OQ (n + 1) F_C_sure F_M_sure σ) (r : Int → zt_S → Option (Int × zt_S)) : ∃ τ, Inv (n + 1) τ ∧ F_L_law_1785 X r v σ = r (v + 6) τ := by
  unfold F_L_law_1785 F_L_law_2598
  exact oq_b hq (r (v + 6))
theorem lx_1798 (hq : OQ (n + 1) F_C_sureCard F_M_sureCard σ) (r : Int → zt_S → Option (Int × zt_S)) : ∃ τ, Inv (n + 1) τ ∧ F_L_law_1798 X r v σ = r (v + 6) τ := by
  unfold F_L_law_1798 F_L_law_2598
  exact oq_b hq (r (v + 6))
theorem lx_1811 (h : Inv n σ) (hn : 0 ≤ n ∧ n ≤ 1000) (r : Int → zt_S → Option (Int × zt_S)) (hv : 0 ≤ v ∧ v + 6 ≤ (X.1 : Int)) : ∃ τ, Inv (n + 1) τ ∧ F_L_law_1811 X r v σ = r (v + 6) τ := by
  obtain ⟨e, b, s1, s2, h1, h2, h3, h4, h5, h6⟩ := ad_meanRank h (zx_in (X := X) (v + 1))
  have ze : zt_in e := by unfold zt_in; omega
  have ht : F_M_thrown s2 = some (e, s2) := by unfold F_M_thrown; rw [h3]
  refine ⟨s2, h6, ?_⟩
  unfold F_L_law_1811 F_L_law_1885 F_L_law_2598
  rw [zt_ckI (by omega), h1, zt_bdS, zt_ckI (by omega), h2, zt_bdS, ht, zt_bdS, zt_ckI ⟨ze, ze⟩, if_pos rfl, zt_ckI ze]
  by_cases e0 : e = 0
  · rw [if_pos e0, if_pos (h5 e0)]
  · rw [if_neg e0]
theorem lx_1888 (h : Inv n σ) (hn : 0 ≤ n ∧ n ≤ 1000) (r : Int → zt_S → Option (Int × zt_S)) (hv : 0 ≤ v ∧ v + 6 ≤ (X.1 : Int)) : ∃ τ, Inv (n + 1) τ ∧ F_L_law_1888 X r v σ = r (v + 6) τ := by
  obtain ⟨e, b, s1, s2, h1, h2, h3, h4, h5, h6⟩ := as_share h (zx_in (X := X) (v + 1))
  have ze : zt_in e := by unfold zt_in; omega
  have ht : F_M_thrown s2 = some (e, s2) := by unfold F_M_thrown; rw [h3]
  refine ⟨s2, h6, ?_⟩
  unfold F_L_law_1888 F_L_law_1963 F_L_law_2598
  rw [zt_ckI (by omega), h1, zt_bdS, zt_ckI (by omega), h2, zt_bdS, ht, zt_bdS, zt_ckI ⟨ze, ze⟩, if_pos rfl, zt_ckI ze]
  by_cases e0 : e = 0
  · rw [if_pos e0, zt_ckI (h5 e0).1, if_pos (h5 e0).2]
  · rw [if_neg e0]
theorem lx_1966 (h : Inv n σ) (hn : 0 ≤ n ∧ n ≤ 1000) (r : Int → zt_S → Option (Int × zt_S)) (hv : 0 ≤ v ∧ v + 6 ≤ (X.1 : Int)) : ∃ τ, Inv (n + 1) τ ∧ F_L_law_1966 X r v σ = r (v + 6) τ := by
  unfold F_L_law_1966 F_L_law_2019 F_L_law_2598
  exact ob_1 (op_play h hn (zx_in (X := X) (v + 1))) (show 0 ≤ v + 1 ∧ v + 1 < (X.1 : Int) by omega) (r (v + 6))
theorem lx_2022 (h : Inv n σ) (hn : 0 ≤ n ∧ n ≤ 1000) (r : Int → zt_S → Option (Int × zt_S)) (hv : 0 ≤ v ∧ v + 6 ≤ (X.1 : Int)) : ∃ τ, Inv (n + 1) τ ∧ F_L_law_2022 X r v σ = r (v + 6) τ := by
  unfold F_L_law_2022 F_L_law_2075 F_L_law_2598
  exact ob_1 (op_auto h hn (zx_in (X := X) (v + 1))) (show 0 ≤ v + 1 ∧ v + 1 < (X.1 : Int) by omega) (r (v + 6))
theorem lx_2078 (h : Inv n σ) (hn : 0 ≤ n ∧ n ≤ 1000) (r : Int → zt_S → Option (Int × zt_S)) (hv : 0 ≤ v ∧ v + 6 ≤ (X.1 : Int)) : ∃ τ, Inv (n + 1) τ ∧ F_L_law_2078 X r v σ = r (v + 6) τ := by
  unfold F_L_law_2078 F_L_law_2143 F_L_law_2598
  exact ob_2 (op_tell h (zx_in (X := X) (v + 1)) (zx_in (X := X) (v + 2))) (show 0 ≤ v + 1 ∧ v + 1 < (X.1 : Int) by omega) (show 0 ≤ v + 2 ∧ v + 2 < (X.1 : Int) by omega) (r (v + 6))
theorem lx_2146 (h : Inv n σ) (hn : 0 ≤ n ∧ n ≤ 1000) (r : Int → zt_S → Option (Int × zt_S)) (hv : 0 ≤ v ∧ v + 6 ≤ (X.1 : Int)) : ∃ τ, Inv (n + 1) τ ∧ F_L_law_2146 X r v σ = r (v + 6) τ := by
  unfold F_L_law_2146 F_L_law_2199 F_L_law_2598
  exact ob_1 (op_deal h (zx_in (X := X) (v + 1))) (show 0 ≤ v + 1 ∧ v + 1 < (X.1 : Int) by omega) (r (v + 6))
theorem lx_2202 (h : Inv n σ) (hn : 0 ≤ n ∧ n ≤ 1000) (r : Int → zt_S → Option (Int × zt_S)) (hv : 0 ≤ v ∧ v + 6 ≤ (X.1 : Int)) : ∃ τ, Inv (n + 1) τ ∧ F_L_law_2202 X r v σ = r (v + 6) τ := by
  unfold F_L_law_2202 F_L_law_2255 F_L_law_2598
  exact ob_1 (op_setTrump h (zx_in (X := X) (v + 1))) (show 0 ≤ v + 1 ∧ v + 1 < (X.1 : Int) by omega) (r (v + 6))
theorem lx_2258 (h : Inv n σ) (hn : 0 ≤ n ∧ n ≤ 1000) (r : Int → zt_S → Option (Int × zt_S)) (hv : 0 ≤ v ∧ v + 6 ≤ (X.1 : Int)) : ∃ τ, Inv (n + 1) τ ∧ F_L_law_2258 X r v σ = r (v + 6) τ := by
  unfold F_L_law_2258 F_L_law_2311 F_L_law_2598
  exact ob_1 (op_setRule h (zx_in (X := X) (v + 1))) (show 0 ≤ v + 1 ∧ v + 1 < (X.1 : Int) by omega) (r (v + 6))
theorem lx_2314 (h : Inv n σ) (hn : 0 ≤ n ∧ n ≤ 1000) (r : Int → zt_S → Option (Int × zt_S)) (hv : 0 ≤ v ∧ v + 6 ≤ (X.1 : Int)) : ∃ τ, Inv (n + 1) τ ∧ F_L_law_2314 X r v σ = r (v + 6) τ := by
  unfold F_L_law_2314 F_L_law_2367 F_L_law_2598
  exact ob_1 (op_setFade h (zx_in (X := X) (v + 1))) (show 0 ≤ v + 1 ∧ v + 1 < (X.1 : Int) by omega) (r (v + 6))
theorem lx_2370 (h : Inv n σ) (hn : 0 ≤ n ∧ n ≤ 1000) (r : Int → zt_S → Option (Int × zt_S)) (hv : 0 ≤ v ∧ v + 6 ≤ (X.1 : Int)) : ∃ τ, Inv (n + 1) τ ∧ F_L_law_2370 X r v σ = r (v + 6) τ := by
  have go : ∀ x, (x = 0 ∨ x = 1) → (x = if zt_x X (v + 1) = 0 then 0 else 1) → ∃ τ, Inv (n + 1) τ ∧ F_L_law_2385 X r v x σ = r (v + 6) τ := by
    intro x hx e
    obtain ⟨y, s1, s2, h1, h2, h3, h4⟩ := oq_setRevive h hx
    refine ⟨s2, h4, ?_⟩
    unfold F_L_law_2385 F_L_law_2403 F_L_law_2598
    rw [h1, zt_bdS, zt_ckI (by omega)]
    by_cases z : zt_x X (v + 1) = 0
    · rw [if_pos z] at e
      subst e
      rw [if_pos z, h2, zt_bdS, zt_ckI ⟨h3, h3⟩, if_pos rfl]
    · rw [if_neg z] at e
      subst e
      rw [if_neg z, h2, zt_bdS, zt_ckI ⟨h3, h3⟩, if_pos rfl]
  unfold F_L_law_2370
  rw [zt_ckI (by omega)]
  by_cases z : zt_x X (v + 1) = 0
  · rw [if_pos z]
    exact go 0 (Or.inl rfl) (by rw [if_pos z])
  · rw [if_neg z]
    exact go 1 (Or.inr rfl) (by rw [if_neg z])
theorem lx_2411 (h : Inv n σ) (hn : 0 ≤ n ∧ n ≤ 1000) (r : Int → zt_S → Option (Int × zt_S)) (hv : 0 ≤ v ∧ v + 6 ≤ (X.1 : Int)) : ∃ τ, Inv (n + 1) τ ∧ F_L_law_2411 X r v σ = r (v + 6) τ := by
  unfold F_L_law_2411 F_L_law_2464 F_L_law_2598
  exact ob_1 (op_format h (zx_in (X := X) (v + 1))) (show 0 ≤ v + 1 ∧ v + 1 < (X.1 : Int) by omega) (r (v + 6))
theorem lx_2467 (h : Inv n σ) (hn : 0 ≤ n ∧ n ≤ 1000) (r : Int → zt_S → Option (Int × zt_S)) (hv : 0 ≤ v ∧ v + 6 ≤ (X.1 : Int)) : ∃ τ, Inv (n + 1) τ ∧ F_L_law_2467 X r v σ = r (v + 6) τ := by
  unfold F_L_law_2467 F_L_law_2598
  exact oq_b1 (oq_formattedByte h (zx_in (X := X) (v + 1))) (show 0 ≤ v + 1 ∧ v + 1 < (X.1 : Int) by omega) (r (v + 6))
theorem lx_2492 (h : Inv n σ) (hn : 0 ≤ n ∧ n ≤ 1000) (r : Int → zt_S → Option (Int × zt_S)) (hv : 0 ≤ v ∧ v + 6 ≤ (X.1 : Int)) : ∃ τ, Inv (n + 1) τ ∧ F_L_law_2492 X r v σ = r (v + 6) τ := by
  unfold F_L_law_2492 F_L_law_2598
  exact oq_b (oq_undoCount h) (r (v + 6))
theorem lx_2505 (h : Inv n σ) (hn : 0 ≤ n ∧ n ≤ 1000) (r : Int → zt_S → Option (Int × zt_S)) (hv : 0 ≤ v ∧ v + 6 ≤ (X.1 : Int)) : ∃ τ, Inv (n + 1) τ ∧ F_L_law_2505 X r v σ = r (v + 6) τ := by
  unfold F_L_law_2505 F_L_law_2598
  exact oq_b (oq_undo h) (r (v + 6))
theorem lx_2518 (h : Inv n σ) (hn : 0 ≤ n ∧ n ≤ 1000) (r : Int → zt_S → Option (Int × zt_S)) (hv : 0 ≤ v ∧ v + 6 ≤ (X.1 : Int)) : ∃ τ, Inv (n + 1) τ ∧ F_L_law_2518 X r v σ = r (v + 6) τ := by
  obtain ⟨s1, s2, h1, h2, h3⟩ := sv_snapshot h
  refine ⟨s2, h3, ?_⟩
  unfold F_L_law_2518 F_L_law_2598
  rw [h1, zt_bdS, h2, zt_bdS]
theorem lx_2529 (h : Inv n σ) (hn : 0 ≤ n ∧ n ≤ 1000) (r : Int → zt_S → Option (Int × zt_S)) (hv : 0 ≤ v ∧ v + 6 ≤ (X.1 : Int)) : ∃ τ, Inv (n + 1) τ ∧ F_L_law_2529 X r v σ = r (v + 6) τ := by
  unfold F_L_law_2529 F_L_law_2598
  exact oq_b (oq_restore h) (r (v + 6))
theorem lx_2542 (h : Inv n σ) (hn : 0 ≤ n ∧ n ≤ 1000) (r : Int → zt_S → Option (Int × zt_S)) (hv : 0 ≤ v ∧ v + 6 ≤ (X.1 : Int)) : ∃ τ, Inv (n + 1) τ ∧ F_L_law_2542 X r v σ = r (v + 6) τ := by
  unfold F_L_law_2542 F_L_law_2595 F_L_law_2598
  exact ob_1 (op_query h (zx_in (X := X) (v + 1))) (show 0 ≤ v + 1 ∧ v + 1 < (X.1 : Int) by omega) (r (v + 6))
/-- what the searches owe -/
def OWE (f g : zt_S → Option (Int × zt_S)) : Prop := ∀ (n : Int) (σ : zt_S), Inv n σ → 0 ≤ n → n ≤ 1000 → OQ (n + 1) f g σ
theorem law_28 (hS : OWE F_C_sure F_M_sure) (hC : OWE F_C_sureCard F_M_sureCard) (hX : (X.1 : Int) ≤ 6000) : ∀ (m f : Nat) (v n : Int) (σ : zt_S), (X.1 : Int) - v < 6 * (m : Int) → m < f → 0 ≤ v → 0 ≤ n → 6 * n ≤ v → v ≤ 6006 → Inv n σ → ∃ τ, F_L_law_28 X f v σ = some (1, τ)
  | m, 0, _, _, _, _, h1, _, _, _, _, _ => absurd h1 (Nat.not_lt_zero m)
  | m, f + 1, v, n, σ, h0, h1, h2, h3, h4, h4', h5 => by
    have xl : (0 : Int) ≤ (X.1 : Int) := Int.natCast_nonneg _
    rw [F_L_law_28, zt_ckI ⟨by unfold zt_in; omega, by unfold zt_in; omega⟩]
    by_cases he : (X.1 : Int) - 6 < v
    · rw [if_pos he]
      exact ⟨σ, rfl⟩
    · rw [if_neg he, zt_ckI (by omega)]
      have hv : 0 ≤ v ∧ v + 6 ≤ (X.1 : Int) := by omega
      have hn : 0 ≤ n ∧ n ≤ 1000 := by omega
      have go : ∀ x : Option (Int × zt_S), (∃ τ, Inv (n + 1) τ ∧ x = F_L_law_28 X f (v + 6) τ) → ∃ τ, x = some (1, τ) := by
        rintro x ⟨τ, g1, g2⟩
        rw [g2]
        cases m with
        | zero => omega
        | succ m => exact law_28 hS hC hX m f (v + 6) (n + 1) τ (by omega) (by omega) (by omega) (by omega) (by omega) (by omega) g1
      by_cases c0 : zt_and (zt_x X v) 63 = 0
      · rw [if_pos c0]
        exact go _ (lx_252 h5 hn _ hv)
      rw [if_neg c0]
      by_cases c1 : zt_and (zt_x X v) 63 = 1
      · rw [if_pos c1]
        exact go _ (lx_325 h5 hn _ hv)
      rw [if_neg c1]
      by_cases c2 : zt_and (zt_x X v) 63 = 2
      · rw [if_pos c2]
        exact go _ (lx_381 h5 hn _ hv)
      rw [if_neg c2]
      by_cases c3 : zt_and (zt_x X v) 63 = 3
      · rw [if_pos c3]
        exact go _ (lx_394 h5 hn _ hv)
      rw [if_neg c3]
      by_cases c4 : zt_and (zt_x X v) 63 = 4
      · rw [if_pos c4]
        exact go _ (lx_450 h5 hn _ hv)
      rw [if_neg c4]
      by_cases c5 : zt_and (zt_x X v) 63 = 5
      · rw [if_pos c5]
        exact go _ (lx_506 h5 hn _ hv)
      rw [if_neg c5]
      by_cases c6 : zt_and (zt_x X v) 63 = 6
      · rw [if_pos c6]
        exact go _ (lx_562 h5 hn _ hv)
      rw [if_neg c6]
      by_cases c7 : zt_and (zt_x X v) 63 = 7
      · rw [if_pos c7]
        exact go _ (lx_618 h5 hn _ hv)
      rw [if_neg c7]
      by_cases c8 : zt_and (zt_x X v) 63 = 8
      · rw [if_pos c8]
        exact go _ (lx_674 h5 hn _ hv)
      rw [if_neg c8]
      by_cases c9 : zt_and (zt_x X v) 63 = 9
      · rw [if_pos c9]
        exact go _ (lx_742 h5 hn _ hv)
      rw [if_neg c9]
      by_cases c10 : zt_and (zt_x X v) 63 = 10
      · rw [if_pos c10]
        exact go _ (lx_810 h5 hn _ hv)
      rw [if_neg c10]
      by_cases c11 : zt_and (zt_x X v) 63 = 11
      · rw [if_pos c11]
        exact go _ (lx_873 h5 hn _ hv)
      rw [if_neg c11]
      by_cases c12 : zt_and (zt_x X v) 63 = 12
      · rw [if_pos c12]
        exact go _ (lx_886 h5 hn _ hv)
      rw [if_neg c12]
      by_cases c13 : zt_and (zt_x X v) 63 = 13
      · rw [if_pos c13]
        exact go _ (lx_942 h5 hn _ hv)
      rw [if_neg c13]
      by_cases c14 : zt_and (zt_x X v) 63 = 14
      · rw [if_pos c14]
        exact go _ (lx_955 h5 hn _ hv)
      rw [if_neg c14]
      by_cases c15 : zt_and (zt_x X v) 63 = 15
      · rw [if_pos c15]
        exact go _ (lx_968 h5 hn _ hv)
      rw [if_neg c15]
      by_cases c16 : zt_and (zt_x X v) 63 = 16
      · rw [if_pos c16]
        exact go _ (lx_1031 h5 hn _ hv)
      rw [if_neg c16]
      by_cases c17 : zt_and (zt_x X v) 63 = 17
      · rw [if_pos c17]
        exact go _ (lx_1099 h5 hn _ hv)
      rw [if_neg c17]
      by_cases c18 : zt_and (zt_x X v) 63 = 18
      · rw [if_pos c18]
        exact go _ (lx_1167 h5 hn _ hv)
      rw [if_neg c18]
      by_cases c19 : zt_and (zt_x X v) 63 = 19
      · rw [if_pos c19]
        exact go _ (lx_1223 h5 hn _ hv)
      rw [if_neg c19]
      by_cases c20 : zt_and (zt_x X v) 63 = 20
      · rw [if_pos c20]
        exact go _ (lx_1279 h5 hn _ hv)
      rw [if_neg c20]
      by_cases c21 : zt_and (zt_x X v) 63 = 21
      · rw [if_pos c21]
        exact go _ (lx_1335 h5 hn _ hv)
      rw [if_neg c21]
      by_cases c22 : zt_and (zt_x X v) 63 = 22
      · rw [if_pos c22]
        exact go _ (lx_1391 h5 hn _ hv)
      rw [if_neg c22]
      by_cases c23 : zt_and (zt_x X v) 63 = 23
      · rw [if_pos c23]
        exact go _ (lx_1447 h5 hn _ hv)
      rw [if_neg c23]
      by_cases c24 : zt_and (zt_x X v) 63 = 24
      · rw [if_pos c24]
        exact go _ (lx_1522 h5 hn _ hv)
      rw [if_neg c24]
      by_cases c25 : zt_and (zt_x X v) 63 = 25
      · rw [if_pos c25]
        exact go _ (lx_1597 h5 hn _ hv)
      rw [if_neg c25]
      by_cases c26 : zt_and (zt_x X v) 63 = 26
      · rw [if_pos c26]
        exact go _ (lx_1653 h5 hn _ hv)
      rw [if_neg c26]
      by_cases c27 : zt_and (zt_x X v) 63 = 27
      · rw [if_pos c27]
        exact go _ (lx_1716 h5 hn _ hv)
      rw [if_neg c27]
      by_cases c28 : zt_and (zt_x X v) 63 = 28
      · rw [if_pos c28]
        exact go _ (lx_1772 h5 hn _ hv)
      rw [if_neg c28]
      by_cases c29 : zt_and (zt_x X v) 63 = 29
      · rw [if_pos c29]
        exact go _ (lx_1785 (hS n σ h5 hn.1 hn.2) _)
      rw [if_neg c29]
      by_cases c30 : zt_and (zt_x X v) 63 = 30
      · rw [if_pos c30]
        exact go _ (lx_1798 (hC n σ h5 hn.1 hn.2) _)
      rw [if_neg c30]
      by_cases c31 : zt_and (zt_x X v) 63 = 31
      · rw [if_pos c31]
        exact go _ (lx_1811 h5 hn _ hv)
      rw [if_neg c31]
      by_cases c32 : zt_and (zt_x X v) 63 = 32
      · rw [if_pos c32]
        exact go _ (lx_1888 h5 hn _ hv)
      rw [if_neg c32]
      by_cases c33 : zt_and (zt_x X v) 63 = 33
      · rw [if_pos c33]
        exact go _ (lx_1966 h5 hn _ hv)
      rw [if_neg c33]
      by_cases c34 : zt_and (zt_x X v) 63 = 34
      · rw [if_pos c34]
        exact go _ (lx_2022 h5 hn _ hv)
      rw [if_neg c34]
      by_cases c35 : zt_and (zt_x X v) 63 = 35
      · rw [if_pos c35]
        exact go _ (lx_2078 h5 hn _ hv)
      rw [if_neg c35]
      by_cases c36 : zt_and (zt_x X v) 63 = 36
      · rw [if_pos c36]
        exact go _ (lx_2146 h5 hn _ hv)
      rw [if_neg c36]
      by_cases c37 : zt_and (zt_x X v) 63 = 37
      · rw [if_pos c37]
        exact go _ (lx_2202 h5 hn _ hv)
      rw [if_neg c37]
      by_cases c38 : zt_and (zt_x X v) 63 = 38
      · rw [if_pos c38]
        exact go _ (lx_2258 h5 hn _ hv)
      rw [if_neg c38]
      by_cases c39 : zt_and (zt_x X v) 63 = 39
      · rw [if_pos c39]
        exact go _ (lx_2314 h5 hn _ hv)
      rw [if_neg c39]
      by_cases c40 : zt_and (zt_x X v) 63 = 40
      · rw [if_pos c40]
        exact go _ (lx_2370 h5 hn _ hv)
      rw [if_neg c40]
      by_cases c41 : zt_and (zt_x X v) 63 = 41
      · rw [if_pos c41]
        exact go _ (lx_2411 h5 hn _ hv)
      rw [if_neg c41]
      by_cases c42 : zt_and (zt_x X v) 63 = 42
      · rw [if_pos c42]
        exact go _ (lx_2467 h5 hn _ hv)
      rw [if_neg c42]
      by_cases c43 : zt_and (zt_x X v) 63 = 43
      · rw [if_pos c43]
        exact go _ (lx_2492 h5 hn _ hv)
      rw [if_neg c43]
      by_cases c44 : zt_and (zt_x X v) 63 = 44
      · rw [if_pos c44]
        exact go _ (lx_2505 h5 hn _ hv)
      rw [if_neg c44]
      by_cases c45 : zt_and (zt_x X v) 63 = 45
      · rw [if_pos c45]
        exact go _ (lx_2518 h5 hn _ hv)
      rw [if_neg c45]
      by_cases c46 : zt_and (zt_x X v) 63 = 46
      · rw [if_pos c46]
        exact go _ (lx_2529 h5 hn _ hv)
      rw [if_neg c46]
      by_cases c47 : zt_and (zt_x X v) 63 = 47
      · rw [if_pos c47]
        exact go _ (lx_2542 h5 hn _ hv)
      rw [if_neg c47]
      exact go _ ⟨σ, h5.q (fun _ _ _ => rfl) (fun _ _ _ => rfl) (Nat.le_succ _), rfl⟩
end LX
