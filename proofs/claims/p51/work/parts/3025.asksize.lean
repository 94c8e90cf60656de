/-! THE NUMBERS of the deal, and questions about a player and a suit -/
section QS
variable {σ : zt_S}
theorem eb_in0 {β : Type} {a c : Int} {C : Int64} (hC : C = zt_l c) (ha : zt_in a) (hc : zt_in c) (h : 0 ≤ a ∧ a ≤ c) {K : Int → zt_S → Option β} : zt_bd (F_M_in (zt_l a) 0 C σ) K = K 1 σ := by
  rw [hC, zl_0, em_in ha zt_in0 hc, if_pos h]; rfl
theorem eb_out0 {β : Type} {a c : Int} {C : Int64} (hC : C = zt_l c) (ha : zt_in a) (hc : zt_in c) (h : ¬ (0 ≤ a ∧ a ≤ c)) {K : Int → zt_S → Option β} : zt_bd (F_M_in (zt_l a) 0 C σ) K = K 0 σ := by
  rw [hC, zl_0, em_in ha zt_in0 hc, if_neg h]; rfl
theorem el_size0 (h : CO σ) : F_L_size 0 σ = some (0, zt_uL σ 184 0 (zt_l (σ.1 164 0))) := by
  have a := h.1.n
  unfold F_L_size F_C_size
  have e : σ.1 3 0 = σ.1 164 0 := h.2.2.1
  simp (disch := first | omega | (unfold zt_in; omega)) only [↓zt_ckI, ↓if_pos, ↓if_neg, if_true, if_false, zt_letS, zt_ckI, if_pos, if_neg, up_s, up_o, up_2, e, zt_bxS]
theorem em_size0 {τ : zt_S} (h : RI (τ.1 164)) : F_M_size 0 τ = some (τ.1 164 0, zt_up τ 163 0 0) := by
  have e : (zt_up τ 163 0 0).1 164 = τ.1 164 := up_f (by decide)
  have g : RI ((zt_up τ 163 0 0).1 164) := by rw [e]; exact h
  have z : (zt_up τ 163 0 0).1 163 0 = 0 := up_s _ _ _ _
  unfold F_M_size
  rw [zt_letS, eb_in0 zl_13 (by decide) (by decide) (by decide), eb_fails1 z, zt_ckI zt_in0, if_pos rfl, zt_ckI (show zt_in 0 by decide)]
  rw [if_pos rfl]
  rw [e]
theorem el_size1 (h : CO σ) : F_L_size 1 σ = some (0, zt_uL σ 184 0 (zt_l (σ.1 164 1))) := by
  have a := h.1.n
  unfold F_L_size F_C_size
  have e : σ.1 3 1 = σ.1 164 1 := h.2.2.2.1
  simp (disch := first | omega | (unfold zt_in; omega)) only [↓zt_ckI, ↓if_pos, ↓if_neg, if_true, if_false, zt_letS, zt_ckI, if_pos, if_neg, up_s, up_o, up_2, e, zt_bxS]
theorem em_size1 {τ : zt_S} (h : RI (τ.1 164)) : F_M_size 1 τ = some (τ.1 164 1, zt_up τ 163 0 0) := by
  have e : (zt_up τ 163 0 0).1 164 = τ.1 164 := up_f (by decide)
  have g : RI ((zt_up τ 163 0 0).1 164) := by rw [e]; exact h
  have z : (zt_up τ 163 0 0).1 163 0 = 0 := up_s _ _ _ _
  unfold F_M_size
  rw [zt_letS, eb_in0 zl_13 (by decide) (by decide) (by decide), eb_fails1 z, zt_ckI zt_in0, if_pos rfl, zt_ckI (show zt_in 1 by decide)]
  rw [if_neg (show ¬ (1 : Int) = 0 by decide)]
  rw [if_pos rfl]
  rw [e]
theorem el_size2 (h : CO σ) : F_L_size 2 σ = some (0, zt_uL σ 184 0 (zt_l (σ.1 164 2))) := by
  have a := h.1.n
  unfold F_L_size F_C_size
  have e : σ.1 3 2 = σ.1 164 2 := h.2.2.2.2.1
  simp (disch := first | omega | (unfold zt_in; omega)) only [↓zt_ckI, ↓if_pos, ↓if_neg, if_true, if_false, zt_letS, zt_ckI, if_pos, if_neg, up_s, up_o, up_2, e, zt_bxS]
theorem em_size2 {τ : zt_S} (h : RI (τ.1 164)) : F_M_size 2 τ = some (τ.1 164 2, zt_up τ 163 0 0) := by
  have e : (zt_up τ 163 0 0).1 164 = τ.1 164 := up_f (by decide)
  have g : RI ((zt_up τ 163 0 0).1 164) := by rw [e]; exact h
  have z : (zt_up τ 163 0 0).1 163 0 = 0 := up_s _ _ _ _
  unfold F_M_size
  rw [zt_letS, eb_in0 zl_13 (by decide) (by decide) (by decide), eb_fails1 z, zt_ckI zt_in0, if_pos rfl, zt_ckI (show zt_in 2 by decide)]
  rw [if_neg (show ¬ (2 : Int) = 0 by decide)]
  rw [if_neg (show ¬ (2 : Int) = 1 by decide)]
  rw [if_pos rfl]
  rw [e]
theorem el_size3 (h : CO σ) : F_L_size 3 σ = some (0, zt_uL σ 184 0 (zt_l (σ.1 164 3))) := by
  have a := h.1.n
  unfold F_L_size F_C_size
  have e : σ.1 6 11 = σ.1 164 3 := h.2.1.2.2.2.2.2.2.1
  simp (disch := first | omega | (unfold zt_in; omega)) only [↓zt_ckI, ↓if_pos, ↓if_neg, if_true, if_false, zt_letS, zt_ckI, if_pos, if_neg, up_s, up_o, up_2, e, zt_bxS]
theorem em_size3 {τ : zt_S} (h : RI (τ.1 164)) : F_M_size 3 τ = some (τ.1 164 3, zt_up τ 163 0 0) := by
  have e : (zt_up τ 163 0 0).1 164 = τ.1 164 := up_f (by decide)
  have g : RI ((zt_up τ 163 0 0).1 164) := by rw [e]; exact h
  have z : (zt_up τ 163 0 0).1 163 0 = 0 := up_s _ _ _ _
  unfold F_M_size
  rw [zt_letS, eb_in0 zl_13 (by decide) (by decide) (by decide), eb_fails1 z, zt_ckI zt_in0, if_pos rfl, zt_ckI (show zt_in 3 by decide)]
  rw [if_neg (show ¬ (3 : Int) = 0 by decide)]
  rw [if_neg (show ¬ (3 : Int) = 1 by decide)]
  rw [if_neg (show ¬ (3 : Int) = 2 by decide)]
  rw [if_pos rfl]
  rw [e]
theorem el_size4 (h : CO σ) : F_L_size 4 σ = some (0, zt_uL σ 184 0 (zt_l (σ.1 164 10))) := by
  have a := h.1.n
  unfold F_L_size F_C_size
  have e : σ.1 7 7 = σ.1 164 10 := h.2.1.1.2.2.1
  simp (disch := first | omega | (unfold zt_in; omega)) only [↓zt_ckI, ↓if_pos, ↓if_neg, if_true, if_false, zt_letS, zt_ckI, if_pos, if_neg, up_s, up_o, up_2, e, zt_bxS]
theorem em_size4 {τ : zt_S} (h : RI (τ.1 164)) : F_M_size 4 τ = some (τ.1 164 10, zt_up τ 163 0 0) := by
  have e : (zt_up τ 163 0 0).1 164 = τ.1 164 := up_f (by decide)
  have g : RI ((zt_up τ 163 0 0).1 164) := by rw [e]; exact h
  have z : (zt_up τ 163 0 0).1 163 0 = 0 := up_s _ _ _ _
  unfold F_M_size
  rw [zt_letS, eb_in0 zl_13 (by decide) (by decide) (by decide), eb_fails1 z, zt_ckI zt_in0, if_pos rfl, zt_ckI (show zt_in 4 by decide)]
  rw [if_neg (show ¬ (4 : Int) = 0 by decide)]
  rw [if_neg (show ¬ (4 : Int) = 1 by decide)]
  rw [if_neg (show ¬ (4 : Int) = 2 by decide)]
  rw [if_neg (show ¬ (4 : Int) = 3 by decide)]
  rw [if_pos rfl]
  rw [e]
theorem el_size5 (h : CO σ) : F_L_size 5 σ = some (0, zt_uL σ 184 0 (zt_l (σ.1 164 11))) := by
  have a := h.1.n
  unfold F_L_size F_C_size
  have e : σ.1 7 8 = σ.1 164 11 := h.2.1.1.2.2.2
  simp (disch := first | omega | (unfold zt_in; omega)) only [↓zt_ckI, ↓if_pos, ↓if_neg, if_true, if_false, zt_letS, zt_ckI, if_pos, if_neg, up_s, up_o, up_2, e, zt_bxS]
theorem em_size5 {τ : zt_S} (h : RI (τ.1 164)) : F_M_size 5 τ = some (τ.1 164 11, zt_up τ 163 0 0) := by
  have e : (zt_up τ 163 0 0).1 164 = τ.1 164 := up_f (by decide)
  have g : RI ((zt_up τ 163 0 0).1 164) := by rw [e]; exact h
  have z : (zt_up τ 163 0 0).1 163 0 = 0 := up_s _ _ _ _
  unfold F_M_size
  rw [zt_letS, eb_in0 zl_13 (by decide) (by decide) (by decide), eb_fails1 z, zt_ckI zt_in0, if_pos rfl, zt_ckI (show zt_in 5 by decide)]
  rw [if_neg (show ¬ (5 : Int) = 0 by decide)]
  rw [if_neg (show ¬ (5 : Int) = 1 by decide)]
  rw [if_neg (show ¬ (5 : Int) = 2 by decide)]
  rw [if_neg (show ¬ (5 : Int) = 3 by decide)]
  rw [if_neg (show ¬ (5 : Int) = 4 by decide)]
  rw [if_pos rfl]
  rw [e]
theorem el_size6 (h : CO σ) : F_L_size 6 σ = some (0, zt_uL σ 184 0 (zt_l (σ.1 164 5))) := by
  have a := h.1.n
  unfold F_L_size F_C_size
  have e : σ.1 3 3 = σ.1 164 5 := h.2.2.2.2.2
  simp (disch := first | omega | (unfold zt_in; omega)) only [↓zt_ckI, ↓if_pos, ↓if_neg, if_true, if_false, zt_letS, zt_ckI, if_pos, if_neg, up_s, up_o, up_2, e, zt_bxS]
theorem em_size6 {τ : zt_S} (h : RI (τ.1 164)) : F_M_size 6 τ = some (τ.1 164 5, zt_up τ 163 0 0) := by
  have e : (zt_up τ 163 0 0).1 164 = τ.1 164 := up_f (by decide)
  have g : RI ((zt_up τ 163 0 0).1 164) := by rw [e]; exact h
  have z : (zt_up τ 163 0 0).1 163 0 = 0 := up_s _ _ _ _
  unfold F_M_size
  rw [zt_letS, eb_in0 zl_13 (by decide) (by decide) (by decide), eb_fails1 z, zt_ckI zt_in0, if_pos rfl, zt_ckI (show zt_in 6 by decide)]
  rw [if_neg (show ¬ (6 : Int) = 0 by decide)]
  rw [if_neg (show ¬ (6 : Int) = 1 by decide)]
  rw [if_neg (show ¬ (6 : Int) = 2 by decide)]
  rw [if_neg (show ¬ (6 : Int) = 3 by decide)]
  rw [if_neg (show ¬ (6 : Int) = 4 by decide)]
  rw [if_neg (show ¬ (6 : Int) = 5 by decide)]
  rw [if_pos rfl]
  rw [e]
theorem el_size7 (h : CO σ) : F_L_size 7 σ = some (0, zt_uL σ 184 0 (zt_l (σ.1 164 6))) := by
  have a := h.1.n
  unfold F_L_size F_C_size
  have e : σ.1 6 12 = σ.1 164 6 := h.2.1.2.2.2.2.2.2.2.1
  simp (disch := first | omega | (unfold zt_in; omega)) only [↓zt_ckI, ↓if_pos, ↓if_neg, if_true, if_false, zt_letS, zt_ckI, if_pos, if_neg, up_s, up_o, up_2, e, zt_bxS]
theorem em_size7 {τ : zt_S} (h : RI (τ.1 164)) : F_M_size 7 τ = some (τ.1 164 6, zt_up τ 163 0 0) := by
  have e : (zt_up τ 163 0 0).1 164 = τ.1 164 := up_f (by decide)
  have g : RI ((zt_up τ 163 0 0).1 164) := by rw [e]; exact h
  have z : (zt_up τ 163 0 0).1 163 0 = 0 := up_s _ _ _ _
  unfold F_M_size
  rw [zt_letS, eb_in0 zl_13 (by decide) (by decide) (by decide), eb_fails1 z, zt_ckI zt_in0, if_pos rfl, zt_ckI (show zt_in 7 by decide)]
  rw [if_neg (show ¬ (7 : Int) = 0 by decide)]
  rw [if_neg (show ¬ (7 : Int) = 1 by decide)]
  rw [if_neg (show ¬ (7 : Int) = 2 by decide)]
  rw [if_neg (show ¬ (7 : Int) = 3 by decide)]
  rw [if_neg (show ¬ (7 : Int) = 4 by decide)]
  rw [if_neg (show ¬ (7 : Int) = 5 by decide)]
  rw [if_neg (show ¬ (7 : Int) = 6 by decide)]
  rw [if_pos rfl]
  rw [e]
theorem el_size8 (h : CO σ) : F_L_size 8 σ = some (0, zt_uL σ 184 0 (zt_l (σ.1 164 7))) := by
  have a := h.1.n
  unfold F_L_size F_C_size F_C_size_157
  have e : σ.1 6 13 = σ.1 164 7 := h.2.1.2.2.2.2.2.2.2.2.1
  by_cases h1 : σ.1 164 7 = 0
  · simp (disch := first | omega | (unfold zt_in; omega)) only [↓zt_ckI, ↓if_pos, ↓if_neg, if_true, if_false, zt_letS, zt_ckI, if_pos, if_neg, up_s, up_o, up_2, e, h1, zt_bxS]
  · have h2 : σ.1 164 7 = 1 := by omega
    simp (disch := first | omega | (unfold zt_in; omega)) only [↓zt_ckI, ↓if_pos, ↓if_neg, if_true, if_false, zt_letS, zt_ckI, if_pos, if_neg, up_s, up_o, up_2, e, h2, zt_bxS]
theorem em_size8 {τ : zt_S} (h : RI (τ.1 164)) : F_M_size 8 τ = some (τ.1 164 7, zt_up τ 163 0 0) := by
  have e : (zt_up τ 163 0 0).1 164 = τ.1 164 := up_f (by decide)
  have g : RI ((zt_up τ 163 0 0).1 164) := by rw [e]; exact h
  have z : (zt_up τ 163 0 0).1 163 0 = 0 := up_s _ _ _ _
  unfold F_M_size
  rw [zt_letS, eb_in0 zl_13 (by decide) (by decide) (by decide), eb_fails1 z, zt_ckI zt_in0, if_pos rfl, zt_ckI (show zt_in 8 by decide)]
  rw [if_neg (show ¬ (8 : Int) = 0 by decide)]
  rw [if_neg (show ¬ (8 : Int) = 1 by decide)]
  rw [if_neg (show ¬ (8 : Int) = 2 by decide)]
  rw [if_neg (show ¬ (8 : Int) = 3 by decide)]
  rw [if_neg (show ¬ (8 : Int) = 4 by decide)]
  rw [if_neg (show ¬ (8 : Int) = 5 by decide)]
  rw [if_neg (show ¬ (8 : Int) = 6 by decide)]
  rw [if_neg (show ¬ (8 : Int) = 7 by decide)]
  rw [if_pos rfl]
  rw [e]
theorem el_size9 (h : CO σ) : F_L_size 9 σ = some (0, zt_uL σ 184 0 (zt_l (wTn (σ.1 164)))) := by
  have a := h.1.n
  unfold F_L_size F_C_size F_C_size_182
  have e : σ.1 7 1 = (σ.1 164 9 + wPl (σ.1 164)) % σ.1 164 1 := h.2.1.1.1.2.1
  by_cases h1 : wOv (σ.1 164) = true
  · unfold wTn
    simp (disch := first | omega | (unfold zt_in; omega)) only [↓zt_ckI, ↓if_pos, ↓if_neg, if_true, if_false, zt_letS, zt_ckI, if_pos, if_neg, up_s, up_o, up_2, ↓ed_isOver_t h.hu h.1 h.2.1 h1, h1, zt_bxS]
  · unfold wTn
    simp (disch := first | omega | (unfold zt_in; omega)) only [↓zt_ckI, ↓if_pos, ↓if_neg, if_true, if_false, zt_letS, zt_ckI, if_pos, if_neg, up_s, up_o, up_2, ↓ed_isOver_f h.hu h.1 h.2.1 h1, h1, zt_bxS, e]
theorem em_size9 {τ : zt_S} (h : RI (τ.1 164)) : F_M_size 9 τ = some (wTn (τ.1 164), zt_up τ 163 0 0) := by
  have e : (zt_up τ 163 0 0).1 164 = τ.1 164 := up_f (by decide)
  have g : RI ((zt_up τ 163 0 0).1 164) := by rw [e]; exact h
  have z : (zt_up τ 163 0 0).1 163 0 = 0 := up_s _ _ _ _
  unfold F_M_size
  rw [zt_letS, eb_in0 zl_13 (by decide) (by decide) (by decide), eb_fails1 z, zt_ckI zt_in0, if_pos rfl, zt_ckI (show zt_in 9 by decide)]
  rw [if_neg (show ¬ (9 : Int) = 0 by decide)]
  rw [if_neg (show ¬ (9 : Int) = 1 by decide)]
  rw [if_neg (show ¬ (9 : Int) = 2 by decide)]
  rw [if_neg (show ¬ (9 : Int) = 3 by decide)]
  rw [if_neg (show ¬ (9 : Int) = 4 by decide)]
  rw [if_neg (show ¬ (9 : Int) = 5 by decide)]
  rw [if_neg (show ¬ (9 : Int) = 6 by decide)]
  rw [if_neg (show ¬ (9 : Int) = 7 by decide)]
  rw [if_neg (show ¬ (9 : Int) = 8 by decide)]
  rw [if_pos rfl]
  rw [eb_turn g, e]
theorem el_size10 (h : CO σ) : F_L_size 10 σ = some (0, zt_uL σ 184 0 (zt_l (σ.1 164 9))) := by
  have a := h.1.n
  unfold F_L_size F_C_size
  have e : σ.1 7 0 = σ.1 164 9 := h.2.1.1.1.1
  simp (disch := first | omega | (unfold zt_in; omega)) only [↓zt_ckI, ↓if_pos, ↓if_neg, if_true, if_false, zt_letS, zt_ckI, if_pos, if_neg, up_s, up_o, up_2, e, zt_bxS]
theorem em_size10 {τ : zt_S} (h : RI (τ.1 164)) : F_M_size 10 τ = some (τ.1 164 9, zt_up τ 163 0 0) := by
  have e : (zt_up τ 163 0 0).1 164 = τ.1 164 := up_f (by decide)
  have g : RI ((zt_up τ 163 0 0).1 164) := by rw [e]; exact h
  have z : (zt_up τ 163 0 0).1 163 0 = 0 := up_s _ _ _ _
  unfold F_M_size
  rw [zt_letS, eb_in0 zl_13 (by decide) (by decide) (by decide), eb_fails1 z, zt_ckI zt_in0, if_pos rfl, zt_ckI (show zt_in 10 by decide)]
  rw [if_neg (show ¬ (10 : Int) = 0 by decide)]
  rw [if_neg (show ¬ (10 : Int) = 1 by decide)]
  rw [if_neg (show ¬ (10 : Int) = 2 by decide)]
  rw [if_neg (show ¬ (10 : Int) = 3 by decide)]
  rw [if_neg (show ¬ (10 : Int) = 4 by decide)]
  rw [if_neg (show ¬ (10 : Int) = 5 by decide)]
  rw [if_neg (show ¬ (10 : Int) = 6 by decide)]
  rw [if_neg (show ¬ (10 : Int) = 7 by decide)]
  rw [if_neg (show ¬ (10 : Int) = 8 by decide)]
  rw [if_neg (show ¬ (10 : Int) = 9 by decide)]
  rw [if_pos rfl]
  rw [e]
theorem el_size11 (h : CO σ) : F_L_size 11 σ = some (0, zt_uL σ 184 0 (zt_l (σ.1 164 13))) := by
  have a := h.1.n
  unfold F_L_size F_C_size
  have e : σ.1 6 17 = σ.1 164 13 := h.2.1.2.2.2.2.2.2.2.2.2.2.2.2.1
  simp (disch := first | omega | (unfold zt_in; omega)) only [↓zt_ckI, ↓if_pos, ↓if_neg, if_true, if_false, zt_letS, zt_ckI, if_pos, if_neg, up_s, up_o, up_2, e, zt_bxS]
theorem em_size11 {τ : zt_S} (h : RI (τ.1 164)) : F_M_size 11 τ = some (τ.1 164 13, zt_up τ 163 0 0) := by
  have e : (zt_up τ 163 0 0).1 164 = τ.1 164 := up_f (by decide)
  have g : RI ((zt_up τ 163 0 0).1 164) := by rw [e]; exact h
  have z : (zt_up τ 163 0 0).1 163 0 = 0 := up_s _ _ _ _
  unfold F_M_size
  rw [zt_letS, eb_in0 zl_13 (by decide) (by decide) (by decide), eb_fails1 z, zt_ckI zt_in0, if_pos rfl, zt_ckI (show zt_in 11 by decide)]
  rw [if_neg (show ¬ (11 : Int) = 0 by decide)]
  rw [if_neg (show ¬ (11 : Int) = 1 by decide)]
  rw [if_neg (show ¬ (11 : Int) = 2 by decide)]
  rw [if_neg (show ¬ (11 : Int) = 3 by decide)]
  rw [if_neg (show ¬ (11 : Int) = 4 by decide)]
  rw [if_neg (show ¬ (11 : Int) = 5 by decide)]
  rw [if_neg (show ¬ (11 : Int) = 6 by decide)]
  rw [if_neg (show ¬ (11 : Int) = 7 by decide)]
  rw [if_neg (show ¬ (11 : Int) = 8 by decide)]
  rw [if_neg (show ¬ (11 : Int) = 9 by decide)]
  rw [if_neg (show ¬ (11 : Int) = 10 by decide)]
  rw [if_pos rfl]
  rw [e]
theorem el_size12 (h : CO σ) : F_L_size 12 σ = some (0, zt_uL σ 184 0 (zt_l (σ.1 164 12))) := by
  have a := h.1.n
  unfold F_L_size F_C_size
  have e : σ.1 6 16 = σ.1 164 12 := h.2.1.2.2.2.2.2.2.2.2.2.2.2.1
  simp (disch := first | omega | (unfold zt_in; omega)) only [↓zt_ckI, ↓if_pos, ↓if_neg, if_true, if_false, zt_letS, zt_ckI, if_pos, if_neg, up_s, up_o, up_2, e, zt_bxS]
theorem em_size12 {τ : zt_S} (h : RI (τ.1 164)) : F_M_size 12 τ = some (τ.1 164 12, zt_up τ 163 0 0) := by
  have e : (zt_up τ 163 0 0).1 164 = τ.1 164 := up_f (by decide)
  have g : RI ((zt_up τ 163 0 0).1 164) := by rw [e]; exact h
  have z : (zt_up τ 163 0 0).1 163 0 = 0 := up_s _ _ _ _
  unfold F_M_size
  rw [zt_letS, eb_in0 zl_13 (by decide) (by decide) (by decide), eb_fails1 z, zt_ckI zt_in0, if_pos rfl, zt_ckI (show zt_in 12 by decide)]
  rw [if_neg (show ¬ (12 : Int) = 0 by decide)]
  rw [if_neg (show ¬ (12 : Int) = 1 by decide)]
  rw [if_neg (show ¬ (12 : Int) = 2 by decide)]
  rw [if_neg (show ¬ (12 : Int) = 3 by decide)]
  rw [if_neg (show ¬ (12 : Int) = 4 by decide)]
  rw [if_neg (show ¬ (12 : Int) = 5 by decide)]
  rw [if_neg (show ¬ (12 : Int) = 6 by decide)]
  rw [if_neg (show ¬ (12 : Int) = 7 by decide)]
  rw [if_neg (show ¬ (12 : Int) = 8 by decide)]
  rw [if_neg (show ¬ (12 : Int) = 9 by decide)]
  rw [if_neg (show ¬ (12 : Int) = 10 by decide)]
  rw [if_neg (show ¬ (12 : Int) = 11 by decide)]
  rw [if_pos rfl]
  rw [e]
theorem el_size13 (h : CO σ) : F_L_size 13 σ = some (0, zt_uL σ 184 0 (zt_l (σ.1 164 14))) := by
  have a := h.1.n
  unfold F_L_size F_C_size
  have e : σ.1 6 18 = σ.1 164 14 := h.2.1.2.2.2.2.2.2.2.2.2.2.2.2.2
  simp (disch := first | omega | (unfold zt_in; omega)) only [↓zt_ckI, ↓if_pos, ↓if_neg, if_true, if_false, zt_letS, zt_ckI, if_pos, if_neg, up_s, up_o, up_2, e, zt_bxS]
theorem em_size13 {τ : zt_S} (h : RI (τ.1 164)) : F_M_size 13 τ = some (τ.1 164 14, zt_up τ 163 0 0) := by
  have e : (zt_up τ 163 0 0).1 164 = τ.1 164 := up_f (by decide)
  have g : RI ((zt_up τ 163 0 0).1 164) := by rw [e]; exact h
  have z : (zt_up τ 163 0 0).1 163 0 = 0 := up_s _ _ _ _
  unfold F_M_size
  rw [zt_letS, eb_in0 zl_13 (by decide) (by decide) (by decide), eb_fails1 z, zt_ckI zt_in0, if_pos rfl, zt_ckI (show zt_in 13 by decide)]
  rw [if_neg (show ¬ (13 : Int) = 0 by decide)]
  rw [if_neg (show ¬ (13 : Int) = 1 by decide)]
  rw [if_neg (show ¬ (13 : Int) = 2 by decide)]
  rw [if_neg (show ¬ (13 : Int) = 3 by decide)]
  rw [if_neg (show ¬ (13 : Int) = 4 by decide)]
  rw [if_neg (show ¬ (13 : Int) = 5 by decide)]
  rw [if_neg (show ¬ (13 : Int) = 6 by decide)]
  rw [if_neg (show ¬ (13 : Int) = 7 by decide)]
  rw [if_neg (show ¬ (13 : Int) = 8 by decide)]
  rw [if_neg (show ¬ (13 : Int) = 9 by decide)]
  rw [if_neg (show ¬ (13 : Int) = 10 by decide)]
  rw [if_neg (show ¬ (13 : Int) = 11 by decide)]
  rw [if_neg (show ¬ (13 : Int) = 12 by decide)]
  rw [e]
theorem el_size_no {v : Int} (hi : zt_in v) (hv : ¬ (0 ≤ v ∧ v ≤ 13)) : F_L_size v σ = some (1, zt_nx σ) := by
  unfold F_L_size F_C_size
  simp (disch := first | omega | (unfold zt_in; omega)) only [↓zt_ckI, ↓if_pos, ↓if_neg, if_true, if_false, zt_letS, zt_ckI, if_pos, if_neg, up_s, up_o, up_2, zt_bxR]
theorem em_size_no {τ : zt_S} {v : Int} (hi : zt_in v) (hv : ¬ (0 ≤ v ∧ v ≤ 13)) : F_M_size v τ = some (0, zt_up τ 163 0 1) := by
  have z : (zt_up τ 163 0 0).1 163 0 = 0 := up_s _ _ _ _
  unfold F_M_size
  rw [zt_letS, eb_out0 zl_13 hi (by decide) hv, eb_fails0 (Or.inl rfl) z, zt_ckI (show zt_in 1 by decide), if_neg (by decide), up_up]
theorem ak_size {v : Int} (h : CO σ) (hi : zt_in v) : AK (F_L_size v) (F_M_size v) σ := by
  by_cases hv : 0 ≤ v ∧ v ≤ 13
  · have hv2 : v = 0 ∨ v = 1 ∨ v = 2 ∨ v = 3 ∨ v = 4 ∨ v = 5 ∨ v = 6 ∨ v = 7 ∨ v = 8 ∨ v = 9 ∨ v = 10 ∨ v = 11 ∨ v = 12 ∨ v = 13 := by omega
    rcases hv2 with rfl | rfl | rfl | rfl | rfl | rfl | rfl | rfl | rfl | rfl | rfl | rfl | rfl | rfl
    · exact ak_ok (el_size0 h) (em_size0 h.1)
    · exact ak_ok (el_size1 h) (em_size1 h.1)
    · exact ak_ok (el_size2 h) (em_size2 h.1)
    · exact ak_ok (el_size3 h) (em_size3 h.1)
    · exact ak_ok (el_size4 h) (em_size4 h.1)
    · exact ak_ok (el_size5 h) (em_size5 h.1)
    · exact ak_ok (el_size6 h) (em_size6 h.1)
    · exact ak_ok (el_size7 h) (em_size7 h.1)
    · exact ak_ok (el_size8 h) (em_size8 h.1)
    · exact ak_ok (el_size9 h) (em_size9 h.1)
    · exact ak_ok (el_size10 h) (em_size10 h.1)
    · exact ak_ok (el_size11 h) (em_size11 h.1)
    · exact ak_ok (el_size12 h) (em_size12 h.1)
    · exact ak_ok (el_size13 h) (em_size13 h.1)
  · exact ak_no (el_size_no hi hv) (em_size_no hi hv)
end QS
