/-! the mini-machine does what the functions say (by program) -/
section TT
variable {T : zt_T}
theorem S_Su_cardCount {X : q_X} {t0 : Nat} (ht0 : t0 ∈ zt_sets)  {σ : zt_S} {o : (Int × zt_S)} (h : F_Su_cardCount t0  σ = some o) : zt_Ex X 0 30 0 (lv_args 0 [.ref t0]) [] (zt_M T σ) (zo_I T o) := by
  unfold F_Su_cardCount at h
  refine zt_iconst zy_30 (show q_ins q_k30 0 = some (.iconst 4, 0, 0) from rfl) ?_
  refine zt_aload_n zy_30 (show q_ins q_k30 1 = some (.aload_n 0, 0, 0) from rfl) (v := t0) rfl ?_
  refine zt_getI zy_30 (show q_ins q_k30 2 = some (.getfield 9, 4, 0) from rfl) (j := 0) (zk_S_0 ht0) rfl ?_
  refine zt_imul zy_30 (show q_ins q_k30 5 = some (.imul, 0, 0) from rfl) ?_
  cases h
  exact zt_iret zy_30 (show q_ins q_k30 6 = some (.ireturn, 0, 0) from rfl)
theorem S_Rw_has_15 {X : q_X}   : ∀ (x0 : Int) (σ : zt_S) (o : (Int × zt_S)), F_Rw_has_15  x0 σ = some o → zt_Ex X 0 314 15 [] [.int (Int32.ofInt x0)] (zt_M T σ) (zo_I T o) := by
  intro x0 σ o  h
  unfold F_Rw_has_15 at h
  obtain ⟨hg, h⟩ := zt_ckE h
  cases h
  exact zt_zret zy_314 (show q_ins q_k314 15 = some (.ireturn, 0, 0) from rfl) hg
theorem S_Rw_has {X : q_X}   {v0 : Int64} {v2 : Int} {σ : zt_S} {o : (Int × zt_S)} (h : F_Rw_has  v0 v2 σ = some o) : zt_Ex X 0 314 0 (lv_args 0 [.long v0, .int (Int32.ofInt v2)]) [] (zt_M T σ) (zo_I T o) := by
  unfold F_Rw_has at h
  refine zt_lload_n zy_314 (show q_ins q_k314 0 = some (.lload_n 0, 0, 0) from rfl) (v := v0) rfl ?_
  refine zt_iload_n zy_314 (show q_ins q_k314 1 = some (.iload_n 2, 0, 0) from rfl) (v := Int32.ofInt v2) rfl ?_
  refine zt_lshr zy_314 (show q_ins q_k314 2 = some (.lshr, 0, 0) from rfl) ?_
  refine zt_lconst zy_314 (show q_ins q_k314 3 = some (.lconst 1, 0, 0) from rfl) (v := (1 : Int64)) (by decide) ?_
  refine zt_land zy_314 (show q_ins q_k314 4 = some (.land, 0, 0) from rfl) ?_
  refine zt_lconst zy_314 (show q_ins q_k314 5 = some (.lconst 0, 0, 0) from rfl) (v := (0 : Int64)) (by decide) ?_
  refine zt_lcmp zy_314 (show q_ins q_k314 6 = some (.lcmp, 0, 0) from rfl) ?_
  refine zt_if_eq zy_314 (show q_ins q_k314 7 = some (.ifCond .eq 7, 14, 0) from rfl) (zt_inT _) (fun hc => ?_) (fun hc => ?_)
  · rw [if_pos hc] at h
    refine zt_iconst zy_314 (show q_ins q_k314 14 = some (.iconst 0, 0, 0) from rfl) ?_
    exact zt_wk (zt_cov_nil) (S_Rw_has_15  _ _ _ h)
  · rw [if_neg hc] at h
    refine zt_iconst zy_314 (show q_ins q_k314 10 = some (.iconst 1, 0, 0) from rfl) ?_
    refine zt_goto zy_314 (show q_ins q_k314 11 = some (.goto 4, 15, 0) from rfl) ?_
    exact zt_wk (zt_cov_nil) (S_Rw_has_15  _ _ _ h)
theorem S_Su_suitOf_17 {X : q_X} {t0 : Nat} (ht0 : t0 ∈ zt_sets) : ∀ (x0 : Int) (σ : zt_S) (o : (Int × zt_S)), F_Su_suitOf_17 t0 x0 σ = some o → zt_Ex X 0 33 17 [] [.int (Int32.ofInt x0)] (zt_M T σ) (zo_I T o) := by
  intro x0 σ o  h
  unfold F_Su_suitOf_17 at h
  cases h
  exact zt_iret zy_33 (show q_ins q_k33 17 = some (.ireturn, 0, 0) from rfl)
theorem S_Su_suitOf {X : q_X} {t0 : Nat} (ht0 : t0 ∈ zt_sets) {v1 : Int} {σ : zt_S} {o : (Int × zt_S)} (h : F_Su_suitOf t0 v1 σ = some o) : zt_Ex X 0 33 0 (lv_args 0 [.ref t0, .int (Int32.ofInt v1)]) [] (zt_M T σ) (zo_I T o) := by
  unfold F_Su_suitOf at h
  refine zt_aload_n zy_33 (show q_ins q_k33 0 = some (.aload_n 0, 0, 0) from rfl) (v := t0) rfl ?_
  refine zt_getI zy_33 (show q_ins q_k33 1 = some (.getfield 9, 4, 0) from rfl) (j := 0) (zk_S_0 ht0) rfl ?_
  obtain ⟨hg, h⟩ := zt_ckE h
  refine zt_if_gt zy_33 (show q_ins q_k33 4 = some (.ifCond .gt 7, 11, 0) from rfl) (hg) (fun hc => ?_) (fun hc => ?_)
  · rw [if_pos hc] at h
    refine zt_iload_n zy_33 (show q_ins q_k33 11 = some (.iload_n 1, 0, 0) from rfl) (v := Int32.ofInt v1) rfl ?_
    refine zt_aload_n zy_33 (show q_ins q_k33 12 = some (.aload_n 0, 0, 0) from rfl) (v := t0) rfl ?_
    refine zt_getI zy_33 (show q_ins q_k33 13 = some (.getfield 9, 4, 0) from rfl) (j := 0) (zk_S_0 ht0) rfl ?_
    obtain ⟨hg, h⟩ := zt_ckE h
    refine zt_idiv zy_33 (show q_ins q_k33 16 = some (.idiv, 0, 0) from rfl) hg.1 hg.2 ?_
    exact zt_wk (zt_cov_nil) (S_Su_suitOf_17  ht0 _ _ _ h)
  · rw [if_neg hc] at h
    refine zt_iconst zy_33 (show q_ins q_k33 7 = some (.iconst 0, 0, 0) from rfl) ?_
    refine zt_goto zy_33 (show q_ins q_k33 8 = some (.goto 9, 17, 0) from rfl) ?_
    exact zt_wk (zt_cov_nil) (S_Su_suitOf_17  ht0 _ _ _ h)
theorem S_Su_rankOf_19 {X : q_X} {t0 : Nat} (ht0 : t0 ∈ zt_sets) : ∀ (x0 : Int) (σ : zt_S) (o : (Int × zt_S)), F_Su_rankOf_19 t0 x0 σ = some o → zt_Ex X 0 34 19 [] [.int (Int32.ofInt x0)] (zt_M T σ) (zo_I T o) := by
  intro x0 σ o  h
  unfold F_Su_rankOf_19 at h
  cases h
  exact zt_iret zy_34 (show q_ins q_k34 19 = some (.ireturn, 0, 0) from rfl)
theorem S_Su_rankOf {X : q_X} {t0 : Nat} (ht0 : t0 ∈ zt_sets) {v1 : Int} {σ : zt_S} {o : (Int × zt_S)} (h : F_Su_rankOf t0 v1 σ = some o) : zt_Ex X 0 34 0 (lv_args 0 [.ref t0, .int (Int32.ofInt v1)]) [] (zt_M T σ) (zo_I T o) := by
  unfold F_Su_rankOf at h
  refine zt_aload_n zy_34 (show q_ins q_k34 0 = some (.aload_n 0, 0, 0) from rfl) (v := t0) rfl ?_
  refine zt_getI zy_34 (show q_ins q_k34 1 = some (.getfield 9, 4, 0) from rfl) (j := 0) (zk_S_0 ht0) rfl ?_
  obtain ⟨hg, h⟩ := zt_ckE h
  refine zt_if_gt zy_34 (show q_ins q_k34 4 = some (.ifCond .gt 7, 11, 0) from rfl) (hg) (fun hc => ?_) (fun hc => ?_)
  · rw [if_pos hc] at h
    refine zt_iload_n zy_34 (show q_ins q_k34 11 = some (.iload_n 1, 0, 0) from rfl) (v := Int32.ofInt v1) rfl ?_
    refine zt_aload_n zy_34 (show q_ins q_k34 12 = some (.aload_n 0, 0, 0) from rfl) (v := t0) rfl ?_
    refine zt_getI zy_34 (show q_ins q_k34 13 = some (.getfield 9, 4, 0) from rfl) (j := 0) (zk_S_0 ht0) rfl ?_
    obtain ⟨hg, h⟩ := zt_ckE h
    refine zt_irem zy_34 (show q_ins q_k34 16 = some (.irem, 0, 0) from rfl) hg.1 hg.2 ?_
    refine zt_iconst zy_34 (show q_ins q_k34 17 = some (.iconst 1, 0, 0) from rfl) ?_
    refine zt_iadd zy_34 (show q_ins q_k34 18 = some (.iadd, 0, 0) from rfl) ?_
    exact zt_wk (zt_cov_nil) (S_Su_rankOf_19  ht0 _ _ _ h)
  · rw [if_neg hc] at h
    refine zt_iconst zy_34 (show q_ins q_k34 7 = some (.iconst 0, 0, 0) from rfl) ?_
    refine zt_goto zy_34 (show q_ins q_k34 8 = some (.goto 11, 19, 0) from rfl) ?_
    exact zt_wk (zt_cov_nil) (S_Su_rankOf_19  ht0 _ _ _ h)
theorem S_Hi_clear {X : q_X}    {σ : zt_S} {o : (Unit × zt_S)} (h : F_Hi_clear   σ = some o) : zt_Ex X 0 7 0 (lv_args 0 [.ref 16]) [] (zt_M T σ) (zo_V T o) := by
  unfold F_Hi_clear at h
  refine zt_aload_n zy_7 (show q_ins q_k7 0 = some (.aload_n 0, 0, 0) from rfl) (v := 16) rfl ?_
  refine zt_iconst zy_7 (show q_ins q_k7 1 = some (.iconst 0, 0, 0) from rfl) ?_
  obtain ⟨s1, hs1, h⟩ := zt_letE h
  refine zt_putI zy_7 (show q_ins q_k7 2 = some (.putfield 20, 1, 1) from rfl) (j := 1) zk_16_1 rfl rfl rfl ?_
  rw [← hs1]
  refine zt_aload_n zy_7 (show q_ins q_k7 5 = some (.aload_n 0, 0, 0) from rfl) (v := 16) rfl ?_
  refine zt_iconst zy_7 (show q_ins q_k7 6 = some (.iconst 0, 0, 0) from rfl) ?_
  obtain ⟨s2, hs2, h⟩ := zt_letE h
  refine zt_putI zy_7 (show q_ins q_k7 7 = some (.putfield 24, 1, 2) from rfl) (j := 2) zk_16_2 rfl rfl rfl ?_
  rw [← hs2]
  cases h
  exact zt_ret zy_7 (show q_ins q_k7 10 = some (.return_, 0, 0) from rfl)
theorem S_Hi_rowAt_22 {X : q_X}   : ∀  (σ : zt_S) (o : (Nat × zt_S)), F_Hi_rowAt_22   σ = some o → zt_Ex X 0 10 22 [] [] (zt_M T σ) (zo_R T o) := by
  intro  σ o  h
  unfold F_Hi_rowAt_22 at h
  cases h
theorem S_Hi_rowAt {X : q_X}   {v1 : Int} {σ : zt_S} {o : (Nat × zt_S)} (h : F_Hi_rowAt  v1 σ = some o) : zt_Ex X 0 10 0 (lv_args 0 [.ref 16, .int (Int32.ofInt v1)]) [] (zt_M T σ) (zo_R T o) := by
  unfold F_Hi_rowAt at h
  refine zt_iload_n zy_10 (show q_ins q_k10 0 = some (.iload_n 1, 0, 0) from rfl) (v := Int32.ofInt v1) rfl ?_
  obtain ⟨hg, h⟩ := zt_ckE h
  refine zt_if_lt zy_10 (show q_ins q_k10 1 = some (.ifCond .lt 21, 22, 0) from rfl) (hg) (fun hc => ?_) (fun hc => ?_)
  · rw [if_pos hc] at h
    exact zt_wk (zt_cov_nil) (S_Hi_rowAt_22  _ _ h)
  · rw [if_neg hc] at h
    refine zt_iload_n zy_10 (show q_ins q_k10 4 = some (.iload_n 1, 0, 0) from rfl) (v := Int32.ofInt v1) rfl ?_
    refine zt_aload_n zy_10 (show q_ins q_k10 5 = some (.aload_n 0, 0, 0) from rfl) (v := 16) rfl ?_
    refine zt_getR zy_10 (show q_ins q_k10 6 = some (.getfield 11, 1, 0) from rfl) (r := 17) zk_16_0 ?_
    refine zt_alen zy_10 (show q_ins q_k10 9 = some (.arraylength, 0, 0) from rfl) za_17 (by decide) ?_
    obtain ⟨hg, h⟩ := zt_ckE h
    refine zt_icmp_ge zy_10 (show q_ins q_k10 10 = some (.if_icmp .ge 12, 22, 0) from rfl) (⟨hg, by decide⟩) (fun hc => ?_) (fun hc => ?_)
    · rw [if_pos hc] at h
      refine zt_aload_n zy_10 (show q_ins q_k10 13 = some (.aload_n 0, 0, 0) from rfl) (v := 16) rfl ?_
      refine zt_getR zy_10 (show q_ins q_k10 14 = some (.getfield 11, 1, 0) from rfl) (r := 17) zk_16_0 ?_
      refine zt_iload_n zy_10 (show q_ins q_k10 17 = some (.iload_n 1, 0, 0) from rfl) (v := Int32.ofInt v1) rfl ?_
      obtain ⟨hg1, h⟩ := zt_ckE h
      refine zt_rld zy_10 (show q_ins q_k10 18 = some (.aaload, 0, 0) from rfl) za_17 (by decide) (by decide) hg1 (zg_17 hg1) ?_
      refine zt_goto zy_10 (show q_ins q_k10 19 = some (.goto 4, 23, 0) from rfl) ?_
      cases h
      exact zt_aret zy_10 (show q_ins q_k10 23 = some (.areturn, 0, 0) from rfl)
    · rw [if_neg hc] at h
      exact zt_wk (zt_cov_nil) (S_Hi_rowAt_22  _ _ h)
theorem S_Tr_copyFrom {X : q_X} {t0 : Nat} {t1 : Nat} (ht0 : t0 ∈ zt_tris) (ht1 : t1 ∈ zt_tris)  {σ : zt_S} {o : (Unit × zt_S)} (h : F_Tr_copyFrom t0 t1  σ = some o) : zt_Ex X 0 106 0 (lv_args 0 [.ref t0, .ref t1]) [] (zt_M T σ) (zo_V T o) := by
  unfold F_Tr_copyFrom at h
  refine zt_aload_n zy_106 (show q_ins q_k106 0 = some (.aload_n 0, 0, 0) from rfl) (v := t0) rfl ?_
  refine zt_aload_n zy_106 (show q_ins q_k106 1 = some (.aload_n 1, 0, 0) from rfl) (v := t1) rfl ?_
  refine zt_getI zy_106 (show q_ins q_k106 2 = some (.getfield 24, 9, 0) from rfl) (j := 0) (zk_K_0 ht1) rfl ?_
  obtain ⟨s1, hs1, h⟩ := zt_letE h
  refine zt_putI zy_106 (show q_ins q_k106 5 = some (.putfield 24, 9, 0) from rfl) (j := 0) (zk_K_0 ht0) rfl rfl rfl ?_
  rw [← hs1]
  refine zt_aload_n zy_106 (show q_ins q_k106 8 = some (.aload_n 0, 0, 0) from rfl) (v := t0) rfl ?_
  refine zt_aload_n zy_106 (show q_ins q_k106 9 = some (.aload_n 1, 0, 0) from rfl) (v := t1) rfl ?_
  refine zt_getI zy_106 (show q_ins q_k106 10 = some (.getfield 27, 9, 1) from rfl) (j := 1) (zk_K_1 ht1) rfl ?_
  obtain ⟨s2, hs2, h⟩ := zt_letE h
  refine zt_putI zy_106 (show q_ins q_k106 13 = some (.putfield 27, 9, 1) from rfl) (j := 1) (zk_K_1 ht0) rfl rfl rfl ?_
  rw [← hs2]
  refine zt_aload_n zy_106 (show q_ins q_k106 16 = some (.aload_n 0, 0, 0) from rfl) (v := t0) rfl ?_
  refine zt_aload_n zy_106 (show q_ins q_k106 17 = some (.aload_n 1, 0, 0) from rfl) (v := t1) rfl ?_
  refine zt_getI zy_106 (show q_ins q_k106 18 = some (.getfield 30, 9, 2) from rfl) (j := 2) (zk_K_2 ht1) rfl ?_
  obtain ⟨s3, hs3, h⟩ := zt_letE h
  refine zt_putI zy_106 (show q_ins q_k106 21 = some (.putfield 30, 9, 2) from rfl) (j := 2) (zk_K_2 ht0) rfl rfl rfl ?_
  rw [← hs3]
  refine zt_aload_n zy_106 (show q_ins q_k106 24 = some (.aload_n 0, 0, 0) from rfl) (v := t0) rfl ?_
  refine zt_aload_n zy_106 (show q_ins q_k106 25 = some (.aload_n 1, 0, 0) from rfl) (v := t1) rfl ?_
  refine zt_getI zy_106 (show q_ins q_k106 26 = some (.getfield 9, 9, 3) from rfl) (j := 3) (zk_K_3 ht1) rfl ?_
  obtain ⟨s4, hs4, h⟩ := zt_letE h
  refine zt_putI zy_106 (show q_ins q_k106 29 = some (.putfield 9, 9, 3) from rfl) (j := 3) (zk_K_3 ht0) rfl rfl rfl ?_
  rw [← hs4]
  refine zt_aload_n zy_106 (show q_ins q_k106 32 = some (.aload_n 0, 0, 0) from rfl) (v := t0) rfl ?_
  refine zt_aload_n zy_106 (show q_ins q_k106 33 = some (.aload_n 1, 0, 0) from rfl) (v := t1) rfl ?_
  refine zt_getI zy_106 (show q_ins q_k106 34 = some (.getfield 33, 9, 4) from rfl) (j := 4) (zk_K_4 ht1) rfl ?_
  obtain ⟨s5, hs5, h⟩ := zt_letE h
  refine zt_putI zy_106 (show q_ins q_k106 37 = some (.putfield 33, 9, 4) from rfl) (j := 4) (zk_K_4 ht0) rfl rfl rfl ?_
  rw [← hs5]
  refine zt_aload_n zy_106 (show q_ins q_k106 40 = some (.aload_n 0, 0, 0) from rfl) (v := t0) rfl ?_
  refine zt_aload_n zy_106 (show q_ins q_k106 41 = some (.aload_n 1, 0, 0) from rfl) (v := t1) rfl ?_
  refine zt_getI zy_106 (show q_ins q_k106 42 = some (.getfield 15, 9, 5) from rfl) (j := 5) (zk_K_5 ht1) rfl ?_
  obtain ⟨s6, hs6, h⟩ := zt_letE h
  refine zt_putI zy_106 (show q_ins q_k106 45 = some (.putfield 15, 9, 5) from rfl) (j := 5) (zk_K_5 ht0) rfl rfl rfl ?_
  rw [← hs6]
  refine zt_aload_n zy_106 (show q_ins q_k106 48 = some (.aload_n 0, 0, 0) from rfl) (v := t0) rfl ?_
  refine zt_aload_n zy_106 (show q_ins q_k106 49 = some (.aload_n 1, 0, 0) from rfl) (v := t1) rfl ?_
  refine zt_getI zy_106 (show q_ins q_k106 50 = some (.getfield 18, 9, 6) from rfl) (j := 6) (zk_K_6 ht1) rfl ?_
  obtain ⟨s7, hs7, h⟩ := zt_letE h
  refine zt_putI zy_106 (show q_ins q_k106 53 = some (.putfield 18, 9, 6) from rfl) (j := 6) (zk_K_6 ht0) rfl rfl rfl ?_
  rw [← hs7]
  refine zt_aload_n zy_106 (show q_ins q_k106 56 = some (.aload_n 0, 0, 0) from rfl) (v := t0) rfl ?_
  refine zt_aload_n zy_106 (show q_ins q_k106 57 = some (.aload_n 1, 0, 0) from rfl) (v := t1) rfl ?_
  refine zt_getI zy_106 (show q_ins q_k106 58 = some (.getfield 21, 9, 7) from rfl) (j := 7) (zk_K_7 ht1) rfl ?_
  obtain ⟨s8, hs8, h⟩ := zt_letE h
  refine zt_putI zy_106 (show q_ins q_k106 61 = some (.putfield 21, 9, 7) from rfl) (j := 7) (zk_K_7 ht0) rfl rfl rfl ?_
  rw [← hs8]
  refine zt_aload_n zy_106 (show q_ins q_k106 64 = some (.aload_n 0, 0, 0) from rfl) (v := t0) rfl ?_
  refine zt_aload_n zy_106 (show q_ins q_k106 65 = some (.aload_n 1, 0, 0) from rfl) (v := t1) rfl ?_
  refine zt_getI zy_106 (show q_ins q_k106 66 = some (.getfield 36, 9, 8) from rfl) (j := 8) (zk_K_8 ht1) rfl ?_
  obtain ⟨s9, hs9, h⟩ := zt_letE h
  refine zt_putI zy_106 (show q_ins q_k106 69 = some (.putfield 36, 9, 8) from rfl) (j := 8) (zk_K_8 ht0) rfl rfl rfl ?_
  rw [← hs9]
  cases h
  exact zt_ret zy_106 (show q_ins q_k106 72 = some (.return_, 0, 0) from rfl)
theorem S_Rw_copySets {X : q_X} {c0 : Nat} {n0 : Nat} {c1 : Nat} {n1 : Nat} (ha0 : zt_sh[c0]? = some (.inl (1, n0))) (hn0 : n0 ≤ 1000000) (ha1 : zt_sh[c1]? = some (.inl (1, n1))) (hn1 : n1 ≤ 1000000)  {σ : zt_S} {o : (Unit × zt_S)} (h : F_Rw_copySets c0 n0 c1 n1  σ = some o) : zt_Ex X 0 313 0 (lv_args 0 [.ref c0, .ref c1]) [] (zt_M T σ) (zo_V T o) := by
  unfold F_Rw_copySets at h
  refine zt_aload_n zy_313 (show q_ins q_k313 0 = some (.aload_n 0, 0, 0) from rfl) (v := c0) rfl ?_
  refine zt_iconst zy_313 (show q_ins q_k313 1 = some (.iconst 0, 0, 0) from rfl) ?_
  refine zt_aload_n zy_313 (show q_ins q_k313 2 = some (.aload_n 1, 0, 0) from rfl) (v := c1) rfl ?_
  refine zt_iconst zy_313 (show q_ins q_k313 3 = some (.iconst 0, 0, 0) from rfl) ?_
  refine zt_aload_n zy_313 (show q_ins q_k313 4 = some (.aload_n 0, 0, 0) from rfl) (v := c0) rfl ?_
  refine zt_alen zy_313 (show q_ins q_k313 5 = some (.arraylength, 0, 0) from rfl) ha0 (by decide) ?_
  refine zt_aload_n zy_313 (show q_ins q_k313 6 = some (.aload_n 1, 0, 0) from rfl) (v := c1) rfl ?_
  refine zt_alen zy_313 (show q_ins q_k313 7 = some (.arraylength, 0, 0) from rfl) ha1 (by decide) ?_
  obtain ⟨hg, h⟩ := zt_ckE h
  refine zt_min zy_313 (show q_ins q_k313 8 = some (.invokestatic 7, 911, 2) from rfl) rfl hg (by simp [Value.category]) ?_
  obtain ⟨hg, h⟩ := zt_ckE h
  obtain ⟨s1, hs1, h⟩ := zt_letE h
  refine zt_acL zy_313 (show q_ins q_k313 11 = some (.invokestatic 13, 913, 5) from rfl) rfl ha0 ha1 ⟨hn0, hn1⟩ hg (by simp [Value.category]) ?_
  rw [← hs1]
  cases h
  exact zt_ret zy_313 (show q_ins q_k313 14 = some (.return_, 0, 0) from rfl)
theorem S_Rw_copy {X : q_X} {c0 : Nat} {n0 : Nat} {c1 : Nat} {n1 : Nat} (ha0 : zt_sh[c0]? = some (.inl (0, n0))) (hn0 : n0 ≤ 1000000) (ha1 : zt_sh[c1]? = some (.inl (0, n1))) (hn1 : n1 ≤ 1000000)  {σ : zt_S} {o : (Unit × zt_S)} (h : F_Rw_copy c0 n0 c1 n1  σ = some o) : zt_Ex X 0 312 0 (lv_args 0 [.ref c0, .ref c1]) [] (zt_M T σ) (zo_V T o) := by
  unfold F_Rw_copy at h
  refine zt_aload_n zy_312 (show q_ins q_k312 0 = some (.aload_n 0, 0, 0) from rfl) (v := c0) rfl ?_
  refine zt_iconst zy_312 (show q_ins q_k312 1 = some (.iconst 0, 0, 0) from rfl) ?_
  refine zt_aload_n zy_312 (show q_ins q_k312 2 = some (.aload_n 1, 0, 0) from rfl) (v := c1) rfl ?_
  refine zt_iconst zy_312 (show q_ins q_k312 3 = some (.iconst 0, 0, 0) from rfl) ?_
  refine zt_aload_n zy_312 (show q_ins q_k312 4 = some (.aload_n 0, 0, 0) from rfl) (v := c0) rfl ?_
  refine zt_alen zy_312 (show q_ins q_k312 5 = some (.arraylength, 0, 0) from rfl) ha0 (by decide) ?_
  refine zt_aload_n zy_312 (show q_ins q_k312 6 = some (.aload_n 1, 0, 0) from rfl) (v := c1) rfl ?_
  refine zt_alen zy_312 (show q_ins q_k312 7 = some (.arraylength, 0, 0) from rfl) ha1 (by decide) ?_
  obtain ⟨hg, h⟩ := zt_ckE h
  refine zt_min zy_312 (show q_ins q_k312 8 = some (.invokestatic 7, 911, 2) from rfl) rfl hg (by simp [Value.category]) ?_
  obtain ⟨hg, h⟩ := zt_ckE h
  obtain ⟨s1, hs1, h⟩ := zt_letE h
  refine zt_acI zy_312 (show q_ins q_k312 11 = some (.invokestatic 13, 913, 5) from rfl) rfl ha0 ha1 ⟨hn0, hn1⟩ hg (by simp [Value.category]) ?_
  rw [← hs1]
  cases h
  exact zt_ret zy_312 (show q_ins q_k312 14 = some (.return_, 0, 0) from rfl)
theorem S_Tb_copyFrom {X : q_X} {t0 : Nat} {t1 : Nat} (ht0 : t0 ∈ zt_tabs) (ht1 : t1 ∈ zt_tabs)  {σ : zt_S} {o : (Unit × zt_S)} (h : F_Tb_copyFrom t0 t1  σ = some o) : zt_Ex X 1 52 0 (lv_args 0 [.ref t0, .ref t1]) [] (zt_M T σ) (zo_V T o) := by
  unfold F_Tb_copyFrom at h
  refine zt_aload_n zy_52 (show q_ins q_k52 0 = some (.aload_n 0, 0, 0) from rfl) (v := t0) rfl ?_
  refine zt_getR zy_52 (show q_ins q_k52 1 = some (.getfield 12, 6, 1) from rfl) (r := (t0 + 1)) (zk_T_1 ht0) ?_
  refine zt_aload_n zy_52 (show q_ins q_k52 4 = some (.aload_n 1, 0, 0) from rfl) (v := t1) rfl ?_
  refine zt_getR zy_52 (show q_ins q_k52 5 = some (.getfield 12, 6, 1) from rfl) (r := (t1 + 1)) (zk_T_1 ht1) ?_
  obtain ⟨a1, s2, hca1, h⟩ := zt_bdE h
  refine zt_callV (d := 0) zy_52 (show q_ins q_k52 8 = some (.invokevirtual 90, 106, 1) from rfl) zy_106 (by decide) ⟨zq_lt (by decide), by decide⟩ rfl (by simp [Value.category]) (by simp [lg_sl, Value.category]) (zt_rcv (zc_K (zm_T1 ht0))) (zt_dm (by decide) (S_Tr_copyFrom (zm_T1 ht0) (zm_T1 ht1) hca1)) ?_
  refine zt_aload_n zy_52 (show q_ins q_k52 11 = some (.aload_n 1, 0, 0) from rfl) (v := t1) rfl ?_
  refine zt_getR zy_52 (show q_ins q_k52 12 = some (.getfield 18, 6, 2) from rfl) (r := (t1 + 2)) (zk_T_2 ht1) ?_
  refine zt_aload_n zy_52 (show q_ins q_k52 15 = some (.aload_n 0, 0, 0) from rfl) (v := t0) rfl ?_
  refine zt_getR zy_52 (show q_ins q_k52 16 = some (.getfield 18, 6, 2) from rfl) (r := (t0 + 2)) (zk_T_2 ht0) ?_
  obtain ⟨a3, s4, hca3, h⟩ := zt_bdE h
  refine zt_callS (d := 0) zy_52 (show q_ins q_k52 19 = some (.invokestatic 94, 313, 2) from rfl) zy_313 (by decide) ⟨zq_lt (by decide), by decide⟩ rfl (by simp [Value.category]) (by simp [lg_sl, Value.category]) rfl (zt_dm (by decide) (S_Rw_copySets (za_T2 ht1) (by decide) (za_T2 ht0) (by decide) hca3)) ?_
  refine zt_aload_n zy_52 (show q_ins q_k52 22 = some (.aload_n 1, 0, 0) from rfl) (v := t1) rfl ?_
  refine zt_getR zy_52 (show q_ins q_k52 23 = some (.getfield 22, 6, 3) from rfl) (r := (t1 + 3)) (zk_T_3 ht1) ?_
  refine zt_aload_n zy_52 (show q_ins q_k52 26 = some (.aload_n 0, 0, 0) from rfl) (v := t0) rfl ?_
  refine zt_getR zy_52 (show q_ins q_k52 27 = some (.getfield 22, 6, 3) from rfl) (r := (t0 + 3)) (zk_T_3 ht0) ?_
  obtain ⟨a5, s6, hca5, h⟩ := zt_bdE h
  refine zt_callS (d := 0) zy_52 (show q_ins q_k52 30 = some (.invokestatic 98, 312, 2) from rfl) zy_312 (by decide) ⟨zq_lt (by decide), by decide⟩ rfl (by simp [Value.category]) (by simp [lg_sl, Value.category]) rfl (zt_dm (by decide) (S_Rw_copy (za_T3 ht1) (by decide) (za_T3 ht0) (by decide) hca5)) ?_
  refine zt_aload_n zy_52 (show q_ins q_k52 33 = some (.aload_n 1, 0, 0) from rfl) (v := t1) rfl ?_
  refine zt_getR zy_52 (show q_ins q_k52 34 = some (.getfield 26, 6, 4) from rfl) (r := (t1 + 4)) (zk_T_4 ht1) ?_
  refine zt_aload_n zy_52 (show q_ins q_k52 37 = some (.aload_n 0, 0, 0) from rfl) (v := t0) rfl ?_
  refine zt_getR zy_52 (show q_ins q_k52 38 = some (.getfield 26, 6, 4) from rfl) (r := (t0 + 4)) (zk_T_4 ht0) ?_
  obtain ⟨a7, s8, hca7, h⟩ := zt_bdE h
  refine zt_callS (d := 0) zy_52 (show q_ins q_k52 41 = some (.invokestatic 98, 312, 2) from rfl) zy_312 (by decide) ⟨zq_lt (by decide), by decide⟩ rfl (by simp [Value.category]) (by simp [lg_sl, Value.category]) rfl (zt_dm (by decide) (S_Rw_copy (za_T4 ht1) (by decide) (za_T4 ht0) (by decide) hca7)) ?_
  refine zt_aload_n zy_52 (show q_ins q_k52 44 = some (.aload_n 1, 0, 0) from rfl) (v := t1) rfl ?_
  refine zt_getR zy_52 (show q_ins q_k52 45 = some (.getfield 29, 6, 5) from rfl) (r := (t1 + 5)) (zk_T_5 ht1) ?_
  refine zt_aload_n zy_52 (show q_ins q_k52 48 = some (.aload_n 0, 0, 0) from rfl) (v := t0) rfl ?_
  refine zt_getR zy_52 (show q_ins q_k52 49 = some (.getfield 29, 6, 5) from rfl) (r := (t0 + 5)) (zk_T_5 ht0) ?_
  obtain ⟨a9, s10, hca9, h⟩ := zt_bdE h
  refine zt_callS (d := 0) zy_52 (show q_ins q_k52 52 = some (.invokestatic 98, 312, 2) from rfl) zy_312 (by decide) ⟨zq_lt (by decide), by decide⟩ rfl (by simp [Value.category]) (by simp [lg_sl, Value.category]) rfl (zt_dm (by decide) (S_Rw_copy (za_T5 ht1) (by decide) (za_T5 ht0) (by decide) hca9)) ?_
  refine zt_aload_n zy_52 (show q_ins q_k52 55 = some (.aload_n 1, 0, 0) from rfl) (v := t1) rfl ?_
  refine zt_getR zy_52 (show q_ins q_k52 56 = some (.getfield 32, 6, 6) from rfl) (r := (t1 + 6)) (zk_T_6 ht1) ?_
  refine zt_aload_n zy_52 (show q_ins q_k52 59 = some (.aload_n 0, 0, 0) from rfl) (v := t0) rfl ?_
  refine zt_getR zy_52 (show q_ins q_k52 60 = some (.getfield 32, 6, 6) from rfl) (r := (t0 + 6)) (zk_T_6 ht0) ?_
  obtain ⟨a11, s12, hca11, h⟩ := zt_bdE h
  refine zt_callS (d := 0) zy_52 (show q_ins q_k52 63 = some (.invokestatic 98, 312, 2) from rfl) zy_312 (by decide) ⟨zq_lt (by decide), by decide⟩ rfl (by simp [Value.category]) (by simp [lg_sl, Value.category]) rfl (zt_dm (by decide) (S_Rw_copy (za_T6 ht1) (by decide) (za_T6 ht0) (by decide) hca11)) ?_
  refine zt_aload_n zy_52 (show q_ins q_k52 66 = some (.aload_n 1, 0, 0) from rfl) (v := t1) rfl ?_
  refine zt_getR zy_52 (show q_ins q_k52 67 = some (.getfield 35, 6, 7) from rfl) (r := (t1 + 7)) (zk_T_7 ht1) ?_
  refine zt_aload_n zy_52 (show q_ins q_k52 70 = some (.aload_n 0, 0, 0) from rfl) (v := t0) rfl ?_
  refine zt_getR zy_52 (show q_ins q_k52 71 = some (.getfield 35, 6, 7) from rfl) (r := (t0 + 7)) (zk_T_7 ht0) ?_
  obtain ⟨a13, s14, hca13, h⟩ := zt_bdE h
  refine zt_callS (d := 0) zy_52 (show q_ins q_k52 74 = some (.invokestatic 98, 312, 2) from rfl) zy_312 (by decide) ⟨zq_lt (by decide), by decide⟩ rfl (by simp [Value.category]) (by simp [lg_sl, Value.category]) rfl (zt_dm (by decide) (S_Rw_copy (za_T7 ht1) (by decide) (za_T7 ht0) (by decide) hca13)) ?_
  refine zt_aload_n zy_52 (show q_ins q_k52 77 = some (.aload_n 1, 0, 0) from rfl) (v := t1) rfl ?_
  refine zt_getR zy_52 (show q_ins q_k52 78 = some (.getfield 38, 6, 8) from rfl) (r := (t1 + 8)) (zk_T_8 ht1) ?_
  refine zt_aload_n zy_52 (show q_ins q_k52 81 = some (.aload_n 0, 0, 0) from rfl) (v := t0) rfl ?_
  refine zt_getR zy_52 (show q_ins q_k52 82 = some (.getfield 38, 6, 8) from rfl) (r := (t0 + 8)) (zk_T_8 ht0) ?_
  obtain ⟨a15, s16, hca15, h⟩ := zt_bdE h
  refine zt_callS (d := 0) zy_52 (show q_ins q_k52 85 = some (.invokestatic 98, 312, 2) from rfl) zy_312 (by decide) ⟨zq_lt (by decide), by decide⟩ rfl (by simp [Value.category]) (by simp [lg_sl, Value.category]) rfl (zt_dm (by decide) (S_Rw_copy (za_T8 ht1) (by decide) (za_T8 ht0) (by decide) hca15)) ?_
  refine zt_aload_n zy_52 (show q_ins q_k52 88 = some (.aload_n 1, 0, 0) from rfl) (v := t1) rfl ?_
  refine zt_getR zy_52 (show q_ins q_k52 89 = some (.getfield 41, 6, 9) from rfl) (r := (t1 + 9)) (zk_T_9 ht1) ?_
  refine zt_aload_n zy_52 (show q_ins q_k52 92 = some (.aload_n 0, 0, 0) from rfl) (v := t0) rfl ?_
  refine zt_getR zy_52 (show q_ins q_k52 93 = some (.getfield 41, 6, 9) from rfl) (r := (t0 + 9)) (zk_T_9 ht0) ?_
  obtain ⟨a17, s18, hca17, h⟩ := zt_bdE h
  refine zt_callS (d := 0) zy_52 (show q_ins q_k52 96 = some (.invokestatic 98, 312, 2) from rfl) zy_312 (by decide) ⟨zq_lt (by decide), by decide⟩ rfl (by simp [Value.category]) (by simp [lg_sl, Value.category]) rfl (zt_dm (by decide) (S_Rw_copy (za_T9 ht1) (by decide) (za_T9 ht0) (by decide) hca17)) ?_
  refine zt_aload_n zy_52 (show q_ins q_k52 99 = some (.aload_n 0, 0, 0) from rfl) (v := t0) rfl ?_
  refine zt_aload_n zy_52 (show q_ins q_k52 100 = some (.aload_n 1, 0, 0) from rfl) (v := t1) rfl ?_
  refine zt_getL zy_52 (show q_ins q_k52 101 = some (.getfield 80, 6, 10) from rfl) (j := 10) (zk_T_10 ht1) rfl ?_
  obtain ⟨s19, hs19, h⟩ := zt_letE h
  refine zt_putL zy_52 (show q_ins q_k52 104 = some (.putfield 80, 6, 10) from rfl) (j := 10) (zk_T_10 ht0) rfl rfl rfl ?_
  rw [← hs19]
  refine zt_aload_n zy_52 (show q_ins q_k52 107 = some (.aload_n 0, 0, 0) from rfl) (v := t0) rfl ?_
  refine zt_aload_n zy_52 (show q_ins q_k52 108 = some (.aload_n 1, 0, 0) from rfl) (v := t1) rfl ?_
  refine zt_getI zy_52 (show q_ins q_k52 109 = some (.getfield 57, 6, 11) from rfl) (j := 11) (zk_T_11 ht1) rfl ?_
  obtain ⟨s20, hs20, h⟩ := zt_letE h
  refine zt_putI zy_52 (show q_ins q_k52 112 = some (.putfield 57, 6, 11) from rfl) (j := 11) (zk_T_11 ht0) rfl rfl rfl ?_
  rw [← hs20]
  refine zt_aload_n zy_52 (show q_ins q_k52 115 = some (.aload_n 0, 0, 0) from rfl) (v := t0) rfl ?_
  refine zt_aload_n zy_52 (show q_ins q_k52 116 = some (.aload_n 1, 0, 0) from rfl) (v := t1) rfl ?_
  refine zt_getI zy_52 (show q_ins q_k52 117 = some (.getfield 61, 6, 12) from rfl) (j := 12) (zk_T_12 ht1) rfl ?_
  obtain ⟨s21, hs21, h⟩ := zt_letE h
  refine zt_putI zy_52 (show q_ins q_k52 120 = some (.putfield 61, 6, 12) from rfl) (j := 12) (zk_T_12 ht0) rfl rfl rfl ?_
  rw [← hs21]
  refine zt_aload_n zy_52 (show q_ins q_k52 123 = some (.aload_n 0, 0, 0) from rfl) (v := t0) rfl ?_
  refine zt_aload_n zy_52 (show q_ins q_k52 124 = some (.aload_n 1, 0, 0) from rfl) (v := t1) rfl ?_
  refine zt_getI zy_52 (show q_ins q_k52 125 = some (.getfield 64, 6, 13) from rfl) (j := 13) (zk_T_13 ht1) rfl ?_
  obtain ⟨hg, h⟩ := zt_ckE h
  obtain ⟨s22, hs22, h⟩ := zt_letE h
  refine zt_putZ zy_52 (show q_ins q_k52 128 = some (.putfield 64, 6, 13) from rfl) (j := 13) (zk_T_13 ht0) rfl rfl hg rfl ?_
  rw [← hs22]
  refine zt_aload_n zy_52 (show q_ins q_k52 131 = some (.aload_n 0, 0, 0) from rfl) (v := t0) rfl ?_
  refine zt_aload_n zy_52 (show q_ins q_k52 132 = some (.aload_n 1, 0, 0) from rfl) (v := t1) rfl ?_
  refine zt_getI zy_52 (show q_ins q_k52 133 = some (.getfield 68, 6, 14) from rfl) (j := 14) (zk_T_14 ht1) rfl ?_
  obtain ⟨s23, hs23, h⟩ := zt_letE h
  refine zt_putI zy_52 (show q_ins q_k52 136 = some (.putfield 68, 6, 14) from rfl) (j := 14) (zk_T_14 ht0) rfl rfl rfl ?_
  rw [← hs23]
  refine zt_aload_n zy_52 (show q_ins q_k52 139 = some (.aload_n 0, 0, 0) from rfl) (v := t0) rfl ?_
  refine zt_aload_n zy_52 (show q_ins q_k52 140 = some (.aload_n 1, 0, 0) from rfl) (v := t1) rfl ?_
  refine zt_getI zy_52 (show q_ins q_k52 141 = some (.getfield 71, 6, 15) from rfl) (j := 15) (zk_T_15 ht1) rfl ?_
  obtain ⟨s24, hs24, h⟩ := zt_letE h
  refine zt_putI zy_52 (show q_ins q_k52 144 = some (.putfield 71, 6, 15) from rfl) (j := 15) (zk_T_15 ht0) rfl rfl rfl ?_
  rw [← hs24]
  refine zt_aload_n zy_52 (show q_ins q_k52 147 = some (.aload_n 0, 0, 0) from rfl) (v := t0) rfl ?_
  refine zt_aload_n zy_52 (show q_ins q_k52 148 = some (.aload_n 1, 0, 0) from rfl) (v := t1) rfl ?_
  refine zt_getI zy_52 (show q_ins q_k52 149 = some (.getfield 84, 6, 16) from rfl) (j := 16) (zk_T_16 ht1) rfl ?_
  obtain ⟨s25, hs25, h⟩ := zt_letE h
  refine zt_putI zy_52 (show q_ins q_k52 152 = some (.putfield 84, 6, 16) from rfl) (j := 16) (zk_T_16 ht0) rfl rfl rfl ?_
  rw [← hs25]
  refine zt_aload_n zy_52 (show q_ins q_k52 155 = some (.aload_n 0, 0, 0) from rfl) (v := t0) rfl ?_
  refine zt_aload_n zy_52 (show q_ins q_k52 156 = some (.aload_n 1, 0, 0) from rfl) (v := t1) rfl ?_
  refine zt_getI zy_52 (show q_ins q_k52 157 = some (.getfield 87, 6, 17) from rfl) (j := 17) (zk_T_17 ht1) rfl ?_
  obtain ⟨s26, hs26, h⟩ := zt_letE h
  refine zt_putI zy_52 (show q_ins q_k52 160 = some (.putfield 87, 6, 17) from rfl) (j := 17) (zk_T_17 ht0) rfl rfl rfl ?_
  rw [← hs26]
  refine zt_aload_n zy_52 (show q_ins q_k52 163 = some (.aload_n 0, 0, 0) from rfl) (v := t0) rfl ?_
  refine zt_aload_n zy_52 (show q_ins q_k52 164 = some (.aload_n 1, 0, 0) from rfl) (v := t1) rfl ?_
  refine zt_getI zy_52 (show q_ins q_k52 165 = some (.getfield 74, 6, 18) from rfl) (j := 18) (zk_T_18 ht1) rfl ?_
  obtain ⟨s27, hs27, h⟩ := zt_letE h
  refine zt_putI zy_52 (show q_ins q_k52 168 = some (.putfield 74, 6, 18) from rfl) (j := 18) (zk_T_18 ht0) rfl rfl rfl ?_
  rw [← hs27]
  cases h
  exact zt_ret zy_52 (show q_ins q_k52 171 = some (.return_, 0, 0) from rfl)
theorem S_Hi_keep_40 {X : q_X} {t1 : Nat} (ht1 : t1 ∈ zt_tabs) : ∀ (x0 : Int) (σ : zt_S) (o : (Unit × zt_S)), F_Hi_keep_40 t1 x0 σ = some o → zt_Ex X 2 8 40 [(0, .ref 16)] [.int (Int32.ofInt x0), .ref 16] (zt_M T σ) (zo_V T o) := by
  intro x0 σ o  h
  unfold F_Hi_keep_40 at h
  obtain ⟨s5, hs5, h⟩ := zt_letE h
  refine zt_putI zy_8 (show q_ins q_k8 40 = some (.putfield 20, 1, 1) from rfl) (j := 1) zk_16_1 rfl rfl rfl ?_
  rw [← hs5]
  refine zt_aload_n zy_8 (show q_ins q_k8 43 = some (.aload_n 0, 0, 0) from rfl) (v := 16) rfl ?_
  refine zt_aload_n zy_8 (show q_ins q_k8 44 = some (.aload_n 0, 0, 0) from rfl) (v := 16) rfl ?_
  refine zt_getI zy_8 (show q_ins q_k8 45 = some (.getfield 24, 1, 2) from rfl) (j := 2) zk_16_2 rfl ?_
  refine zt_iconst zy_8 (show q_ins q_k8 48 = some (.iconst 1, 0, 0) from rfl) ?_
  refine zt_iadd zy_8 (show q_ins q_k8 49 = some (.iadd, 0, 0) from rfl) ?_
  refine zt_bipush zy_8 (show q_ins q_k8 50 = some (.bipush 10, 0, 0) from rfl) (by decide) ?_
  obtain ⟨hg, h⟩ := zt_ckE h
  refine zt_min zy_8 (show q_ins q_k8 52 = some (.invokestatic 35, 911, 2) from rfl) rfl ⟨hg, by decide⟩ (by simp [Value.category]) ?_
  obtain ⟨s6, hs6, h⟩ := zt_letE h
  refine zt_putI zy_8 (show q_ins q_k8 55 = some (.putfield 24, 1, 2) from rfl) (j := 2) zk_16_2 rfl rfl rfl ?_
  rw [← hs6]
  cases h
  exact zt_ret zy_8 (show q_ins q_k8 58 = some (.return_, 0, 0) from rfl)
theorem S_Hi_keep {X : q_X} {t1 : Nat} (ht1 : t1 ∈ zt_tabs)  {σ : zt_S} {o : (Unit × zt_S)} (h : F_Hi_keep t1  σ = some o) : zt_Ex X 2 8 0 (lv_args 0 [.ref 16, .ref t1]) [] (zt_M T σ) (zo_V T o) := by
  unfold F_Hi_keep at h
  refine zt_aload_n zy_8 (show q_ins q_k8 0 = some (.aload_n 0, 0, 0) from rfl) (v := 16) rfl ?_
  refine zt_aload_n zy_8 (show q_ins q_k8 1 = some (.aload_n 0, 0, 0) from rfl) (v := 16) rfl ?_
  refine zt_getI zy_8 (show q_ins q_k8 2 = some (.getfield 20, 1, 1) from rfl) (j := 1) zk_16_1 rfl ?_
  obtain ⟨a1, s2, hca1, h⟩ := zt_bdE h
  refine zt_callV (d := 1) zy_8 (show q_ins q_k8 5 = some (.invokevirtual 27, 10, 1) from rfl) zy_10 (by decide) ⟨zq_lt (by decide), by decide⟩ rfl (by simp [Value.category]) (by simp [lg_sl, Value.category]) (zt_rcv zc_16) (zt_dm (by decide) (S_Hi_rowAt hca1)) ?_
  obtain ⟨ha1, h⟩ := zt_ckE h
  refine zt_astore_n zy_8 (show q_ins q_k8 8 = some (.astore_n 2, 0, 0) from rfl) (by decide) ?_
  refine zt_aload_n zy_8 (show q_ins q_k8 9 = some (.aload_n 2, 0, 0) from rfl) (v := a1) rfl ?_
  refine zt_ifnull_r zy_8 (show q_ins q_k8 10 = some (.ifnull 8, 18, 0) from rfl) ?_
  refine zt_aload_n zy_8 (show q_ins q_k8 13 = some (.aload_n 2, 0, 0) from rfl) (v := a1) rfl ?_
  refine zt_aload_n zy_8 (show q_ins q_k8 14 = some (.aload_n 1, 0, 0) from rfl) (v := t1) rfl ?_
  obtain ⟨a3, s4, hca3, h⟩ := zt_bdE h
  refine zt_callV (d := 1) zy_8 (show q_ins q_k8 15 = some (.invokevirtual 31, 52, 1) from rfl) zy_52 (by decide) ⟨zq_lt (by decide), by decide⟩ rfl (by simp [Value.category]) (by simp [lg_sl, Value.category]) (zt_rcv (zc_T ha1)) (zt_dm (by decide) (S_Tb_copyFrom ha1 ht1 hca3)) ?_
  refine zt_aload_n zy_8 (show q_ins q_k8 18 = some (.aload_n 0, 0, 0) from rfl) (v := 16) rfl ?_
  refine zt_aload_n zy_8 (show q_ins q_k8 19 = some (.aload_n 0, 0, 0) from rfl) (v := 16) rfl ?_
  refine zt_getI zy_8 (show q_ins q_k8 20 = some (.getfield 20, 1, 1) from rfl) (j := 1) zk_16_1 rfl ?_
  refine zt_iconst zy_8 (show q_ins q_k8 23 = some (.iconst 1, 0, 0) from rfl) ?_
  refine zt_iadd zy_8 (show q_ins q_k8 24 = some (.iadd, 0, 0) from rfl) ?_
  refine zt_bipush zy_8 (show q_ins q_k8 25 = some (.bipush 10, 0, 0) from rfl) (by decide) ?_
  obtain ⟨hg, h⟩ := zt_ckE h
  refine zt_icmp_ge zy_8 (show q_ins q_k8 27 = some (.if_icmp .ge 12, 39, 0) from rfl) (⟨hg, by decide⟩) (fun hc => ?_) (fun hc => ?_)
  · rw [if_pos hc] at h
    refine zt_aload_n zy_8 (show q_ins q_k8 30 = some (.aload_n 0, 0, 0) from rfl) (v := 16) rfl ?_
    refine zt_getI zy_8 (show q_ins q_k8 31 = some (.getfield 20, 1, 1) from rfl) (j := 1) zk_16_1 rfl ?_
    refine zt_iconst zy_8 (show q_ins q_k8 34 = some (.iconst 1, 0, 0) from rfl) ?_
    refine zt_iadd zy_8 (show q_ins q_k8 35 = some (.iadd, 0, 0) from rfl) ?_
    refine zt_goto zy_8 (show q_ins q_k8 36 = some (.goto 4, 40, 0) from rfl) ?_
    exact zt_wk (zt_cov_cons rfl (zt_cov_nil)) (S_Hi_keep_40  ht1 _ _ _ h)
  · rw [if_neg hc] at h
    refine zt_iconst zy_8 (show q_ins q_k8 39 = some (.iconst 0, 0, 0) from rfl) ?_
    exact zt_wk (zt_cov_cons rfl (zt_cov_nil)) (S_Hi_keep_40  ht1 _ _ _ h)
theorem S_Hi_takeBack_19 {X : q_X} {t1 : Nat} (ht1 : t1 ∈ zt_tabs) : ∀ (x0 : Int) (σ : zt_S) (o : (Unit × zt_S)), F_Hi_takeBack_19 t1 x0 σ = some o → zt_Ex X 2 9 19 [(0, .ref 16), (1, .ref t1)] [.int (Int32.ofInt x0), .ref 16] (zt_M T σ) (zo_V T o) := by
  intro x0 σ o  h
  unfold F_Hi_takeBack_19 at h
  obtain ⟨s1, hs1, h⟩ := zt_letE h
  refine zt_putI zy_9 (show q_ins q_k9 19 = some (.putfield 20, 1, 1) from rfl) (j := 1) zk_16_1 rfl rfl rfl ?_
  rw [← hs1]
  refine zt_aload_n zy_9 (show q_ins q_k9 22 = some (.aload_n 0, 0, 0) from rfl) (v := 16) rfl ?_
  refine zt_aload_n zy_9 (show q_ins q_k9 23 = some (.aload_n 0, 0, 0) from rfl) (v := 16) rfl ?_
  refine zt_getI zy_9 (show q_ins q_k9 24 = some (.getfield 24, 1, 2) from rfl) (j := 2) zk_16_2 rfl ?_
  refine zt_iconst zy_9 (show q_ins q_k9 27 = some (.iconst 1, 0, 0) from rfl) ?_
  refine zt_isub zy_9 (show q_ins q_k9 28 = some (.isub, 0, 0) from rfl) ?_
  refine zt_iconst zy_9 (show q_ins q_k9 29 = some (.iconst 0, 0, 0) from rfl) ?_
  obtain ⟨hg, h⟩ := zt_ckE h
  refine zt_max zy_9 (show q_ins q_k9 30 = some (.invokestatic 41, 910, 2) from rfl) rfl ⟨hg, by decide⟩ (by simp [Value.category]) ?_
  obtain ⟨s2, hs2, h⟩ := zt_letE h
  refine zt_putI zy_9 (show q_ins q_k9 33 = some (.putfield 24, 1, 2) from rfl) (j := 2) zk_16_2 rfl rfl rfl ?_
  rw [← hs2]
  refine zt_aload_n zy_9 (show q_ins q_k9 36 = some (.aload_n 0, 0, 0) from rfl) (v := 16) rfl ?_
  refine zt_aload_n zy_9 (show q_ins q_k9 37 = some (.aload_n 0, 0, 0) from rfl) (v := 16) rfl ?_
  refine zt_getI zy_9 (show q_ins q_k9 38 = some (.getfield 20, 1, 1) from rfl) (j := 1) zk_16_1 rfl ?_
  obtain ⟨a3, s4, hca3, h⟩ := zt_bdE h
  refine zt_callV (d := 1) zy_9 (show q_ins q_k9 41 = some (.invokevirtual 27, 10, 1) from rfl) zy_10 (by decide) ⟨zq_lt (by decide), by decide⟩ rfl (by simp [Value.category]) (by simp [lg_sl, Value.category]) (zt_rcv zc_16) (zt_dm (by decide) (S_Hi_rowAt hca3)) ?_
  obtain ⟨ha3, h⟩ := zt_ckE h
  refine zt_astore_n zy_9 (show q_ins q_k9 44 = some (.astore_n 2, 0, 0) from rfl) (by decide) ?_
  refine zt_aload_n zy_9 (show q_ins q_k9 45 = some (.aload_n 2, 0, 0) from rfl) (v := a3) rfl ?_
  refine zt_ifnull_r zy_9 (show q_ins q_k9 46 = some (.ifnull 8, 54, 0) from rfl) ?_
  refine zt_aload_n zy_9 (show q_ins q_k9 49 = some (.aload_n 1, 0, 0) from rfl) (v := t1) rfl ?_
  refine zt_aload_n zy_9 (show q_ins q_k9 50 = some (.aload_n 2, 0, 0) from rfl) (v := a3) rfl ?_
  obtain ⟨a5, s6, hca5, h⟩ := zt_bdE h
  refine zt_callV (d := 1) zy_9 (show q_ins q_k9 51 = some (.invokevirtual 31, 52, 1) from rfl) zy_52 (by decide) ⟨zq_lt (by decide), by decide⟩ rfl (by simp [Value.category]) (by simp [lg_sl, Value.category]) (zt_rcv (zc_T ht1)) (zt_dm (by decide) (S_Tb_copyFrom ht1 ha3 hca5)) ?_
  cases h
  exact zt_ret zy_9 (show q_ins q_k9 54 = some (.return_, 0, 0) from rfl)
theorem S_Hi_takeBack {X : q_X} {t1 : Nat} (ht1 : t1 ∈ zt_tabs)  {σ : zt_S} {o : (Unit × zt_S)} (h : F_Hi_takeBack t1  σ = some o) : zt_Ex X 2 9 0 (lv_args 0 [.ref 16, .ref t1]) [] (zt_M T σ) (zo_V T o) := by
  unfold F_Hi_takeBack at h
  refine zt_aload_n zy_9 (show q_ins q_k9 0 = some (.aload_n 0, 0, 0) from rfl) (v := 16) rfl ?_
  refine zt_aload_n zy_9 (show q_ins q_k9 1 = some (.aload_n 0, 0, 0) from rfl) (v := 16) rfl ?_
  refine zt_getI zy_9 (show q_ins q_k9 2 = some (.getfield 20, 1, 1) from rfl) (j := 1) zk_16_1 rfl ?_
  obtain ⟨hg, h⟩ := zt_ckE h
  refine zt_if_le zy_9 (show q_ins q_k9 5 = some (.ifCond .le 12, 17, 0) from rfl) (hg) (fun hc => ?_) (fun hc => ?_)
  · rw [if_pos hc] at h
    refine zt_aload_n zy_9 (show q_ins q_k9 8 = some (.aload_n 0, 0, 0) from rfl) (v := 16) rfl ?_
    refine zt_getI zy_9 (show q_ins q_k9 9 = some (.getfield 20, 1, 1) from rfl) (j := 1) zk_16_1 rfl ?_
    refine zt_iconst zy_9 (show q_ins q_k9 12 = some (.iconst 1, 0, 0) from rfl) ?_
    refine zt_isub zy_9 (show q_ins q_k9 13 = some (.isub, 0, 0) from rfl) ?_
    refine zt_goto zy_9 (show q_ins q_k9 14 = some (.goto 5, 19, 0) from rfl) ?_
    exact zt_wk (zt_cov_cons rfl (zt_cov_cons rfl (zt_cov_nil))) (S_Hi_takeBack_19  ht1 _ _ _ h)
  · rw [if_neg hc] at h
    refine zt_bipush zy_9 (show q_ins q_k9 17 = some (.bipush 9, 0, 0) from rfl) (by decide) ?_
    exact zt_wk (zt_cov_cons rfl (zt_cov_cons rfl (zt_cov_nil))) (S_Hi_takeBack_19  ht1 _ _ _ h)
theorem S_Rw_set_14 {X : q_X} {c0 : Nat} {n0 : Nat} (ha0 : zt_sh[c0]? = some (.inl (0, n0))) (hn0 : n0 ≤ 1000000) : ∀  (σ : zt_S) (o : (Unit × zt_S)), F_Rw_set_14 c0 n0  σ = some o → zt_Ex X 0 310 14 [] [] (zt_M T σ) (zo_V T o) := by
  intro  σ o  h
  unfold F_Rw_set_14 at h
  cases h
  exact zt_ret zy_310 (show q_ins q_k310 14 = some (.return_, 0, 0) from rfl)
theorem S_Rw_set {X : q_X} {c0 : Nat} {n0 : Nat} (ha0 : zt_sh[c0]? = some (.inl (0, n0))) (hn0 : n0 ≤ 1000000) {v1 : Int} {v2 : Int} {σ : zt_S} {o : (Unit × zt_S)} (h : F_Rw_set c0 n0 v1 v2 σ = some o) : zt_Ex X 0 310 0 (lv_args 0 [.ref c0, .int (Int32.ofInt v1), .int (Int32.ofInt v2)]) [] (zt_M T σ) (zo_V T o) := by
  unfold F_Rw_set at h
  refine zt_iload_n zy_310 (show q_ins q_k310 0 = some (.iload_n 1, 0, 0) from rfl) (v := Int32.ofInt v1) rfl ?_
  obtain ⟨hg, h⟩ := zt_ckE h
  refine zt_if_lt zy_310 (show q_ins q_k310 1 = some (.ifCond .lt 13, 14, 0) from rfl) (hg) (fun hc => ?_) (fun hc => ?_)
  · rw [if_pos hc] at h
    exact zt_wk (zt_cov_nil) (S_Rw_set_14  ha0 hn0 _ _ h)
  · rw [if_neg hc] at h
    refine zt_iload_n zy_310 (show q_ins q_k310 4 = some (.iload_n 1, 0, 0) from rfl) (v := Int32.ofInt v1) rfl ?_
    refine zt_aload_n zy_310 (show q_ins q_k310 5 = some (.aload_n 0, 0, 0) from rfl) (v := c0) rfl ?_
    refine zt_alen zy_310 (show q_ins q_k310 6 = some (.arraylength, 0, 0) from rfl) ha0 (by decide) ?_
    obtain ⟨hg, h⟩ := zt_ckE h
    refine zt_icmp_ge zy_310 (show q_ins q_k310 7 = some (.if_icmp .ge 7, 14, 0) from rfl) (⟨hg.1, hg.2⟩) (fun hc => ?_) (fun hc => ?_)
    · rw [if_pos hc] at h
      refine zt_aload_n zy_310 (show q_ins q_k310 10 = some (.aload_n 0, 0, 0) from rfl) (v := c0) rfl ?_
      refine zt_iload_n zy_310 (show q_ins q_k310 11 = some (.iload_n 1, 0, 0) from rfl) (v := Int32.ofInt v1) rfl ?_
      refine zt_iload_n zy_310 (show q_ins q_k310 12 = some (.iload_n 2, 0, 0) from rfl) (v := Int32.ofInt v2) rfl ?_
      obtain ⟨hg, h⟩ := zt_ckE h
      obtain ⟨s1, hs1, h⟩ := zt_letE h
      refine zt_ast zy_310 (show q_ins q_k310 13 = some (.iastore, 0, 0) from rfl) ha0 hn0 hg ?_
      rw [← hs1]
      exact zt_wk (zt_cov_nil) (S_Rw_set_14  ha0 hn0 _ _ h)
    · rw [if_neg hc] at h
      exact zt_wk (zt_cov_nil) (S_Rw_set_14  ha0 hn0 _ _ h)
theorem S_Rw_at_17 {X : q_X} {c0 : Nat} {n0 : Nat} (ha0 : zt_sh[c0]? = some (.inl (0, n0))) (hn0 : n0 ≤ 1000000) : ∀ (x0 : Int) (σ : zt_S) (o : (Int × zt_S)), F_Rw_at_17 c0 n0 x0 σ = some o → zt_Ex X 0 309 17 [] [.int (Int32.ofInt x0)] (zt_M T σ) (zo_I T o) := by
  intro x0 σ o  h
  unfold F_Rw_at_17 at h
  cases h
  exact zt_iret zy_309 (show q_ins q_k309 17 = some (.ireturn, 0, 0) from rfl)
theorem S_Rw_at_16 {X : q_X} {c0 : Nat} {n0 : Nat} (ha0 : zt_sh[c0]? = some (.inl (0, n0))) (hn0 : n0 ≤ 1000000) : ∀  (σ : zt_S) (o : (Int × zt_S)), F_Rw_at_16 c0 n0  σ = some o → zt_Ex X 0 309 16 [] [] (zt_M T σ) (zo_I T o) := by
  intro  σ o  h
  unfold F_Rw_at_16 at h
  refine zt_iconst zy_309 (show q_ins q_k309 16 = some (.iconst 0, 0, 0) from rfl) ?_
  exact zt_wk (zt_cov_nil) (S_Rw_at_17  ha0 hn0 _ _ _ h)
theorem S_Rw_at {X : q_X} {c0 : Nat} {n0 : Nat} (ha0 : zt_sh[c0]? = some (.inl (0, n0))) (hn0 : n0 ≤ 1000000) {v1 : Int} {σ : zt_S} {o : (Int × zt_S)} (h : F_Rw_at c0 n0 v1 σ = some o) : zt_Ex X 0 309 0 (lv_args 0 [.ref c0, .int (Int32.ofInt v1)]) [] (zt_M T σ) (zo_I T o) := by
  unfold F_Rw_at at h
  refine zt_iload_n zy_309 (show q_ins q_k309 0 = some (.iload_n 1, 0, 0) from rfl) (v := Int32.ofInt v1) rfl ?_
  obtain ⟨hg, h⟩ := zt_ckE h
  refine zt_if_lt zy_309 (show q_ins q_k309 1 = some (.ifCond .lt 15, 16, 0) from rfl) (hg) (fun hc => ?_) (fun hc => ?_)
  · rw [if_pos hc] at h
    exact zt_wk (zt_cov_nil) (S_Rw_at_16  ha0 hn0 _ _ h)
  · rw [if_neg hc] at h
    refine zt_iload_n zy_309 (show q_ins q_k309 4 = some (.iload_n 1, 0, 0) from rfl) (v := Int32.ofInt v1) rfl ?_
    refine zt_aload_n zy_309 (show q_ins q_k309 5 = some (.aload_n 0, 0, 0) from rfl) (v := c0) rfl ?_
    refine zt_alen zy_309 (show q_ins q_k309 6 = some (.arraylength, 0, 0) from rfl) ha0 (by decide) ?_
    obtain ⟨hg, h⟩ := zt_ckE h
    refine zt_icmp_ge zy_309 (show q_ins q_k309 7 = some (.if_icmp .ge 9, 16, 0) from rfl) (⟨hg.1, hg.2⟩) (fun hc => ?_) (fun hc => ?_)
    · rw [if_pos hc] at h
      refine zt_aload_n zy_309 (show q_ins q_k309 10 = some (.aload_n 0, 0, 0) from rfl) (v := c0) rfl ?_
      refine zt_iload_n zy_309 (show q_ins q_k309 11 = some (.iload_n 1, 0, 0) from rfl) (v := Int32.ofInt v1) rfl ?_
      obtain ⟨hg, h⟩ := zt_ckE h
      refine zt_ald zy_309 (show q_ins q_k309 12 = some (.iaload, 0, 0) from rfl) ha0 hn0 hg ?_
      refine zt_goto zy_309 (show q_ins q_k309 13 = some (.goto 4, 17, 0) from rfl) ?_
      exact zt_wk (zt_cov_nil) (S_Rw_at_17  ha0 hn0 _ _ _ h)
    · rw [if_neg hc] at h
      exact zt_wk (zt_cov_nil) (S_Rw_at_16  ha0 hn0 _ _ h)
theorem S_Pk_cardAt {X : q_X}   {v1 : Int} {σ : zt_S} {o : (Int × zt_S)} (h : F_Pk_cardAt  v1 σ = some o) : zt_Ex X 1 14 0 (lv_args 0 [.ref 4, .int (Int32.ofInt v1)]) [] (zt_M T σ) (zo_I T o) := by
  unfold F_Pk_cardAt at h
  refine zt_aload_n zy_14 (show q_ins q_k14 0 = some (.aload_n 0, 0, 0) from rfl) (v := 4) rfl ?_
  refine zt_getR zy_14 (show q_ins q_k14 1 = some (.getfield 9, 2, 0) from rfl) (r := 5) zk_4_0 ?_
  refine zt_iload_n zy_14 (show q_ins q_k14 4 = some (.iload_n 1, 0, 0) from rfl) (v := Int32.ofInt v1) rfl ?_
  obtain ⟨a1, s2, hca1, h⟩ := zt_bdE h
  refine zt_callS (d := 0) zy_14 (show q_ins q_k14 5 = some (.invokestatic 30, 309, 2) from rfl) zy_309 (by decide) ⟨zq_lt (by decide), by decide⟩ rfl (by simp [Value.category]) (by simp [lg_sl, Value.category]) rfl (zt_dm (by decide) (S_Rw_at za_5 (by decide) hca1)) ?_
  cases h
  exact zt_iret zy_14 (show q_ins q_k14 8 = some (.ireturn, 0, 0) from rfl)
theorem S_Pk_exchange {X : q_X}   {v1 : Int} {v2 : Int} {σ : zt_S} {o : (Unit × zt_S)} (h : F_Pk_exchange  v1 v2 σ = some o) : zt_Ex X 2 13 0 (lv_args 0 [.ref 4, .int (Int32.ofInt v1), .int (Int32.ofInt v2)]) [] (zt_M T σ) (zo_V T o) := by
  unfold F_Pk_exchange at h
  refine zt_aload_n zy_13 (show q_ins q_k13 0 = some (.aload_n 0, 0, 0) from rfl) (v := 4) rfl ?_
  refine zt_iload_n zy_13 (show q_ins q_k13 1 = some (.iload_n 1, 0, 0) from rfl) (v := Int32.ofInt v1) rfl ?_
  obtain ⟨a1, s2, hca1, h⟩ := zt_bdE h
  refine zt_callV (d := 1) zy_13 (show q_ins q_k13 2 = some (.invokevirtual 26, 14, 1) from rfl) zy_14 (by decide) ⟨zq_lt (by decide), by decide⟩ rfl (by simp [Value.category]) (by simp [lg_sl, Value.category]) (zt_rcv zc_4) (zt_dm (by decide) (S_Pk_cardAt hca1)) ?_
  refine zt_istore_n zy_13 (show q_ins q_k13 5 = some (.istore_n 3, 0, 0) from rfl) (by decide) ?_
  refine zt_aload_n zy_13 (show q_ins q_k13 6 = some (.aload_n 0, 0, 0) from rfl) (v := 4) rfl ?_
  refine zt_getR zy_13 (show q_ins q_k13 7 = some (.getfield 9, 2, 0) from rfl) (r := 5) zk_4_0 ?_
  refine zt_iload_n zy_13 (show q_ins q_k13 10 = some (.iload_n 1, 0, 0) from rfl) (v := Int32.ofInt v1) rfl ?_
  refine zt_aload_n zy_13 (show q_ins q_k13 11 = some (.aload_n 0, 0, 0) from rfl) (v := 4) rfl ?_
  refine zt_iload_n zy_13 (show q_ins q_k13 12 = some (.iload_n 2, 0, 0) from rfl) (v := Int32.ofInt v2) rfl ?_
  obtain ⟨a3, s4, hca3, h⟩ := zt_bdE h
  refine zt_callV (d := 1) zy_13 (show q_ins q_k13 13 = some (.invokevirtual 26, 14, 1) from rfl) zy_14 (by decide) ⟨zq_lt (by decide), by decide⟩ rfl (by simp [Value.category]) (by simp [lg_sl, Value.category]) (zt_rcv zc_4) (zt_dm (by decide) (S_Pk_cardAt hca3)) ?_
  obtain ⟨a5, s6, hca5, h⟩ := zt_bdE h
  refine zt_callS (d := 1) zy_13 (show q_ins q_k13 16 = some (.invokestatic 15, 310, 3) from rfl) zy_310 (by decide) ⟨zq_lt (by decide), by decide⟩ rfl (by simp [Value.category]) (by simp [lg_sl, Value.category]) rfl (zt_dm (by decide) (S_Rw_set za_5 (by decide) hca5)) ?_
  refine zt_aload_n zy_13 (show q_ins q_k13 19 = some (.aload_n 0, 0, 0) from rfl) (v := 4) rfl ?_
  refine zt_getR zy_13 (show q_ins q_k13 20 = some (.getfield 9, 2, 0) from rfl) (r := 5) zk_4_0 ?_
  refine zt_iload_n zy_13 (show q_ins q_k13 23 = some (.iload_n 2, 0, 0) from rfl) (v := Int32.ofInt v2) rfl ?_
  refine zt_iload_n zy_13 (show q_ins q_k13 24 = some (.iload_n 3, 0, 0) from rfl) (v := Int32.ofInt a1) rfl ?_
  obtain ⟨a7, s8, hca7, h⟩ := zt_bdE h
  refine zt_callS (d := 1) zy_13 (show q_ins q_k13 25 = some (.invokestatic 15, 310, 3) from rfl) zy_310 (by decide) ⟨zq_lt (by decide), by decide⟩ rfl (by simp [Value.category]) (by simp [lg_sl, Value.category]) rfl (zt_dm (by decide) (S_Rw_set za_5 (by decide) hca7)) ?_
  cases h
  exact zt_ret zy_13 (show q_ins q_k13 28 = some (.return_, 0, 0) from rfl)
theorem S_Pk_mix_29 {X : q_X}   : ∀ (n : Nat) (v3 : Int) (v4 : Int) (σ : zt_S) (o : (Unit × zt_S)), F_Pk_mix_29  n v3 v4 σ = some o → zt_Ex X 3 12 29 [(0, .ref 4), (3, .int (Int32.ofInt v3)), (4, .int (Int32.ofInt v4))] [] (zt_M T σ) (zo_V T o) := by
  intro n
  induction n with
  | zero => intro v3 v4 σ o  h; cases h
  | succ n ih =>
  intro v3 v4 σ o  h
  rw [F_Pk_mix_29] at h
  refine zt_iload zy_12 (show q_ins q_k12 29 = some (.iload 4, 0, 0) from rfl) (v := Int32.ofInt v4) rfl ?_
  refine zt_iconst zy_12 (show q_ins q_k12 31 = some (.iconst 1, 0, 0) from rfl) ?_
  obtain ⟨hg, h⟩ := zt_ckE h
  refine zt_icmp_lt zy_12 (show q_ins q_k12 32 = some (.if_icmp .lt 34, 66, 0) from rfl) (⟨hg, by decide⟩) (fun hc => ?_) (fun hc => ?_)
  · rw [if_pos hc] at h
    cases h
    exact zt_ret zy_12 (show q_ins q_k12 66 = some (.return_, 0, 0) from rfl)
  · rw [if_neg hc] at h
    refine zt_iload_n zy_12 (show q_ins q_k12 35 = some (.iload_n 3, 0, 0) from rfl) (v := Int32.ofInt v3) rfl ?_
    refine zt_sipush zy_12 (show q_ins q_k12 36 = some (.sipush 1103, 0, 0) from rfl) (by decide) ?_
    refine zt_imul zy_12 (show q_ins q_k12 39 = some (.imul, 0, 0) from rfl) ?_
    refine zt_sipush zy_12 (show q_ins q_k12 40 = some (.sipush 12345, 0, 0) from rfl) (by decide) ?_
    refine zt_iadd zy_12 (show q_ins q_k12 43 = some (.iadd, 0, 0) from rfl) ?_
    refine zt_ldcI zy_12 (show q_ins q_k12 44 = some (.ldc 21, 0, 100003) from rfl) (n := (100003 : Int)) rfl (by decide) ?_
    obtain ⟨hg, h⟩ := zt_ckE h
    refine zt_irem zy_12 (show q_ins q_k12 46 = some (.irem, 0, 0) from rfl) hg (by decide) ?_
    refine zt_istore_n zy_12 (show q_ins q_k12 47 = some (.istore_n 3, 0, 0) from rfl) (by decide) ?_
    refine zt_aload_n zy_12 (show q_ins q_k12 48 = some (.aload_n 0, 0, 0) from rfl) (v := 4) rfl ?_
    refine zt_iload zy_12 (show q_ins q_k12 49 = some (.iload 4, 0, 0) from rfl) (v := Int32.ofInt v4) rfl ?_
    refine zt_iload_n zy_12 (show q_ins q_k12 51 = some (.iload_n 3, 0, 0) from rfl) (v := Int32.ofInt (((v3 * (1103 : Int)) + (12345 : Int)) % (100003 : Int))) rfl ?_
    refine zt_iload zy_12 (show q_ins q_k12 52 = some (.iload 4, 0, 0) from rfl) (v := Int32.ofInt v4) rfl ?_
    refine zt_iconst zy_12 (show q_ins q_k12 54 = some (.iconst 1, 0, 0) from rfl) ?_
    refine zt_iadd zy_12 (show q_ins q_k12 55 = some (.iadd, 0, 0) from rfl) ?_
    obtain ⟨hg, h⟩ := zt_ckE h
    refine zt_irem zy_12 (show q_ins q_k12 56 = some (.irem, 0, 0) from rfl) hg.1 hg.2 ?_
    obtain ⟨a3, s4, hca3, h⟩ := zt_bdE h
    refine zt_callV (d := 2) zy_12 (show q_ins q_k12 57 = some (.invokevirtual 22, 13, 2) from rfl) zy_13 (by decide) ⟨zq_lt (by decide), by decide⟩ rfl (by simp [Value.category]) (by simp [lg_sl, Value.category]) (zt_rcv zc_4) (zt_dm (by decide) (S_Pk_exchange hca3)) ?_
    refine zt_iinc zy_12 (show q_ins q_k12 60 = some (.iinc 4 (-1), 0, 0) from rfl) (v := v4) (by decide) rfl ?_
    refine zt_goto zy_12 (show q_ins q_k12 63 = some (.goto (-34), 29, 0) from rfl) ?_
    exact zt_wk (zt_cov_cons rfl (zt_cov_cons rfl (zt_cov_cons rfl (zt_cov_nil)))) (ih _ _ _ _ h)
theorem S_Pk_mix_2 {X : q_X}   : ∀ (n : Nat) (v1 : Int) (v2 : Int) (v3 : Int) (σ : zt_S) (o : (Unit × zt_S)), F_Pk_mix_2  n v1 v2 v3 σ = some o → zt_Ex X 3 12 2 [(0, .ref 4), (1, .int (Int32.ofInt v1)), (2, .int (Int32.ofInt v2)), (3, .int (Int32.ofInt v3))] [] (zt_M T σ) (zo_V T o) := by
  intro n
  induction n with
  | zero => intro v1 v2 v3 σ o  h; cases h
  | succ n ih =>
  intro v1 v2 v3 σ o  h
  rw [F_Pk_mix_2] at h
  refine zt_iload_n zy_12 (show q_ins q_k12 2 = some (.iload_n 3, 0, 0) from rfl) (v := Int32.ofInt v3) rfl ?_
  refine zt_iload_n zy_12 (show q_ins q_k12 3 = some (.iload_n 2, 0, 0) from rfl) (v := Int32.ofInt v2) rfl ?_
  obtain ⟨hg, h⟩ := zt_ckE h
  refine zt_icmp_ge zy_12 (show q_ins q_k12 4 = some (.if_icmp .ge 18, 22, 0) from rfl) (⟨hg.1, hg.2⟩) (fun hc => ?_) (fun hc => ?_)
  · rw [if_pos hc] at h
    refine zt_aload_n zy_12 (show q_ins q_k12 7 = some (.aload_n 0, 0, 0) from rfl) (v := 4) rfl ?_
    refine zt_getR zy_12 (show q_ins q_k12 8 = some (.getfield 9, 2, 0) from rfl) (r := 5) zk_4_0 ?_
    refine zt_iload_n zy_12 (show q_ins q_k12 11 = some (.iload_n 3, 0, 0) from rfl) (v := Int32.ofInt v3) rfl ?_
    refine zt_iload_n zy_12 (show q_ins q_k12 12 = some (.iload_n 3, 0, 0) from rfl) (v := Int32.ofInt v3) rfl ?_
    obtain ⟨a1, s2, hca1, h⟩ := zt_bdE h
    refine zt_callS (d := 2) zy_12 (show q_ins q_k12 13 = some (.invokestatic 15, 310, 3) from rfl) zy_310 (by decide) ⟨zq_lt (by decide), by decide⟩ rfl (by simp [Value.category]) (by simp [lg_sl, Value.category]) rfl (zt_dm (by decide) (S_Rw_set za_5 (by decide) hca1)) ?_
    refine zt_iinc zy_12 (show q_ins q_k12 16 = some (.iinc 3 1, 0, 0) from rfl) (v := v3) (by decide) rfl ?_
    refine zt_goto zy_12 (show q_ins q_k12 19 = some (.goto (-17), 2, 0) from rfl) ?_
    exact zt_wk (zt_cov_cons rfl (zt_cov_cons rfl (zt_cov_cons rfl (zt_cov_cons rfl (zt_cov_nil))))) (ih _ _ _ _ _ h)
  · rw [if_neg hc] at h
    refine zt_iload_n zy_12 (show q_ins q_k12 22 = some (.iload_n 1, 0, 0) from rfl) (v := Int32.ofInt v1) rfl ?_
    refine zt_istore_n zy_12 (show q_ins q_k12 23 = some (.istore_n 3, 0, 0) from rfl) (by decide) ?_
    refine zt_iload_n zy_12 (show q_ins q_k12 24 = some (.iload_n 2, 0, 0) from rfl) (v := Int32.ofInt v2) rfl ?_
    refine zt_iconst zy_12 (show q_ins q_k12 25 = some (.iconst 1, 0, 0) from rfl) ?_
    refine zt_isub zy_12 (show q_ins q_k12 26 = some (.isub, 0, 0) from rfl) ?_
    refine zt_istore zy_12 (show q_ins q_k12 27 = some (.istore 4, 0, 0) from rfl) (by decide) ?_
    exact zt_wk (zt_cov_cons rfl (zt_cov_cons rfl (zt_cov_cons rfl (zt_cov_nil)))) (S_Pk_mix_29  _ _ _ _ _ h)
theorem S_Pk_mix {X : q_X}   {v1 : Int} {v2 : Int} {σ : zt_S} {o : (Unit × zt_S)} (h : F_Pk_mix  v1 v2 σ = some o) : zt_Ex X 3 12 0 (lv_args 0 [.ref 4, .int (Int32.ofInt v1), .int (Int32.ofInt v2)]) [] (zt_M T σ) (zo_V T o) := by
  unfold F_Pk_mix at h
  refine zt_iconst zy_12 (show q_ins q_k12 0 = some (.iconst 0, 0, 0) from rfl) ?_
  refine zt_istore_n zy_12 (show q_ins q_k12 1 = some (.istore_n 3, 0, 0) from rfl) (by decide) ?_
  exact zt_wk (zt_cov_cons rfl (zt_cov_cons rfl (zt_cov_cons rfl (zt_cov_cons rfl (zt_cov_nil))))) (S_Pk_mix_2  _ _ _ _ _ _ h)
theorem S_Tk_kindAt_21 {X : q_X}   : ∀  (σ : zt_S) (o : (Int × zt_S)), F_Tk_kindAt_21   σ = some o → zt_Ex X 0 91 21 [] [] (zt_M T σ) (zo_I T o) := by
  intro  σ o  h
  unfold F_Tk_kindAt_21 at h
  refine zt_iconst zy_91 (show q_ins q_k91 21 = some (.iconst 0, 0, 0) from rfl) ?_
  cases h
  exact zt_iret zy_91 (show q_ins q_k91 22 = some (.ireturn, 0, 0) from rfl)
theorem S_Tk_kindAt_42 {X : q_X}   : ∀  (σ : zt_S) (o : (Int × zt_S)), F_Tk_kindAt_42   σ = some o → zt_Ex X 0 91 42 [] [] (zt_M T σ) (zo_I T o) := by
  intro  σ o  h
  unfold F_Tk_kindAt_42 at h
  refine zt_iconst zy_91 (show q_ins q_k91 42 = some (.iconst 1, 0, 0) from rfl) ?_
  cases h
  exact zt_iret zy_91 (show q_ins q_k91 43 = some (.ireturn, 0, 0) from rfl)
theorem S_Tk_kindAt_75 {X : q_X}   : ∀ (x0 : Int) (σ : zt_S) (o : (Int × zt_S)), F_Tk_kindAt_75  x0 σ = some o → zt_Ex X 0 91 75 [] [.int (Int32.ofInt x0)] (zt_M T σ) (zo_I T o) := by
  intro x0 σ o  h
  unfold F_Tk_kindAt_75 at h
  cases h
  exact zt_iret zy_91 (show q_ins q_k91 75 = some (.ireturn, 0, 0) from rfl)
theorem S_Tk_kindAt_74 {X : q_X}   : ∀  (σ : zt_S) (o : (Int × zt_S)), F_Tk_kindAt_74   σ = some o → zt_Ex X 0 91 74 [] [] (zt_M T σ) (zo_I T o) := by
  intro  σ o  h
  unfold F_Tk_kindAt_74 at h
  refine zt_iconst zy_91 (show q_ins q_k91 74 = some (.iconst 4, 0, 0) from rfl) ?_
  exact zt_wk (zt_cov_nil) (S_Tk_kindAt_75  _ _ _ h)
theorem S_Tk_kindAt_58 {X : q_X}   : ∀ (v2 : Int) (σ : zt_S) (o : (Int × zt_S)), F_Tk_kindAt_58  v2 σ = some o → zt_Ex X 0 91 58 [(2, .int (Int32.ofInt v2))] [] (zt_M T σ) (zo_I T o) := by
  intro v2 σ o  h
  unfold F_Tk_kindAt_58 at h
  refine zt_iload_n zy_91 (show q_ins q_k91 58 = some (.iload_n 2, 0, 0) from rfl) (v := Int32.ofInt v2) rfl ?_
  refine zt_bipush zy_91 (show q_ins q_k91 59 = some (.bipush 48, 0, 0) from rfl) (by decide) ?_
  obtain ⟨hg, h⟩ := zt_ckE h
  refine zt_icmp_lt zy_91 (show q_ins q_k91 61 = some (.if_icmp .lt 13, 74, 0) from rfl) (⟨hg, by decide⟩) (fun hc => ?_) (fun hc => ?_)
  · rw [if_pos hc] at h
    exact zt_wk (zt_cov_nil) (S_Tk_kindAt_74  _ _ h)
  · rw [if_neg hc] at h
    refine zt_iload_n zy_91 (show q_ins q_k91 64 = some (.iload_n 2, 0, 0) from rfl) (v := Int32.ofInt v2) rfl ?_
    refine zt_bipush zy_91 (show q_ins q_k91 65 = some (.bipush 57, 0, 0) from rfl) (by decide) ?_
    obtain ⟨hg, h⟩ := zt_ckE h
    refine zt_icmp_gt zy_91 (show q_ins q_k91 67 = some (.if_icmp .gt 7, 74, 0) from rfl) (⟨hg, by decide⟩) (fun hc => ?_) (fun hc => ?_)
    · rw [if_pos hc] at h
      exact zt_wk (zt_cov_nil) (S_Tk_kindAt_74  _ _ h)
    · rw [if_neg hc] at h
      refine zt_iconst zy_91 (show q_ins q_k91 70 = some (.iconst 3, 0, 0) from rfl) ?_
      refine zt_goto zy_91 (show q_ins q_k91 71 = some (.goto 4, 75, 0) from rfl) ?_
      exact zt_wk (zt_cov_nil) (S_Tk_kindAt_75  _ _ _ h)
theorem S_Tk_kindAt {X : q_X}   {v1 : Int} {σ : zt_S} {o : (Int × zt_S)} (h : F_Tk_kindAt  v1 σ = some o) : zt_Ex X 0 91 0 (lv_args 0 [.ref 2, .int (Int32.ofInt v1)]) [] (zt_M T σ) (zo_I T o) := by
  unfold F_Tk_kindAt at h
  refine zt_iload_n zy_91 (show q_ins q_k91 0 = some (.iload_n 1, 0, 0) from rfl) (v := Int32.ofInt v1) rfl ?_
  obtain ⟨hg, h⟩ := zt_ckE h
  refine zt_if_lt zy_91 (show q_ins q_k91 1 = some (.ifCond .lt 20, 21, 0) from rfl) (hg) (fun hc => ?_) (fun hc => ?_)
  · rw [if_pos hc] at h
    exact zt_wk (zt_cov_nil) (S_Tk_kindAt_21  _ _ h)
  · rw [if_neg hc] at h
    refine zt_iload_n zy_91 (show q_ins q_k91 4 = some (.iload_n 1, 0, 0) from rfl) (v := Int32.ofInt v1) rfl ?_
    refine zt_aload_n zy_91 (show q_ins q_k91 5 = some (.aload_n 0, 0, 0) from rfl) (v := 2) rfl ?_
    refine zt_getI zy_91 (show q_ins q_k91 6 = some (.getfield 19, 8, 1) from rfl) (j := 1) zk_2_1 rfl ?_
    obtain ⟨hg, h⟩ := zt_ckE h
    refine zt_icmp_ge zy_91 (show q_ins q_k91 9 = some (.if_icmp .ge 12, 21, 0) from rfl) (⟨hg.1, hg.2⟩) (fun hc => ?_) (fun hc => ?_)
    · rw [if_pos hc] at h
      refine zt_iload_n zy_91 (show q_ins q_k91 12 = some (.iload_n 1, 0, 0) from rfl) (v := Int32.ofInt v1) rfl ?_
      refine zt_aload_n zy_91 (show q_ins q_k91 13 = some (.aload_n 0, 0, 0) from rfl) (v := 2) rfl ?_
      refine zt_getR zy_91 (show q_ins q_k91 14 = some (.getfield 9, 8, 0) from rfl) (r := 1) zk_2_0 ?_
      refine zt_alen zy_91 (show q_ins q_k91 17 = some (.arraylength, 0, 0) from rfl) za_1 (by decide) ?_
      obtain ⟨hg, h⟩ := zt_ckE h
      refine zt_icmp_lt zy_91 (show q_ins q_k91 18 = some (.if_icmp .lt 5, 23, 0) from rfl) (⟨hg, by decide⟩) (fun hc => ?_) (fun hc => ?_)
      · rw [if_pos hc] at h
        refine zt_aload_n zy_91 (show q_ins q_k91 23 = some (.aload_n 0, 0, 0) from rfl) (v := 2) rfl ?_
        refine zt_getR zy_91 (show q_ins q_k91 24 = some (.getfield 9, 8, 0) from rfl) (r := 1) zk_2_0 ?_
        refine zt_iload_n zy_91 (show q_ins q_k91 27 = some (.iload_n 1, 0, 0) from rfl) (v := Int32.ofInt v1) rfl ?_
        obtain ⟨hg, h⟩ := zt_ckE h
        refine zt_bld zy_91 (show q_ins q_k91 28 = some (.baload, 0, 0) from rfl) za_1 (by decide) (by decide) hg ?_
        refine zt_istore_n zy_91 (show q_ins q_k91 29 = some (.istore_n 2, 0, 0) from rfl) (by decide) ?_
        refine zt_iload_n zy_91 (show q_ins q_k91 30 = some (.iload_n 2, 0, 0) from rfl) (v := Int32.ofInt (σ.1 1 v1)) rfl ?_
        refine zt_bipush zy_91 (show q_ins q_k91 31 = some (.bipush 32, 0, 0) from rfl) (by decide) ?_
        obtain ⟨hg, h⟩ := zt_ckE h
        refine zt_icmp_eq zy_91 (show q_ins q_k91 33 = some (.if_icmp .eq 9, 42, 0) from rfl) (⟨hg, by decide⟩) (fun hc => ?_) (fun hc => ?_)
        · rw [if_pos hc] at h
          exact zt_wk (zt_cov_nil) (S_Tk_kindAt_42  _ _ h)
        · rw [if_neg hc] at h
          refine zt_iload_n zy_91 (show q_ins q_k91 36 = some (.iload_n 2, 0, 0) from rfl) (v := Int32.ofInt (σ.1 1 v1)) rfl ?_
          refine zt_bipush zy_91 (show q_ins q_k91 37 = some (.bipush 10, 0, 0) from rfl) (by decide) ?_
          obtain ⟨hg, h⟩ := zt_ckE h
          refine zt_icmp_ne zy_91 (show q_ins q_k91 39 = some (.if_icmp .ne 5, 44, 0) from rfl) (⟨hg, by decide⟩) (fun hc => ?_) (fun hc => ?_)
          · rw [if_pos hc] at h
            exact zt_wk (zt_cov_nil) (S_Tk_kindAt_42  _ _ h)
          · rw [if_neg hc] at h
            refine zt_iload_n zy_91 (show q_ins q_k91 44 = some (.iload_n 2, 0, 0) from rfl) (v := Int32.ofInt (σ.1 1 v1)) rfl ?_
            refine zt_bipush zy_91 (show q_ins q_k91 45 = some (.bipush 97, 0, 0) from rfl) (by decide) ?_
            obtain ⟨hg, h⟩ := zt_ckE h
            refine zt_icmp_lt zy_91 (show q_ins q_k91 47 = some (.if_icmp .lt 11, 58, 0) from rfl) (⟨hg, by decide⟩) (fun hc => ?_) (fun hc => ?_)
            · rw [if_pos hc] at h
              exact zt_wk (zt_cov_cons rfl (zt_cov_nil)) (S_Tk_kindAt_58  _ _ _ h)
            · rw [if_neg hc] at h
              refine zt_iload_n zy_91 (show q_ins q_k91 50 = some (.iload_n 2, 0, 0) from rfl) (v := Int32.ofInt (σ.1 1 v1)) rfl ?_
              refine zt_bipush zy_91 (show q_ins q_k91 51 = some (.bipush 122, 0, 0) from rfl) (by decide) ?_
              obtain ⟨hg, h⟩ := zt_ckE h
              refine zt_icmp_gt zy_91 (show q_ins q_k91 53 = some (.if_icmp .gt 5, 58, 0) from rfl) (⟨hg, by decide⟩) (fun hc => ?_) (fun hc => ?_)
              · rw [if_pos hc] at h
                exact zt_wk (zt_cov_cons rfl (zt_cov_nil)) (S_Tk_kindAt_58  _ _ _ h)
              · rw [if_neg hc] at h
                refine zt_iconst zy_91 (show q_ins q_k91 56 = some (.iconst 2, 0, 0) from rfl) ?_
                cases h
                exact zt_iret zy_91 (show q_ins q_k91 57 = some (.ireturn, 0, 0) from rfl)
      · rw [if_neg hc] at h
        exact zt_wk (zt_cov_nil) (S_Tk_kindAt_21  _ _ h)
    · rw [if_neg hc] at h
      exact zt_wk (zt_cov_nil) (S_Tk_kindAt_21  _ _ h)
theorem S_Tk_byteAt_27 {X : q_X}   : ∀ (x0 : Int) (σ : zt_S) (o : (Int × zt_S)), F_Tk_byteAt_27  x0 σ = some o → zt_Ex X 0 92 27 [] [.int (Int32.ofInt x0)] (zt_M T σ) (zo_I T o) := by
  intro x0 σ o  h
  unfold F_Tk_byteAt_27 at h
  cases h
  exact zt_iret zy_92 (show q_ins q_k92 27 = some (.ireturn, 0, 0) from rfl)
theorem S_Tk_byteAt_26 {X : q_X}   : ∀  (σ : zt_S) (o : (Int × zt_S)), F_Tk_byteAt_26   σ = some o → zt_Ex X 0 92 26 [] [] (zt_M T σ) (zo_I T o) := by
  intro  σ o  h
  unfold F_Tk_byteAt_26 at h
  refine zt_iconst zy_92 (show q_ins q_k92 26 = some (.iconst 0, 0, 0) from rfl) ?_
  exact zt_wk (zt_cov_nil) (S_Tk_byteAt_27  _ _ _ h)
theorem S_Tk_byteAt {X : q_X}   {v1 : Int} {σ : zt_S} {o : (Int × zt_S)} (h : F_Tk_byteAt  v1 σ = some o) : zt_Ex X 0 92 0 (lv_args 0 [.ref 2, .int (Int32.ofInt v1)]) [] (zt_M T σ) (zo_I T o) := by
  unfold F_Tk_byteAt at h
  refine zt_iload_n zy_92 (show q_ins q_k92 0 = some (.iload_n 1, 0, 0) from rfl) (v := Int32.ofInt v1) rfl ?_
  obtain ⟨hg, h⟩ := zt_ckE h
  refine zt_if_lt zy_92 (show q_ins q_k92 1 = some (.ifCond .lt 25, 26, 0) from rfl) (hg) (fun hc => ?_) (fun hc => ?_)
  · rw [if_pos hc] at h
    exact zt_wk (zt_cov_nil) (S_Tk_byteAt_26  _ _ h)
  · rw [if_neg hc] at h
    refine zt_iload_n zy_92 (show q_ins q_k92 4 = some (.iload_n 1, 0, 0) from rfl) (v := Int32.ofInt v1) rfl ?_
    refine zt_aload_n zy_92 (show q_ins q_k92 5 = some (.aload_n 0, 0, 0) from rfl) (v := 2) rfl ?_
    refine zt_getR zy_92 (show q_ins q_k92 6 = some (.getfield 9, 8, 0) from rfl) (r := 1) zk_2_0 ?_
    refine zt_alen zy_92 (show q_ins q_k92 9 = some (.arraylength, 0, 0) from rfl) za_1 (by decide) ?_
    obtain ⟨hg, h⟩ := zt_ckE h
    refine zt_icmp_ge zy_92 (show q_ins q_k92 10 = some (.if_icmp .ge 16, 26, 0) from rfl) (⟨hg, by decide⟩) (fun hc => ?_) (fun hc => ?_)
    · rw [if_pos hc] at h
      refine zt_aload_n zy_92 (show q_ins q_k92 13 = some (.aload_n 0, 0, 0) from rfl) (v := 2) rfl ?_
      refine zt_getR zy_92 (show q_ins q_k92 14 = some (.getfield 9, 8, 0) from rfl) (r := 1) zk_2_0 ?_
      refine zt_iload_n zy_92 (show q_ins q_k92 17 = some (.iload_n 1, 0, 0) from rfl) (v := Int32.ofInt v1) rfl ?_
      obtain ⟨hg, h⟩ := zt_ckE h
      refine zt_bld zy_92 (show q_ins q_k92 18 = some (.baload, 0, 0) from rfl) za_1 (by decide) (by decide) hg ?_
      refine zt_sipush zy_92 (show q_ins q_k92 19 = some (.sipush 255, 0, 0) from rfl) (by decide) ?_
      refine zt_iand zy_92 (show q_ins q_k92 22 = some (.iand, 0, 0) from rfl) ?_
      refine zt_goto zy_92 (show q_ins q_k92 23 = some (.goto 4, 27, 0) from rfl) ?_
      exact zt_wk (zt_cov_nil) (S_Tk_byteAt_27  _ _ _ h)
    · rw [if_neg hc] at h
      exact zt_wk (zt_cov_nil) (S_Tk_byteAt_26  _ _ h)
theorem S_Tk_next_152 {X : q_X}   : ∀  (σ : zt_S) (o : (Unit × zt_S)), F_Tk_next_152   σ = some o → zt_Ex X 1 90 152 [] [] (zt_M T σ) (zo_V T o) := by
  intro  σ o  h
  unfold F_Tk_next_152 at h
  cases h
  exact zt_ret zy_90 (show q_ins q_k90 152 = some (.return_, 0, 0) from rfl)
theorem S_Tk_next_131 {X : q_X}   {r69 : zt_S → Option (Unit × zt_S)} (hr69 : ∀  (σ : zt_S) (o : (Unit × zt_S)), r69  σ = some o → zt_Ex X 1 90 69 [(0, .ref 2)] [] (zt_M T σ) (zo_V T o)) : ∀  (σ : zt_S) (o : (Unit × zt_S)), F_Tk_next_131  r69  σ = some o → zt_Ex X 1 90 131 [(0, .ref 2)] [] (zt_M T σ) (zo_V T o) := by
  intro  σ o  h
  unfold F_Tk_next_131 at h
  refine zt_aload_n zy_90 (show q_ins q_k90 131 = some (.aload_n 0, 0, 0) from rfl) (v := 2) rfl ?_
  refine zt_dup zy_90 (show q_ins q_k90 132 = some (.dup, 0, 0) from rfl) rfl ?_
  refine zt_getI zy_90 (show q_ins q_k90 133 = some (.getfield 22, 8, 3) from rfl) (j := 3) zk_2_3 rfl ?_
  refine zt_iconst zy_90 (show q_ins q_k90 136 = some (.iconst 1, 0, 0) from rfl) ?_
  refine zt_iadd zy_90 (show q_ins q_k90 137 = some (.iadd, 0, 0) from rfl) ?_
  obtain ⟨s15, hs15, h⟩ := zt_letE h
  refine zt_putI zy_90 (show q_ins q_k90 138 = some (.putfield 22, 8, 3) from rfl) (j := 3) zk_2_3 rfl rfl rfl ?_
  rw [← hs15]
  refine zt_aload_n zy_90 (show q_ins q_k90 141 = some (.aload_n 0, 0, 0) from rfl) (v := 2) rfl ?_
  refine zt_getI zy_90 (show q_ins q_k90 142 = some (.getfield 38, 8, 4) from rfl) (j := 4) zk_2_4 rfl ?_
  refine zt_iconst zy_90 (show q_ins q_k90 145 = some (.iconst 4, 0, 0) from rfl) ?_
  obtain ⟨hg, h⟩ := zt_ckE h
  refine zt_icmp_ne zy_90 (show q_ins q_k90 146 = some (.if_icmp .ne (-77), 69, 0) from rfl) (⟨hg, by decide⟩) (fun hc => ?_) (fun hc => ?_)
  · rw [if_pos hc] at h
    refine zt_goto zy_90 (show q_ins q_k90 149 = some (.goto 3, 152, 0) from rfl) ?_
    exact zt_wk (zt_cov_nil) (S_Tk_next_152  _ _ h)
  · rw [if_neg hc] at h
    exact zt_wk (zt_cov_cons rfl (zt_cov_nil)) (hr69 _ _ h)
theorem S_Tk_next_69 {X : q_X}   : ∀ (n : Nat)  (σ : zt_S) (o : (Unit × zt_S)), F_Tk_next_69  n  σ = some o → zt_Ex X 1 90 69 [(0, .ref 2)] [] (zt_M T σ) (zo_V T o) := by
  intro n
  induction n with
  | zero => intro  σ o  h; cases h
  | succ n ih =>
  intro  σ o  h
  rw [F_Tk_next_69] at h
  refine zt_aload_n zy_90 (show q_ins q_k90 69 = some (.aload_n 0, 0, 0) from rfl) (v := 2) rfl ?_
  refine zt_getI zy_90 (show q_ins q_k90 70 = some (.getfield 22, 8, 3) from rfl) (j := 3) zk_2_3 rfl ?_
  refine zt_aload_n zy_90 (show q_ins q_k90 73 = some (.aload_n 0, 0, 0) from rfl) (v := 2) rfl ?_
  refine zt_getI zy_90 (show q_ins q_k90 74 = some (.getfield 19, 8, 1) from rfl) (j := 1) zk_2_1 rfl ?_
  obtain ⟨hg, h⟩ := zt_ckE h
  refine zt_icmp_ge zy_90 (show q_ins q_k90 77 = some (.if_icmp .ge 75, 152, 0) from rfl) (⟨hg.1, hg.2⟩) (fun hc => ?_) (fun hc => ?_)
  · rw [if_pos hc] at h
    refine zt_aload_n zy_90 (show q_ins q_k90 80 = some (.aload_n 0, 0, 0) from rfl) (v := 2) rfl ?_
    refine zt_aload_n zy_90 (show q_ins q_k90 81 = some (.aload_n 0, 0, 0) from rfl) (v := 2) rfl ?_
    refine zt_getI zy_90 (show q_ins q_k90 82 = some (.getfield 22, 8, 3) from rfl) (j := 3) zk_2_3 rfl ?_
    obtain ⟨a10, s11, hca10, h⟩ := zt_bdE h
    refine zt_callV (d := 0) zy_90 (show q_ins q_k90 85 = some (.invokevirtual 34, 91, 1) from rfl) zy_91 (by decide) ⟨zq_lt (by decide), by decide⟩ rfl (by simp [Value.category]) (by simp [lg_sl, Value.category]) (zt_rcv zc_2) (zt_dm (by decide) (S_Tk_kindAt hca10)) ?_
    refine zt_aload_n zy_90 (show q_ins q_k90 88 = some (.aload_n 0, 0, 0) from rfl) (v := 2) rfl ?_
    refine zt_getI zy_90 (show q_ins q_k90 89 = some (.getfield 38, 8, 4) from rfl) (j := 4) zk_2_4 rfl ?_
    obtain ⟨hg, h⟩ := zt_ckE h
    refine zt_icmp_ne zy_90 (show q_ins q_k90 92 = some (.if_icmp .ne 60, 152, 0) from rfl) (⟨hg.1, hg.2⟩) (fun hc => ?_) (fun hc => ?_)
    · rw [if_pos hc] at h
      refine zt_aload_n zy_90 (show q_ins q_k90 95 = some (.aload_n 0, 0, 0) from rfl) (v := 2) rfl ?_
      refine zt_getI zy_90 (show q_ins q_k90 96 = some (.getfield 38, 8, 4) from rfl) (j := 4) zk_2_4 rfl ?_
      refine zt_iconst zy_90 (show q_ins q_k90 99 = some (.iconst 3, 0, 0) from rfl) ?_
      obtain ⟨hg, h⟩ := zt_ckE h
      refine zt_icmp_ne zy_90 (show q_ins q_k90 100 = some (.if_icmp .ne 31, 131, 0) from rfl) (⟨hg, by decide⟩) (fun hc => ?_) (fun hc => ?_)
      · rw [if_pos hc] at h
        refine zt_aload_n zy_90 (show q_ins q_k90 103 = some (.aload_n 0, 0, 0) from rfl) (v := 2) rfl ?_
        refine zt_aload_n zy_90 (show q_ins q_k90 104 = some (.aload_n 0, 0, 0) from rfl) (v := 2) rfl ?_
        refine zt_getI zy_90 (show q_ins q_k90 105 = some (.getfield 41, 8, 5) from rfl) (j := 5) zk_2_5 rfl ?_
        refine zt_bipush zy_90 (show q_ins q_k90 108 = some (.bipush 10, 0, 0) from rfl) (by decide) ?_
        refine zt_imul zy_90 (show q_ins q_k90 110 = some (.imul, 0, 0) from rfl) ?_
        refine zt_aload_n zy_90 (show q_ins q_k90 111 = some (.aload_n 0, 0, 0) from rfl) (v := 2) rfl ?_
        refine zt_aload_n zy_90 (show q_ins q_k90 112 = some (.aload_n 0, 0, 0) from rfl) (v := 2) rfl ?_
        refine zt_getI zy_90 (show q_ins q_k90 113 = some (.getfield 22, 8, 3) from rfl) (j := 3) zk_2_3 rfl ?_
        obtain ⟨a12, s13, hca12, h⟩ := zt_bdE h
        refine zt_callV (d := 0) zy_90 (show q_ins q_k90 116 = some (.invokevirtual 44, 92, 1) from rfl) zy_92 (by decide) ⟨zq_lt (by decide), by decide⟩ rfl (by simp [Value.category]) (by simp [lg_sl, Value.category]) (zt_rcv zc_2) (zt_dm (by decide) (S_Tk_byteAt hca12)) ?_
        refine zt_iadd zy_90 (show q_ins q_k90 119 = some (.iadd, 0, 0) from rfl) ?_
        refine zt_bipush zy_90 (show q_ins q_k90 120 = some (.bipush 48, 0, 0) from rfl) (by decide) ?_
        refine zt_isub zy_90 (show q_ins q_k90 122 = some (.isub, 0, 0) from rfl) ?_
        refine zt_ldcI zy_90 (show q_ins q_k90 123 = some (.ldc 47, 0, 1000000) from rfl) (n := (1000000 : Int)) rfl (by decide) ?_
        obtain ⟨hg, h⟩ := zt_ckE h
        refine zt_min zy_90 (show q_ins q_k90 125 = some (.invokestatic 48, 911, 2) from rfl) rfl ⟨hg, by decide⟩ (by simp [Value.category]) ?_
        obtain ⟨s14, hs14, h⟩ := zt_letE h
        refine zt_putI zy_90 (show q_ins q_k90 128 = some (.putfield 41, 8, 5) from rfl) (j := 5) zk_2_5 rfl rfl rfl ?_
        rw [← hs14]
        exact zt_wk (zt_cov_cons rfl (zt_cov_nil)) (S_Tk_next_131  ih _ _ h)
      · rw [if_neg hc] at h
        exact zt_wk (zt_cov_cons rfl (zt_cov_nil)) (S_Tk_next_131  ih _ _ h)
    · rw [if_neg hc] at h
      exact zt_wk (zt_cov_nil) (S_Tk_next_152  _ _ h)
  · rw [if_neg hc] at h
    exact zt_wk (zt_cov_nil) (S_Tk_next_152  _ _ h)
theorem S_Tk_next_44 {X : q_X}   : ∀  (σ : zt_S) (o : (Unit × zt_S)), F_Tk_next_44   σ = some o → zt_Ex X 1 90 44 [(0, .ref 2)] [] (zt_M T σ) (zo_V T o) := by
  intro  σ o  h
  unfold F_Tk_next_44 at h
  refine zt_aload_n zy_90 (show q_ins q_k90 44 = some (.aload_n 0, 0, 0) from rfl) (v := 2) rfl ?_
  refine zt_aload_n zy_90 (show q_ins q_k90 45 = some (.aload_n 0, 0, 0) from rfl) (v := 2) rfl ?_
  refine zt_aload_n zy_90 (show q_ins q_k90 46 = some (.aload_n 0, 0, 0) from rfl) (v := 2) rfl ?_
  refine zt_getI zy_90 (show q_ins q_k90 47 = some (.getfield 31, 8, 2) from rfl) (j := 2) zk_2_2 rfl ?_
  obtain ⟨a5, s6, hca5, h⟩ := zt_bdE h
  refine zt_callV (d := 0) zy_90 (show q_ins q_k90 50 = some (.invokevirtual 34, 91, 1) from rfl) zy_91 (by decide) ⟨zq_lt (by decide), by decide⟩ rfl (by simp [Value.category]) (by simp [lg_sl, Value.category]) (zt_rcv zc_2) (zt_dm (by decide) (S_Tk_kindAt hca5)) ?_
  obtain ⟨s7, hs7, h⟩ := zt_letE h
  refine zt_putI zy_90 (show q_ins q_k90 53 = some (.putfield 38, 8, 4) from rfl) (j := 4) zk_2_4 rfl rfl rfl ?_
  rw [← hs7]
  refine zt_aload_n zy_90 (show q_ins q_k90 56 = some (.aload_n 0, 0, 0) from rfl) (v := 2) rfl ?_
  refine zt_iconst zy_90 (show q_ins q_k90 57 = some (.iconst 0, 0, 0) from rfl) ?_
  obtain ⟨s8, hs8, h⟩ := zt_letE h
  refine zt_putI zy_90 (show q_ins q_k90 58 = some (.putfield 41, 8, 5) from rfl) (j := 5) zk_2_5 rfl rfl rfl ?_
  rw [← hs8]
  refine zt_aload_n zy_90 (show q_ins q_k90 61 = some (.aload_n 0, 0, 0) from rfl) (v := 2) rfl ?_
  refine zt_aload_n zy_90 (show q_ins q_k90 62 = some (.aload_n 0, 0, 0) from rfl) (v := 2) rfl ?_
  refine zt_getI zy_90 (show q_ins q_k90 63 = some (.getfield 31, 8, 2) from rfl) (j := 2) zk_2_2 rfl ?_
  obtain ⟨s9, hs9, h⟩ := zt_letE h
  refine zt_putI zy_90 (show q_ins q_k90 66 = some (.putfield 22, 8, 3) from rfl) (j := 3) zk_2_3 rfl rfl rfl ?_
  rw [← hs9]
  exact zt_wk (zt_cov_cons rfl (zt_cov_nil)) (S_Tk_next_69  _ _ _ h)
theorem S_Tk_next_8 {X : q_X}   : ∀ (n : Nat)  (σ : zt_S) (o : (Unit × zt_S)), F_Tk_next_8  n  σ = some o → zt_Ex X 1 90 8 [(0, .ref 2)] [] (zt_M T σ) (zo_V T o) := by
  intro n
  induction n with
  | zero => intro  σ o  h; cases h
  | succ n ih =>
  intro  σ o  h
  rw [F_Tk_next_8] at h
  refine zt_aload_n zy_90 (show q_ins q_k90 8 = some (.aload_n 0, 0, 0) from rfl) (v := 2) rfl ?_
  refine zt_getI zy_90 (show q_ins q_k90 9 = some (.getfield 31, 8, 2) from rfl) (j := 2) zk_2_2 rfl ?_
  refine zt_aload_n zy_90 (show q_ins q_k90 12 = some (.aload_n 0, 0, 0) from rfl) (v := 2) rfl ?_
  refine zt_getI zy_90 (show q_ins q_k90 13 = some (.getfield 19, 8, 1) from rfl) (j := 1) zk_2_1 rfl ?_
  obtain ⟨hg, h⟩ := zt_ckE h
  refine zt_icmp_ge zy_90 (show q_ins q_k90 16 = some (.if_icmp .ge 28, 44, 0) from rfl) (⟨hg.1, hg.2⟩) (fun hc => ?_) (fun hc => ?_)
  · rw [if_pos hc] at h
    refine zt_aload_n zy_90 (show q_ins q_k90 19 = some (.aload_n 0, 0, 0) from rfl) (v := 2) rfl ?_
    refine zt_aload_n zy_90 (show q_ins q_k90 20 = some (.aload_n 0, 0, 0) from rfl) (v := 2) rfl ?_
    refine zt_getI zy_90 (show q_ins q_k90 21 = some (.getfield 31, 8, 2) from rfl) (j := 2) zk_2_2 rfl ?_
    obtain ⟨a2, s3, hca2, h⟩ := zt_bdE h
    refine zt_callV (d := 0) zy_90 (show q_ins q_k90 24 = some (.invokevirtual 34, 91, 1) from rfl) zy_91 (by decide) ⟨zq_lt (by decide), by decide⟩ rfl (by simp [Value.category]) (by simp [lg_sl, Value.category]) (zt_rcv zc_2) (zt_dm (by decide) (S_Tk_kindAt hca2)) ?_
    refine zt_iconst zy_90 (show q_ins q_k90 27 = some (.iconst 1, 0, 0) from rfl) ?_
    obtain ⟨hg, h⟩ := zt_ckE h
    refine zt_icmp_ne zy_90 (show q_ins q_k90 28 = some (.if_icmp .ne 16, 44, 0) from rfl) (⟨hg, by decide⟩) (fun hc => ?_) (fun hc => ?_)
    · rw [if_pos hc] at h
      refine zt_aload_n zy_90 (show q_ins q_k90 31 = some (.aload_n 0, 0, 0) from rfl) (v := 2) rfl ?_
      refine zt_dup zy_90 (show q_ins q_k90 32 = some (.dup, 0, 0) from rfl) rfl ?_
      refine zt_getI zy_90 (show q_ins q_k90 33 = some (.getfield 31, 8, 2) from rfl) (j := 2) zk_2_2 rfl ?_
      refine zt_iconst zy_90 (show q_ins q_k90 36 = some (.iconst 1, 0, 0) from rfl) ?_
      refine zt_iadd zy_90 (show q_ins q_k90 37 = some (.iadd, 0, 0) from rfl) ?_
      obtain ⟨s4, hs4, h⟩ := zt_letE h
      refine zt_putI zy_90 (show q_ins q_k90 38 = some (.putfield 31, 8, 2) from rfl) (j := 2) zk_2_2 rfl rfl rfl ?_
      rw [← hs4]
      refine zt_goto zy_90 (show q_ins q_k90 41 = some (.goto (-33), 8, 0) from rfl) ?_
      exact zt_wk (zt_cov_cons rfl (zt_cov_nil)) (ih _ _ h)
    · rw [if_neg hc] at h
      exact zt_wk (zt_cov_cons rfl (zt_cov_nil)) (S_Tk_next_44  _ _ h)
  · rw [if_neg hc] at h
    exact zt_wk (zt_cov_cons rfl (zt_cov_nil)) (S_Tk_next_44  _ _ h)
theorem S_Tk_next {X : q_X}    {σ : zt_S} {o : (Unit × zt_S)} (h : F_Tk_next   σ = some o) : zt_Ex X 1 90 0 (lv_args 0 [.ref 2]) [] (zt_M T σ) (zo_V T o) := by
  unfold F_Tk_next at h
  refine zt_aload_n zy_90 (show q_ins q_k90 0 = some (.aload_n 0, 0, 0) from rfl) (v := 2) rfl ?_
  refine zt_aload_n zy_90 (show q_ins q_k90 1 = some (.aload_n 0, 0, 0) from rfl) (v := 2) rfl ?_
  refine zt_getI zy_90 (show q_ins q_k90 2 = some (.getfield 22, 8, 3) from rfl) (j := 3) zk_2_3 rfl ?_
  obtain ⟨s1, hs1, h⟩ := zt_letE h
  refine zt_putI zy_90 (show q_ins q_k90 5 = some (.putfield 31, 8, 2) from rfl) (j := 2) zk_2_2 rfl rfl rfl ?_
  rw [← hs1]
  exact zt_wk (zt_cov_cons rfl (zt_cov_nil)) (S_Tk_next_8  _ _ _ h)
theorem S_Tk_open {X : q_X}   {v1 : Int} {σ : zt_S} {o : (Unit × zt_S)} (h : F_Tk_open  v1 σ = some o) : zt_Ex X 2 89 0 (lv_args 0 [.ref 2, .int (Int32.ofInt v1)]) [] (zt_M T σ) (zo_V T o) := by
  unfold F_Tk_open at h
  refine zt_aload_n zy_89 (show q_ins q_k89 0 = some (.aload_n 0, 0, 0) from rfl) (v := 2) rfl ?_
  refine zt_iload_n zy_89 (show q_ins q_k89 1 = some (.iload_n 1, 0, 0) from rfl) (v := Int32.ofInt v1) rfl ?_
  obtain ⟨s1, hs1, h⟩ := zt_letE h
  refine zt_putI zy_89 (show q_ins q_k89 2 = some (.putfield 19, 8, 1) from rfl) (j := 1) zk_2_1 rfl rfl rfl ?_
  rw [← hs1]
  refine zt_aload_n zy_89 (show q_ins q_k89 5 = some (.aload_n 0, 0, 0) from rfl) (v := 2) rfl ?_
  refine zt_iconst zy_89 (show q_ins q_k89 6 = some (.iconst 0, 0, 0) from rfl) ?_
  obtain ⟨s2, hs2, h⟩ := zt_letE h
  refine zt_putI zy_89 (show q_ins q_k89 7 = some (.putfield 22, 8, 3) from rfl) (j := 3) zk_2_3 rfl rfl rfl ?_
  rw [← hs2]
  refine zt_aload_n zy_89 (show q_ins q_k89 10 = some (.aload_n 0, 0, 0) from rfl) (v := 2) rfl ?_
  refine zt_iconst zy_89 (show q_ins q_k89 11 = some (.iconst 0, 0, 0) from rfl) ?_
  obtain ⟨s3, hs3, h⟩ := zt_letE h
  refine zt_putI zy_89 (show q_ins q_k89 12 = some (.putfield 25, 8, 6) from rfl) (j := 6) zk_2_6 rfl rfl rfl ?_
  rw [← hs3]
  refine zt_aload_n zy_89 (show q_ins q_k89 15 = some (.aload_n 0, 0, 0) from rfl) (v := 2) rfl ?_
  refine zt_iconst zy_89 (show q_ins q_k89 16 = some (.iconst (-1), 0, 0) from rfl) ?_
  obtain ⟨s4, hs4, h⟩ := zt_letE h
  refine zt_putI zy_89 (show q_ins q_k89 17 = some (.putfield 15, 8, 7) from rfl) (j := 7) zk_2_7 rfl rfl rfl ?_
  rw [← hs4]
  refine zt_aload_n zy_89 (show q_ins q_k89 20 = some (.aload_n 0, 0, 0) from rfl) (v := 2) rfl ?_
  obtain ⟨a5, s6, hca5, h⟩ := zt_bdE h
  refine zt_callV (d := 1) zy_89 (show q_ins q_k89 21 = some (.invokevirtual 28, 90, 0) from rfl) zy_90 (by decide) ⟨zq_lt (by decide), by decide⟩ rfl (by simp [Value.category]) (by simp [lg_sl, Value.category]) (zt_rcv zc_2) (zt_dm (by decide) (S_Tk_next hca5)) ?_
  cases h
  exact zt_ret zy_89 (show q_ins q_k89 24 = some (.return_, 0, 0) from rfl)
theorem S_Tk_hasFailed_12 {X : q_X}   : ∀ (x0 : Int) (σ : zt_S) (o : (Int × zt_S)), F_Tk_hasFailed_12  x0 σ = some o → zt_Ex X 0 93 12 [] [.int (Int32.ofInt x0)] (zt_M T σ) (zo_I T o) := by
  intro x0 σ o  h
  unfold F_Tk_hasFailed_12 at h
  obtain ⟨hg, h⟩ := zt_ckE h
  cases h
  exact zt_zret zy_93 (show q_ins q_k93 12 = some (.ireturn, 0, 0) from rfl) hg
theorem S_Tk_hasFailed {X : q_X}    {σ : zt_S} {o : (Int × zt_S)} (h : F_Tk_hasFailed   σ = some o) : zt_Ex X 0 93 0 (lv_args 0 [.ref 2]) [] (zt_M T σ) (zo_I T o) := by
  unfold F_Tk_hasFailed at h
  refine zt_aload_n zy_93 (show q_ins q_k93 0 = some (.aload_n 0, 0, 0) from rfl) (v := 2) rfl ?_
  refine zt_getI zy_93 (show q_ins q_k93 1 = some (.getfield 25, 8, 6) from rfl) (j := 6) zk_2_6 rfl ?_
  obtain ⟨hg, h⟩ := zt_ckE h
  refine zt_if_eq zy_93 (show q_ins q_k93 4 = some (.ifCond .eq 7, 11, 0) from rfl) (hg) (fun hc => ?_) (fun hc => ?_)
  · rw [if_pos hc] at h
    refine zt_iconst zy_93 (show q_ins q_k93 11 = some (.iconst 0, 0, 0) from rfl) ?_
    exact zt_wk (zt_cov_nil) (S_Tk_hasFailed_12  _ _ _ h)
  · rw [if_neg hc] at h
    refine zt_iconst zy_93 (show q_ins q_k93 7 = some (.iconst 1, 0, 0) from rfl) ?_
    refine zt_goto zy_93 (show q_ins q_k93 8 = some (.goto 4, 12, 0) from rfl) ?_
    exact zt_wk (zt_cov_nil) (S_Tk_hasFailed_12  _ _ _ h)
theorem S_Tk_isWord_28 {X : q_X} {w1 : Nat} (hw1 : zt_isS w1) : ∀ (n : Nat) (v2 : Int) (σ : zt_S) (o : (Int × zt_S)), F_Tk_isWord_28 w1 n v2 σ = some o → zt_Ex X 1 98 28 [(0, .ref 2), (1, .ref w1), (2, .int (Int32.ofInt v2))] [] (zt_M T σ) (zo_I T o) := by
  intro n
  induction n with
  | zero => intro v2 σ o  h; cases h
  | succ n ih =>
  intro v2 σ o  h
  rw [F_Tk_isWord_28] at h
  refine zt_iload_n zy_98 (show q_ins q_k98 28 = some (.iload_n 2, 0, 0) from rfl) (v := Int32.ofInt v2) rfl ?_
  refine zt_aload_n zy_98 (show q_ins q_k98 29 = some (.aload_n 1, 0, 0) from rfl) (v := w1) rfl ?_
  refine zt_sln zy_98 (show q_ins q_k98 30 = some (.invokevirtual 54, 900, 0) from rfl) rfl hw1 (by simp [Value.category]) ?_
  obtain ⟨hg, h⟩ := zt_ckE h
  refine zt_icmp_ge zy_98 (show q_ins q_k98 33 = some (.if_icmp .ge 29, 62, 0) from rfl) (⟨hg.1, hg.2⟩) (fun hc => ?_) (fun hc => ?_)
  · rw [if_pos hc] at h
    refine zt_aload_n zy_98 (show q_ins q_k98 36 = some (.aload_n 0, 0, 0) from rfl) (v := 2) rfl ?_
    refine zt_aload_n zy_98 (show q_ins q_k98 37 = some (.aload_n 0, 0, 0) from rfl) (v := 2) rfl ?_
    refine zt_getI zy_98 (show q_ins q_k98 38 = some (.getfield 31, 8, 2) from rfl) (j := 2) zk_2_2 rfl ?_
    refine zt_iload_n zy_98 (show q_ins q_k98 41 = some (.iload_n 2, 0, 0) from rfl) (v := Int32.ofInt v2) rfl ?_
    refine zt_iadd zy_98 (show q_ins q_k98 42 = some (.iadd, 0, 0) from rfl) ?_
    obtain ⟨a1, s2, hca1, h⟩ := zt_bdE h
    refine zt_callV (d := 0) zy_98 (show q_ins q_k98 43 = some (.invokevirtual 44, 92, 1) from rfl) zy_92 (by decide) ⟨zq_lt (by decide), by decide⟩ rfl (by simp [Value.category]) (by simp [lg_sl, Value.category]) (zt_rcv zc_2) (zt_dm (by decide) (S_Tk_byteAt hca1)) ?_
    refine zt_aload_n zy_98 (show q_ins q_k98 46 = some (.aload_n 1, 0, 0) from rfl) (v := w1) rfl ?_
    refine zt_iload_n zy_98 (show q_ins q_k98 47 = some (.iload_n 2, 0, 0) from rfl) (v := Int32.ofInt v2) rfl ?_
    obtain ⟨hg, h⟩ := zt_ckE h
    refine zt_sch zy_98 (show q_ins q_k98 48 = some (.invokevirtual 59, 901, 1) from rfl) rfl hw1 hg (zt_sl_le hw1) (by simp [Value.category]) ?_
    obtain ⟨hg, h⟩ := zt_ckE h
    refine zt_icmp_eq zy_98 (show q_ins q_k98 51 = some (.if_icmp .eq 5, 56, 0) from rfl) (⟨hg, zt_inT _⟩) (fun hc => ?_) (fun hc => ?_)
    · rw [if_pos hc] at h
      refine zt_iinc zy_98 (show q_ins q_k98 56 = some (.iinc 2 1, 0, 0) from rfl) (v := v2) (by decide) rfl ?_
      refine zt_goto zy_98 (show q_ins q_k98 59 = some (.goto (-31), 28, 0) from rfl) ?_
      exact zt_wk (zt_cov_cons rfl (zt_cov_cons rfl (zt_cov_cons rfl (zt_cov_nil)))) (ih _ _ _ h)
    · rw [if_neg hc] at h
      refine zt_iconst zy_98 (show q_ins q_k98 54 = some (.iconst 0, 0, 0) from rfl) ?_
      cases h
      exact zt_zret zy_98 (show q_ins q_k98 55 = some (.ireturn, 0, 0) from rfl) (by decide)
  · rw [if_neg hc] at h
    refine zt_iconst zy_98 (show q_ins q_k98 62 = some (.iconst 1, 0, 0) from rfl) ?_
    cases h
    exact zt_zret zy_98 (show q_ins q_k98 63 = some (.ireturn, 0, 0) from rfl) (by decide)
theorem S_Tk_isWord_24 {X : q_X} {w1 : Nat} (hw1 : zt_isS w1) : ∀  (σ : zt_S) (o : (Int × zt_S)), F_Tk_isWord_24 w1  σ = some o → zt_Ex X 1 98 24 [] [] (zt_M T σ) (zo_I T o) := by
  intro  σ o  h
  unfold F_Tk_isWord_24 at h
  refine zt_iconst zy_98 (show q_ins q_k98 24 = some (.iconst 0, 0, 0) from rfl) ?_
  cases h
  exact zt_zret zy_98 (show q_ins q_k98 25 = some (.ireturn, 0, 0) from rfl) (by decide)
theorem S_Tk_isWord {X : q_X} {w1 : Nat} (hw1 : zt_isS w1)  {σ : zt_S} {o : (Int × zt_S)} (h : F_Tk_isWord w1  σ = some o) : zt_Ex X 1 98 0 (lv_args 0 [.ref 2, .ref w1]) [] (zt_M T σ) (zo_I T o) := by
  unfold F_Tk_isWord at h
  refine zt_aload_n zy_98 (show q_ins q_k98 0 = some (.aload_n 0, 0, 0) from rfl) (v := 2) rfl ?_
  refine zt_getI zy_98 (show q_ins q_k98 1 = some (.getfield 38, 8, 4) from rfl) (j := 4) zk_2_4 rfl ?_
  refine zt_iconst zy_98 (show q_ins q_k98 4 = some (.iconst 2, 0, 0) from rfl) ?_
  obtain ⟨hg, h⟩ := zt_ckE h
  refine zt_icmp_ne zy_98 (show q_ins q_k98 5 = some (.if_icmp .ne 19, 24, 0) from rfl) (⟨hg, by decide⟩) (fun hc => ?_) (fun hc => ?_)
  · rw [if_pos hc] at h
    refine zt_aload_n zy_98 (show q_ins q_k98 8 = some (.aload_n 0, 0, 0) from rfl) (v := 2) rfl ?_
    refine zt_getI zy_98 (show q_ins q_k98 9 = some (.getfield 22, 8, 3) from rfl) (j := 3) zk_2_3 rfl ?_
    refine zt_aload_n zy_98 (show q_ins q_k98 12 = some (.aload_n 0, 0, 0) from rfl) (v := 2) rfl ?_
    refine zt_getI zy_98 (show q_ins q_k98 13 = some (.getfield 31, 8, 2) from rfl) (j := 2) zk_2_2 rfl ?_
    refine zt_isub zy_98 (show q_ins q_k98 16 = some (.isub, 0, 0) from rfl) ?_
    refine zt_aload_n zy_98 (show q_ins q_k98 17 = some (.aload_n 1, 0, 0) from rfl) (v := w1) rfl ?_
    refine zt_sln zy_98 (show q_ins q_k98 18 = some (.invokevirtual 54, 900, 0) from rfl) rfl hw1 (by simp [Value.category]) ?_
    obtain ⟨hg, h⟩ := zt_ckE h
    refine zt_icmp_eq zy_98 (show q_ins q_k98 21 = some (.if_icmp .eq 5, 26, 0) from rfl) (⟨hg.1, hg.2⟩) (fun hc => ?_) (fun hc => ?_)
    · rw [if_pos hc] at h
      refine zt_iconst zy_98 (show q_ins q_k98 26 = some (.iconst 0, 0, 0) from rfl) ?_
      refine zt_istore_n zy_98 (show q_ins q_k98 27 = some (.istore_n 2, 0, 0) from rfl) (by decide) ?_
      exact zt_wk (zt_cov_cons rfl (zt_cov_cons rfl (zt_cov_cons rfl (zt_cov_nil)))) (S_Tk_isWord_28  hw1 _ _ _ _ h)
    · rw [if_neg hc] at h
      exact zt_wk (zt_cov_nil) (S_Tk_isWord_24  hw1 _ _ h)
  · rw [if_neg hc] at h
    exact zt_wk (zt_cov_nil) (S_Tk_isWord_24  hw1 _ _ h)
theorem S_Tk_takeWord_15 {X : q_X} {w1 : Nat} (hw1 : zt_isS w1) : ∀  (σ : zt_S) (o : (Int × zt_S)), F_Tk_takeWord_15 w1  σ = some o → zt_Ex X 2 99 15 [] [] (zt_M T σ) (zo_I T o) := by
  intro  σ o  h
  unfold F_Tk_takeWord_15 at h
  refine zt_iconst zy_99 (show q_ins q_k99 15 = some (.iconst 0, 0, 0) from rfl) ?_
  cases h
  exact zt_zret zy_99 (show q_ins q_k99 16 = some (.ireturn, 0, 0) from rfl) (by decide)
theorem S_Tk_takeWord {X : q_X} {w1 : Nat} (hw1 : zt_isS w1)  {σ : zt_S} {o : (Int × zt_S)} (h : F_Tk_takeWord w1  σ = some o) : zt_Ex X 2 99 0 (lv_args 0 [.ref 2, .ref w1]) [] (zt_M T σ) (zo_I T o) := by
  unfold F_Tk_takeWord at h
  refine zt_aload_n zy_99 (show q_ins q_k99 0 = some (.aload_n 0, 0, 0) from rfl) (v := 2) rfl ?_
  obtain ⟨a1, s2, hca1, h⟩ := zt_bdE h
  refine zt_callV (d := 1) zy_99 (show q_ins q_k99 1 = some (.invokevirtual 63, 93, 0) from rfl) zy_93 (by decide) ⟨zq_lt (by decide), by decide⟩ rfl (by simp [Value.category]) (by simp [lg_sl, Value.category]) (zt_rcv zc_2) (zt_dm (by decide) (S_Tk_hasFailed hca1)) ?_
  obtain ⟨hg, h⟩ := zt_ckE h
  refine zt_if_ne zy_99 (show q_ins q_k99 4 = some (.ifCond .ne 11, 15, 0) from rfl) (hg) (fun hc => ?_) (fun hc => ?_)
  · rw [if_pos hc] at h
    refine zt_aload_n zy_99 (show q_ins q_k99 7 = some (.aload_n 0, 0, 0) from rfl) (v := 2) rfl ?_
    refine zt_aload_n zy_99 (show q_ins q_k99 8 = some (.aload_n 1, 0, 0) from rfl) (v := w1) rfl ?_
    obtain ⟨a3, s4, hca3, h⟩ := zt_bdE h
    refine zt_callV (d := 1) zy_99 (show q_ins q_k99 9 = some (.invokevirtual 67, 98, 1) from rfl) zy_98 (by decide) ⟨zq_lt (by decide), by decide⟩ rfl (by simp [Value.category]) (by simp [lg_sl, Value.category]) (zt_rcv zc_2) (zt_dm (by decide) (S_Tk_isWord hw1 hca3)) ?_
    obtain ⟨hg, h⟩ := zt_ckE h
    refine zt_if_ne zy_99 (show q_ins q_k99 12 = some (.ifCond .ne 5, 17, 0) from rfl) (hg) (fun hc => ?_) (fun hc => ?_)
    · rw [if_pos hc] at h
      exact zt_wk (zt_cov_nil) (S_Tk_takeWord_15  hw1 _ _ h)
    · rw [if_neg hc] at h
      refine zt_aload_n zy_99 (show q_ins q_k99 17 = some (.aload_n 0, 0, 0) from rfl) (v := 2) rfl ?_
      obtain ⟨a5, s6, hca5, h⟩ := zt_bdE h
      refine zt_callV (d := 1) zy_99 (show q_ins q_k99 18 = some (.invokevirtual 28, 90, 0) from rfl) zy_90 (by decide) ⟨zq_lt (by decide), by decide⟩ rfl (by simp [Value.category]) (by simp [lg_sl, Value.category]) (zt_rcv zc_2) (zt_dm (by decide) (S_Tk_next hca5)) ?_
      refine zt_iconst zy_99 (show q_ins q_k99 21 = some (.iconst 1, 0, 0) from rfl) ?_
      cases h
      exact zt_zret zy_99 (show q_ins q_k99 22 = some (.ireturn, 0, 0) from rfl) (by decide)
  · rw [if_neg hc] at h
    exact zt_wk (zt_cov_nil) (S_Tk_takeWord_15  hw1 _ _ h)
theorem S_Tk_fail_20 {X : q_X}   : ∀  (σ : zt_S) (o : (Unit × zt_S)), F_Tk_fail_20   σ = some o → zt_Ex X 0 94 20 [] [] (zt_M T σ) (zo_V T o) := by
  intro  σ o  h
  unfold F_Tk_fail_20 at h
  cases h
  exact zt_ret zy_94 (show q_ins q_k94 20 = some (.return_, 0, 0) from rfl)
theorem S_Tk_fail {X : q_X}   {v1 : Int} {σ : zt_S} {o : (Unit × zt_S)} (h : F_Tk_fail  v1 σ = some o) : zt_Ex X 0 94 0 (lv_args 0 [.ref 2, .int (Int32.ofInt v1)]) [] (zt_M T σ) (zo_V T o) := by
  unfold F_Tk_fail at h
  refine zt_aload_n zy_94 (show q_ins q_k94 0 = some (.aload_n 0, 0, 0) from rfl) (v := 2) rfl ?_
  refine zt_getI zy_94 (show q_ins q_k94 1 = some (.getfield 25, 8, 6) from rfl) (j := 6) zk_2_6 rfl ?_
  obtain ⟨hg, h⟩ := zt_ckE h
  refine zt_if_ne zy_94 (show q_ins q_k94 4 = some (.ifCond .ne 16, 20, 0) from rfl) (hg) (fun hc => ?_) (fun hc => ?_)
  · rw [if_pos hc] at h
    refine zt_aload_n zy_94 (show q_ins q_k94 7 = some (.aload_n 0, 0, 0) from rfl) (v := 2) rfl ?_
    refine zt_iload_n zy_94 (show q_ins q_k94 8 = some (.iload_n 1, 0, 0) from rfl) (v := Int32.ofInt v1) rfl ?_
    obtain ⟨s1, hs1, h⟩ := zt_letE h
    refine zt_putI zy_94 (show q_ins q_k94 9 = some (.putfield 25, 8, 6) from rfl) (j := 6) zk_2_6 rfl rfl rfl ?_
    rw [← hs1]
    refine zt_aload_n zy_94 (show q_ins q_k94 12 = some (.aload_n 0, 0, 0) from rfl) (v := 2) rfl ?_
    refine zt_aload_n zy_94 (show q_ins q_k94 13 = some (.aload_n 0, 0, 0) from rfl) (v := 2) rfl ?_
    refine zt_getI zy_94 (show q_ins q_k94 14 = some (.getfield 31, 8, 2) from rfl) (j := 2) zk_2_2 rfl ?_
    obtain ⟨s2, hs2, h⟩ := zt_letE h
    refine zt_putI zy_94 (show q_ins q_k94 17 = some (.putfield 15, 8, 7) from rfl) (j := 7) zk_2_7 rfl rfl rfl ?_
    rw [← hs2]
    exact zt_wk (zt_cov_nil) (S_Tk_fail_20  _ _ h)
  · rw [if_neg hc] at h
    exact zt_wk (zt_cov_nil) (S_Tk_fail_20  _ _ h)
theorem S_Tk_needWord_13 {X : q_X} {w1 : Nat} (hw1 : zt_isS w1) : ∀  (σ : zt_S) (o : (Unit × zt_S)), F_Tk_needWord_13 w1  σ = some o → zt_Ex X 3 101 13 [] [] (zt_M T σ) (zo_V T o) := by
  intro  σ o  h
  unfold F_Tk_needWord_13 at h
  cases h
  exact zt_ret zy_101 (show q_ins q_k101 13 = some (.return_, 0, 0) from rfl)
theorem S_Tk_needWord {X : q_X} {w1 : Nat} (hw1 : zt_isS w1)  {σ : zt_S} {o : (Unit × zt_S)} (h : F_Tk_needWord w1  σ = some o) : zt_Ex X 3 101 0 (lv_args 0 [.ref 2, .ref w1]) [] (zt_M T σ) (zo_V T o) := by
  unfold F_Tk_needWord at h
  refine zt_aload_n zy_101 (show q_ins q_k101 0 = some (.aload_n 0, 0, 0) from rfl) (v := 2) rfl ?_
  refine zt_aload_n zy_101 (show q_ins q_k101 1 = some (.aload_n 1, 0, 0) from rfl) (v := w1) rfl ?_
  obtain ⟨a1, s2, hca1, h⟩ := zt_bdE h
  refine zt_callV (d := 2) zy_101 (show q_ins q_k101 2 = some (.invokevirtual 75, 99, 1) from rfl) zy_99 (by decide) ⟨zq_lt (by decide), by decide⟩ rfl (by simp [Value.category]) (by simp [lg_sl, Value.category]) (zt_rcv zc_2) (zt_dm (by decide) (S_Tk_takeWord hw1 hca1)) ?_
  obtain ⟨hg, h⟩ := zt_ckE h
  refine zt_if_ne zy_101 (show q_ins q_k101 5 = some (.ifCond .ne 8, 13, 0) from rfl) (hg) (fun hc => ?_) (fun hc => ?_)
  · rw [if_pos hc] at h
    refine zt_aload_n zy_101 (show q_ins q_k101 8 = some (.aload_n 0, 0, 0) from rfl) (v := 2) rfl ?_
    refine zt_iconst zy_101 (show q_ins q_k101 9 = some (.iconst 1, 0, 0) from rfl) ?_
    obtain ⟨a3, s4, hca3, h⟩ := zt_bdE h
    refine zt_callV (d := 2) zy_101 (show q_ins q_k101 10 = some (.invokevirtual 78, 94, 1) from rfl) zy_94 (by decide) ⟨zq_lt (by decide), by decide⟩ rfl (by simp [Value.category]) (by simp [lg_sl, Value.category]) (zt_rcv zc_2) (zt_dm (by decide) (S_Tk_fail hca3)) ?_
    exact zt_wk (zt_cov_nil) (S_Tk_needWord_13  hw1 _ _ h)
  · rw [if_neg hc] at h
    exact zt_wk (zt_cov_nil) (S_Tk_needWord_13  hw1 _ _ h)
end TT
