/-! the mini-machine does what the law's functions say (by program) -/
set_option maxRecDepth 100000 in
theorem S_P_areLegal_347 {X : q_X}   {r250 : Int → Int → Int → Int → Int → Int → Int → zt_S → zt_T → Option (Int × zt_S × zt_T)} (hr250 : ∀ (v1 : Int) (v2 : Int) (v3 : Int) (v4 : Int) (v6 : Int) (v8 : Int) (v9 : Int) (σ : zt_S) (T : zt_T) (o : (Int × zt_S × zt_T)), r250 v1 v2 v3 v4 v6 v8 v9 σ T = some o → zt_Ex X 4 181 250 [(0, .ref 0), (1, .int (Int32.ofInt v1)), (2, .int (Int32.ofInt v2)), (3, .int (Int32.ofInt v3)), (4, .int (Int32.ofInt v4)), (6, .int (Int32.ofInt v6)), (8, .int (Int32.ofInt v8)), (9, .int (Int32.ofInt v9))] [] (zt_M T σ) (zl_I o)) : ∀ (v1 : Int) (v2 : Int) (v3 : Int) (v4 : Int) (v6 : Int) (v8 : Int) (v9 : Int) (v10 : Int) (σ : zt_S) (T : zt_T) (o : (Int × zt_S × zt_T)), F_P_areLegal_347  r250 v1 v2 v3 v4 v6 v8 v9 v10 σ T = some o → zt_Ex X 4 181 347 [(0, .ref 0), (1, .int (Int32.ofInt v1)), (2, .int (Int32.ofInt v2)), (3, .int (Int32.ofInt v3)), (4, .int (Int32.ofInt v4)), (6, .int (Int32.ofInt v6)), (8, .int (Int32.ofInt v8)), (9, .int (Int32.ofInt v9)), (10, .int (Int32.ofInt v10))] [] (zt_M T σ) (zl_I o) := by
  intro v1 v2 v3 v4 v6 v8 v9 v10 σ T o  h
  unfold F_P_areLegal_347 at h
  refine zt_iconst zy_181 (show q_ins q_k181 347 = some (.iconst 0, 0, 0) from rfl) ?_
  exact zt_wk (zt_cov_cons rfl (zt_cov_cons rfl (zt_cov_cons rfl (zt_cov_cons rfl (zt_cov_cons rfl (zt_cov_cons rfl (zt_cov_cons rfl (zt_cov_cons rfl (zt_cov_cons rfl (zt_cov_nil)))))))))) (S_P_areLegal_348  hr250 _ _ _ _ _ _ _ _ _ _ _ _ h)
set_option maxRecDepth 100000 in
theorem S_P_areLegal_327 {X : q_X}   : ∀  (σ : zt_S) (T : zt_T) (o : (Int × zt_S × zt_T)), F_P_areLegal_327   σ T = some o → zt_Ex X 4 181 327 [] [] (zt_M T σ) (zl_I o) := by
  intro  σ T o  h
  unfold F_P_areLegal_327 at h
  refine zt_iconst zy_181 (show q_ins q_k181 327 = some (.iconst 0, 0, 0) from rfl) ?_
  cases h
  exact zt_zret zy_181 (show q_ins q_k181 328 = some (.ireturn, 0, 0) from rfl) (by decide)
set_option maxRecDepth 100000 in
theorem S_P_areLegal_324 {X : q_X}   {r250 : Int → Int → Int → Int → Int → Int → Int → zt_S → zt_T → Option (Int × zt_S × zt_T)} (hr250 : ∀ (v1 : Int) (v2 : Int) (v3 : Int) (v4 : Int) (v6 : Int) (v8 : Int) (v9 : Int) (σ : zt_S) (T : zt_T) (o : (Int × zt_S × zt_T)), r250 v1 v2 v3 v4 v6 v8 v9 σ T = some o → zt_Ex X 4 181 250 [(0, .ref 0), (1, .int (Int32.ofInt v1)), (2, .int (Int32.ofInt v2)), (3, .int (Int32.ofInt v3)), (4, .int (Int32.ofInt v4)), (6, .int (Int32.ofInt v6)), (8, .int (Int32.ofInt v8)), (9, .int (Int32.ofInt v9))] [] (zt_M T σ) (zl_I o)) : ∀ (v1 : Int) (v2 : Int) (v3 : Int) (v4 : Int) (v6 : Int) (v8 : Int) (v9 : Int) (v10 : Int) (x0 : Int) (x1 : Int) (σ : zt_S) (T : zt_T) (o : (Int × zt_S × zt_T)), F_P_areLegal_324  r250 v1 v2 v3 v4 v6 v8 v9 v10 x0 x1 σ T = some o → zt_Ex X 4 181 324 [(0, .ref 0), (1, .int (Int32.ofInt v1)), (2, .int (Int32.ofInt v2)), (3, .int (Int32.ofInt v3)), (4, .int (Int32.ofInt v4)), (6, .int (Int32.ofInt v6)), (8, .int (Int32.ofInt v8)), (9, .int (Int32.ofInt v9)), (10, .int (Int32.ofInt v10))] [.int (Int32.ofInt x0), .int (Int32.ofInt x1)] (zt_M T σ) (zl_I o) := by
  intro v1 v2 v3 v4 v6 v8 v9 v10 x0 x1 σ T o  h
  unfold F_P_areLegal_324 at h
  obtain ⟨hg, h⟩ := zt_ckE h
  refine zt_icmp_eq zy_181 (show q_ins q_k181 324 = some (.if_icmp .eq 5, 329, 0) from rfl) (⟨hg.1, hg.2⟩) (fun hc => ?_) (fun hc => ?_)
  · rw [if_pos hc] at h
    refine zt_iload_n zy_181 (show q_ins q_k181 329 = some (.iload_n 1, 0, 0) from rfl) (v := Int32.ofInt v1) rfl ?_
    obtain ⟨hg, h⟩ := zt_ckE h
    refine zt_if_lt zy_181 (show q_ins q_k181 330 = some (.ifCond .lt 17, 347, 0) from rfl) (hg) (fun hc => ?_) (fun hc => ?_)
    · rw [if_pos hc] at h
      exact zt_wk (zt_cov_cons rfl (zt_cov_cons rfl (zt_cov_cons rfl (zt_cov_cons rfl (zt_cov_cons rfl (zt_cov_cons rfl (zt_cov_cons rfl (zt_cov_cons rfl (zt_cov_cons rfl (zt_cov_nil)))))))))) (S_P_areLegal_347  hr250 _ _ _ _ _ _ _ _ _ _ _ h)
    · rw [if_neg hc] at h
      refine zt_aload_n zy_181 (show q_ins q_k181 333 = some (.aload_n 0, 0, 0) from rfl) (v := 0) rfl ?_
      refine zt_iload zy_181 (show q_ins q_k181 334 = some (.iload 9, 0, 0) from rfl) (v := Int32.ofInt v9) rfl ?_
      obtain ⟨a57, s58, hca57, h⟩ := zt_byE h
      refine zt_callV (d := 3) zy_181 (show q_ins q_k181 336 = some (.invokevirtual 93, 125, 1) from rfl) zy_125 (by decide) ⟨zq_lt (by decide), by decide⟩ rfl (by simp [Value.category]) (by simp [lg_sl, Value.category]) (zt_rcv zc_0) (zt_dm (by decide) (S_C_holder hca57)) ?_
      refine zt_iload_n zy_181 (show q_ins q_k181 339 = some (.iload_n 1, 0, 0) from rfl) (v := Int32.ofInt v1) rfl ?_
      obtain ⟨hg, h⟩ := zt_ckE h
      refine zt_icmp_ne zy_181 (show q_ins q_k181 340 = some (.if_icmp .ne 7, 347, 0) from rfl) (⟨hg.1, hg.2⟩) (fun hc => ?_) (fun hc => ?_)
      · rw [if_pos hc] at h
        refine zt_iconst zy_181 (show q_ins q_k181 343 = some (.iconst 1, 0, 0) from rfl) ?_
        refine zt_goto zy_181 (show q_ins q_k181 344 = some (.goto 4, 348, 0) from rfl) ?_
        exact zt_wk (zt_cov_cons rfl (zt_cov_cons rfl (zt_cov_cons rfl (zt_cov_cons rfl (zt_cov_cons rfl (zt_cov_cons rfl (zt_cov_cons rfl (zt_cov_cons rfl (zt_cov_cons rfl (zt_cov_nil)))))))))) (S_P_areLegal_348  hr250 _ _ _ _ _ _ _ _ _ _ _ _ h)
      · rw [if_neg hc] at h
        exact zt_wk (zt_cov_cons rfl (zt_cov_cons rfl (zt_cov_cons rfl (zt_cov_cons rfl (zt_cov_cons rfl (zt_cov_cons rfl (zt_cov_cons rfl (zt_cov_cons rfl (zt_cov_cons rfl (zt_cov_nil)))))))))) (S_P_areLegal_347  hr250 _ _ _ _ _ _ _ _ _ _ _ h)
  · rw [if_neg hc] at h
    exact zt_wk (zt_cov_nil) (S_P_areLegal_327  _ _ _ h)
set_option maxRecDepth 100000 in
theorem S_P_areLegal_319 {X : q_X}   {r250 : Int → Int → Int → Int → Int → Int → Int → zt_S → zt_T → Option (Int × zt_S × zt_T)} (hr250 : ∀ (v1 : Int) (v2 : Int) (v3 : Int) (v4 : Int) (v6 : Int) (v8 : Int) (v9 : Int) (σ : zt_S) (T : zt_T) (o : (Int × zt_S × zt_T)), r250 v1 v2 v3 v4 v6 v8 v9 σ T = some o → zt_Ex X 4 181 250 [(0, .ref 0), (1, .int (Int32.ofInt v1)), (2, .int (Int32.ofInt v2)), (3, .int (Int32.ofInt v3)), (4, .int (Int32.ofInt v4)), (6, .int (Int32.ofInt v6)), (8, .int (Int32.ofInt v8)), (9, .int (Int32.ofInt v9))] [] (zt_M T σ) (zl_I o)) : ∀ (v1 : Int) (v2 : Int) (v3 : Int) (v4 : Int) (v6 : Int) (v8 : Int) (v9 : Int) (v10 : Int) (x0 : Int) (σ : zt_S) (T : zt_T) (o : (Int × zt_S × zt_T)), F_P_areLegal_319  r250 v1 v2 v3 v4 v6 v8 v9 v10 x0 σ T = some o → zt_Ex X 4 181 319 [(0, .ref 0), (1, .int (Int32.ofInt v1)), (2, .int (Int32.ofInt v2)), (3, .int (Int32.ofInt v3)), (4, .int (Int32.ofInt v4)), (6, .int (Int32.ofInt v6)), (8, .int (Int32.ofInt v8)), (9, .int (Int32.ofInt v9)), (10, .int (Int32.ofInt v10))] [.int (Int32.ofInt x0)] (zt_M T σ) (zl_I o) := by
  intro v1 v2 v3 v4 v6 v8 v9 v10 x0 σ T o  h
  unfold F_P_areLegal_319 at h
  refine zt_iconst zy_181 (show q_ins q_k181 319 = some (.iconst 1, 0, 0) from rfl) ?_
  refine zt_goto zy_181 (show q_ins q_k181 320 = some (.goto 4, 324, 0) from rfl) ?_
  exact zt_wk (zt_cov_cons rfl (zt_cov_cons rfl (zt_cov_cons rfl (zt_cov_cons rfl (zt_cov_cons rfl (zt_cov_cons rfl (zt_cov_cons rfl (zt_cov_cons rfl (zt_cov_cons rfl (zt_cov_nil)))))))))) (S_P_areLegal_324  hr250 _ _ _ _ _ _ _ _ _ _ _ _ _ h)
set_option maxRecDepth 100000 in
theorem S_P_areLegal_279 {X : q_X}   {r250 : Int → Int → Int → Int → Int → Int → Int → zt_S → zt_T → Option (Int × zt_S × zt_T)} (hr250 : ∀ (v1 : Int) (v2 : Int) (v3 : Int) (v4 : Int) (v6 : Int) (v8 : Int) (v9 : Int) (σ : zt_S) (T : zt_T) (o : (Int × zt_S × zt_T)), r250 v1 v2 v3 v4 v6 v8 v9 σ T = some o → zt_Ex X 4 181 250 [(0, .ref 0), (1, .int (Int32.ofInt v1)), (2, .int (Int32.ofInt v2)), (3, .int (Int32.ofInt v3)), (4, .int (Int32.ofInt v4)), (6, .int (Int32.ofInt v6)), (8, .int (Int32.ofInt v8)), (9, .int (Int32.ofInt v9))] [] (zt_M T σ) (zl_I o)) : ∀ (v1 : Int) (v2 : Int) (v3 : Int) (v4 : Int) (v6 : Int) (v8 : Int) (v9 : Int) (x0 : Int) (x1 : Int) (σ : zt_S) (T : zt_T) (o : (Int × zt_S × zt_T)), F_P_areLegal_279  r250 v1 v2 v3 v4 v6 v8 v9 x0 x1 σ T = some o → zt_Ex X 4 181 279 [(0, .ref 0), (1, .int (Int32.ofInt v1)), (2, .int (Int32.ofInt v2)), (3, .int (Int32.ofInt v3)), (4, .int (Int32.ofInt v4)), (6, .int (Int32.ofInt v6)), (8, .int (Int32.ofInt v8)), (9, .int (Int32.ofInt v9))] [.int (Int32.ofInt x0), .int (Int32.ofInt x1), .ref 0] (zt_M T σ) (zl_I o) := by
  intro v1 v2 v3 v4 v6 v8 v9 x0 x1 σ T o  h
  unfold F_P_areLegal_279 at h
  refine zt_iload zy_181 (show q_ins q_k181 279 = some (.iload 4, 0, 0) from rfl) (v := Int32.ofInt v4) rfl ?_
  refine zt_aload_n zy_181 (show q_ins q_k181 281 = some (.aload_n 0, 0, 0) from rfl) (v := 0) rfl ?_
  refine zt_iconst zy_181 (show q_ins q_k181 282 = some (.iconst 5, 0, 0) from rfl) ?_
  obtain ⟨a32, s33, hca32, h⟩ := zt_byE h
  refine zt_callV (d := 3) zy_181 (show q_ins q_k181 283 = some (.invokevirtual 86, 122, 1) from rfl) zy_122 (by decide) ⟨zq_lt (by decide), by decide⟩ rfl (by simp [Value.category]) (by simp [lg_sl, Value.category]) (zt_rcv zc_0) (zt_dm (by decide) (S_C_size hca32)) ?_
  obtain ⟨a34, s35, t36, hca34, h⟩ := zt_btE h
  refine zt_callS (d := 3) zy_181 (show q_ins q_k181 286 = some (.invokestatic 166, 180, 5) from rfl) zy_180 (by decide) ⟨zq_lt (by decide), by decide⟩ rfl (by simp [Value.category]) (by simp [lg_sl, Value.category]) rfl (zt_dm (by decide) (S_P_power hca34)) ?_
  refine zt_istore zy_181 (show q_ins q_k181 289 = some (.istore 10, 0, 0) from rfl) (by decide) ?_
  refine zt_aload_n zy_181 (show q_ins q_k181 291 = some (.aload_n 0, 0, 0) from rfl) (v := 0) rfl ?_
  refine zt_iload zy_181 (show q_ins q_k181 292 = some (.iload 9, 0, 0) from rfl) (v := Int32.ofInt v9) rfl ?_
  obtain ⟨a37, s38, hca37, h⟩ := zt_byE h
  refine zt_callV (d := 3) zy_181 (show q_ins q_k181 294 = some (.invokevirtual 173, 131, 1) from rfl) zy_131 (by decide) ⟨zq_lt (by decide), by decide⟩ rfl (by simp [Value.category]) (by simp [lg_sl, Value.category]) (zt_rcv zc_0) (zt_dm (by decide) (S_C_power hca37)) ?_
  refine zt_iload zy_181 (show q_ins q_k181 297 = some (.iload 10, 0, 0) from rfl) (v := Int32.ofInt a34) rfl ?_
  obtain ⟨hg, h⟩ := zt_ckE h
  refine zt_icmp_ne zy_181 (show q_ins q_k181 299 = some (.if_icmp .ne 28, 327, 0) from rfl) (⟨hg.1, hg.2⟩) (fun hc => ?_) (fun hc => ?_)
  · rw [if_pos hc] at h
    refine zt_aload_n zy_181 (show q_ins q_k181 302 = some (.aload_n 0, 0, 0) from rfl) (v := 0) rfl ?_
    refine zt_iload zy_181 (show q_ins q_k181 303 = some (.iload 9, 0, 0) from rfl) (v := Int32.ofInt v9) rfl ?_
    obtain ⟨a39, s40, hca39, h⟩ := zt_byE h
    refine zt_callV (d := 3) zy_181 (show q_ins q_k181 305 = some (.invokevirtual 175, 134, 1) from rfl) zy_134 (by decide) ⟨zq_lt (by decide), by decide⟩ rfl (by simp [Value.category]) (by simp [lg_sl, Value.category]) (zt_rcv zc_0) (zt_dm (by decide) (S_C_wouldLead hca39)) ?_
    refine zt_iload_n zy_181 (show q_ins q_k181 308 = some (.iload_n 3, 0, 0) from rfl) (v := Int32.ofInt v3) rfl ?_
    obtain ⟨hg, h⟩ := zt_ckE h
    refine zt_if_lt zy_181 (show q_ins q_k181 309 = some (.ifCond .lt 10, 319, 0) from rfl) (hg) (fun hc => ?_) (fun hc => ?_)
    · rw [if_pos hc] at h
      exact zt_wk (zt_cov_cons rfl (zt_cov_cons rfl (zt_cov_cons rfl (zt_cov_cons rfl (zt_cov_cons rfl (zt_cov_cons rfl (zt_cov_cons rfl (zt_cov_cons rfl (zt_cov_cons rfl (zt_cov_nil)))))))))) (S_P_areLegal_319  hr250 _ _ _ _ _ _ _ _ _ _ _ _ h)
    · rw [if_neg hc] at h
      refine zt_iload zy_181 (show q_ins q_k181 312 = some (.iload 10, 0, 0) from rfl) (v := Int32.ofInt a34) rfl ?_
      refine zt_iload zy_181 (show q_ins q_k181 314 = some (.iload 6, 0, 0) from rfl) (v := Int32.ofInt v6) rfl ?_
      obtain ⟨hg, h⟩ := zt_ckE h
      refine zt_icmp_le zy_181 (show q_ins q_k181 316 = some (.if_icmp .le 7, 323, 0) from rfl) (⟨hg.1, hg.2⟩) (fun hc => ?_) (fun hc => ?_)
      · rw [if_pos hc] at h
        exact zt_wk (zt_cov_cons rfl (zt_cov_cons rfl (zt_cov_cons rfl (zt_cov_cons rfl (zt_cov_cons rfl (zt_cov_cons rfl (zt_cov_cons rfl (zt_cov_cons rfl (zt_cov_cons rfl (zt_cov_nil)))))))))) (S_P_areLegal_319  hr250 _ _ _ _ _ _ _ _ _ _ _ _ h)
      · rw [if_neg hc] at h
        refine zt_iconst zy_181 (show q_ins q_k181 323 = some (.iconst 0, 0, 0) from rfl) ?_
        exact zt_wk (zt_cov_cons rfl (zt_cov_cons rfl (zt_cov_cons rfl (zt_cov_cons rfl (zt_cov_cons rfl (zt_cov_cons rfl (zt_cov_cons rfl (zt_cov_cons rfl (zt_cov_cons rfl (zt_cov_nil)))))))))) (S_P_areLegal_324  hr250 _ _ _ _ _ _ _ _ _ _ _ _ _ h)
  · rw [if_neg hc] at h
    exact zt_wk (zt_cov_nil) (S_P_areLegal_327  _ _ _ h)
set_option maxRecDepth 100000 in
theorem S_P_areLegal_525 {X : q_X}   : ∀ (x0 : Int) (σ : zt_S) (T : zt_T) (o : (Int × zt_S × zt_T)), F_P_areLegal_525  x0 σ T = some o → zt_Ex X 4 181 525 [] [.int (Int32.ofInt x0)] (zt_M T σ) (zl_I o) := by
  intro x0 σ T o  h
  unfold F_P_areLegal_525 at h
  obtain ⟨hg, h⟩ := zt_ckE h
  cases h
  exact zt_zret zy_181 (show q_ins q_k181 525 = some (.ireturn, 0, 0) from rfl) hg
set_option maxRecDepth 100000 in
theorem S_P_areLegal_524 {X : q_X}   : ∀  (σ : zt_S) (T : zt_T) (o : (Int × zt_S × zt_T)), F_P_areLegal_524   σ T = some o → zt_Ex X 4 181 524 [] [] (zt_M T σ) (zl_I o) := by
  intro  σ T o  h
  unfold F_P_areLegal_524 at h
  refine zt_iconst zy_181 (show q_ins q_k181 524 = some (.iconst 0, 0, 0) from rfl) ?_
  exact zt_wk (zt_cov_nil) (S_P_areLegal_525  _ _ _ _ h)
set_option maxRecDepth 100000 in
theorem S_P_areLegal_517 {X : q_X}   : ∀ (x0 : Int) (x1 : Int) (σ : zt_S) (T : zt_T) (o : (Int × zt_S × zt_T)), F_P_areLegal_517  x0 x1 σ T = some o → zt_Ex X 4 181 517 [] [.int (Int32.ofInt x0), .int (Int32.ofInt x1)] (zt_M T σ) (zl_I o) := by
  intro x0 x1 σ T o  h
  unfold F_P_areLegal_517 at h
  obtain ⟨hg, h⟩ := zt_ckE h
  refine zt_icmp_ne zy_181 (show q_ins q_k181 517 = some (.if_icmp .ne 7, 524, 0) from rfl) (⟨hg.1, hg.2⟩) (fun hc => ?_) (fun hc => ?_)
  · rw [if_pos hc] at h
    refine zt_iconst zy_181 (show q_ins q_k181 520 = some (.iconst 1, 0, 0) from rfl) ?_
    refine zt_goto zy_181 (show q_ins q_k181 521 = some (.goto 4, 525, 0) from rfl) ?_
    exact zt_wk (zt_cov_nil) (S_P_areLegal_525  _ _ _ _ h)
  · rw [if_neg hc] at h
    exact zt_wk (zt_cov_nil) (S_P_areLegal_524  _ _ _ h)
set_option maxRecDepth 100000 in
theorem S_P_areLegal_508 {X : q_X}   : ∀ (v2 : Int) (x0 : Int) (σ : zt_S) (T : zt_T) (o : (Int × zt_S × zt_T)), F_P_areLegal_508  v2 x0 σ T = some o → zt_Ex X 4 181 508 [(2, .int (Int32.ofInt v2))] [.int (Int32.ofInt x0)] (zt_M T σ) (zl_I o) := by
  intro v2 x0 σ T o  h
  unfold F_P_areLegal_508 at h
  refine zt_iload_n zy_181 (show q_ins q_k181 508 = some (.iload_n 2, 0, 0) from rfl) (v := Int32.ofInt v2) rfl ?_
  obtain ⟨hg, h⟩ := zt_ckE h
  refine zt_if_ne zy_181 (show q_ins q_k181 509 = some (.ifCond .ne 7, 516, 0) from rfl) (hg) (fun hc => ?_) (fun hc => ?_)
  · rw [if_pos hc] at h
    refine zt_iconst zy_181 (show q_ins q_k181 512 = some (.iconst 1, 0, 0) from rfl) ?_
    refine zt_goto zy_181 (show q_ins q_k181 513 = some (.goto 4, 517, 0) from rfl) ?_
    exact zt_wk (zt_cov_nil) (S_P_areLegal_517  _ _ _ _ _ h)
  · rw [if_neg hc] at h
    refine zt_iconst zy_181 (show q_ins q_k181 516 = some (.iconst 0, 0, 0) from rfl) ?_
    exact zt_wk (zt_cov_nil) (S_P_areLegal_517  _ _ _ _ _ h)
set_option maxRecDepth 100000 in
theorem S_P_areLegal_491 {X : q_X}   : ∀ (v1 : Int) (v2 : Int) (σ : zt_S) (T : zt_T) (o : (Int × zt_S × zt_T)), F_P_areLegal_491  v1 v2 σ T = some o → zt_Ex X 4 181 491 [(0, .ref 0), (1, .int (Int32.ofInt v1)), (2, .int (Int32.ofInt v2))] [] (zt_M T σ) (zl_I o) := by
  intro v1 v2 σ T o  h
  unfold F_P_areLegal_491 at h
  refine zt_aload_n zy_181 (show q_ins q_k181 491 = some (.aload_n 0, 0, 0) from rfl) (v := 0) rfl ?_
  obtain ⟨a59, s60, hca59, h⟩ := zt_bdE h
  refine zt_callV (d := 3) zy_181 (show q_ins q_k181 492 = some (.invokevirtual 185, 130, 0) from rfl) zy_130 (by decide) ⟨zq_lt (by decide), by decide⟩ rfl (by simp [Value.category]) (by simp [lg_sl, Value.category]) (zt_rcv zc_0) (zt_dm (by decide) (S_C_legal hca59)) ?_
  refine zt_iload_n zy_181 (show q_ins q_k181 495 = some (.iload_n 2, 0, 0) from rfl) (v := Int32.ofInt v2) rfl ?_
  obtain ⟨hg, h⟩ := zt_ckE h
  refine zt_icmp_ne zy_181 (show q_ins q_k181 496 = some (.if_icmp .ne 28, 524, 0) from rfl) (⟨hg.1, hg.2⟩) (fun hc => ?_) (fun hc => ?_)
  · rw [if_pos hc] at h
    refine zt_iload_n zy_181 (show q_ins q_k181 499 = some (.iload_n 1, 0, 0) from rfl) (v := Int32.ofInt v1) rfl ?_
    obtain ⟨hg, h⟩ := zt_ckE h
    refine zt_if_ge zy_181 (show q_ins q_k181 500 = some (.ifCond .ge 7, 507, 0) from rfl) (hg) (fun hc => ?_) (fun hc => ?_)
    · rw [if_pos hc] at h
      refine zt_iconst zy_181 (show q_ins q_k181 503 = some (.iconst 1, 0, 0) from rfl) ?_
      refine zt_goto zy_181 (show q_ins q_k181 504 = some (.goto 4, 508, 0) from rfl) ?_
      exact zt_wk (zt_cov_cons rfl (zt_cov_nil)) (S_P_areLegal_508  _ _ _ _ _ h)
    · rw [if_neg hc] at h
      refine zt_iconst zy_181 (show q_ins q_k181 507 = some (.iconst 0, 0, 0) from rfl) ?_
      exact zt_wk (zt_cov_cons rfl (zt_cov_nil)) (S_P_areLegal_508  _ _ _ _ _ h)
  · rw [if_neg hc] at h
    exact zt_wk (zt_cov_nil) (S_P_areLegal_524  _ _ _ h)
set_option maxRecDepth 100000 in
theorem S_P_areLegal_250 {X : q_X}   : ∀ (n : Nat) (v1 : Int) (v2 : Int) (v3 : Int) (v4 : Int) (v6 : Int) (v8 : Int) (v9 : Int) (σ : zt_S) (T : zt_T) (o : (Int × zt_S × zt_T)), F_P_areLegal_250  n v1 v2 v3 v4 v6 v8 v9 σ T = some o → zt_Ex X 4 181 250 [(0, .ref 0), (1, .int (Int32.ofInt v1)), (2, .int (Int32.ofInt v2)), (3, .int (Int32.ofInt v3)), (4, .int (Int32.ofInt v4)), (6, .int (Int32.ofInt v6)), (8, .int (Int32.ofInt v8)), (9, .int (Int32.ofInt v9))] [] (zt_M T σ) (zl_I o) := by
  intro n
  induction n with
  | zero => intro v1 v2 v3 v4 v6 v8 v9 σ T o  h; cases h
  | succ n ih =>
  intro v1 v2 v3 v4 v6 v8 v9 σ T o  h
  rw [F_P_areLegal_250] at h
  refine zt_iload zy_181 (show q_ins q_k181 250 = some (.iload 9, 0, 0) from rfl) (v := Int32.ofInt v9) rfl ?_
  refine zt_iconst zy_181 (show q_ins q_k181 252 = some (.iconst 4, 0, 0) from rfl) ?_
  refine zt_aload_n zy_181 (show q_ins q_k181 253 = some (.aload_n 0, 0, 0) from rfl) (v := 0) rfl ?_
  refine zt_iconst zy_181 (show q_ins q_k181 254 = some (.iconst 0, 0, 0) from rfl) ?_
  obtain ⟨a28, s29, hca28, h⟩ := zt_byE h
  refine zt_callV (d := 3) zy_181 (show q_ins q_k181 255 = some (.invokevirtual 86, 122, 1) from rfl) zy_122 (by decide) ⟨zq_lt (by decide), by decide⟩ rfl (by simp [Value.category]) (by simp [lg_sl, Value.category]) (zt_rcv zc_0) (zt_dm (by decide) (S_C_size hca28)) ?_
  refine zt_imul zy_181 (show q_ins q_k181 258 = some (.imul, 0, 0) from rfl) ?_
  obtain ⟨hg, h⟩ := zt_ckE h
  refine zt_icmp_ge zy_181 (show q_ins q_k181 259 = some (.if_icmp .ge 232, 491, 0) from rfl) (⟨hg.1, hg.2⟩) (fun hc => ?_) (fun hc => ?_)
  · rw [if_pos hc] at h
    refine zt_aload_n zy_181 (show q_ins q_k181 262 = some (.aload_n 0, 0, 0) from rfl) (v := 0) rfl ?_
    refine zt_iload zy_181 (show q_ins q_k181 263 = some (.iload 9, 0, 0) from rfl) (v := Int32.ofInt v9) rfl ?_
    refine zt_iload_n zy_181 (show q_ins q_k181 265 = some (.iload_n 3, 0, 0) from rfl) (v := Int32.ofInt v3) rfl ?_
    obtain ⟨hg, h⟩ := zt_ckE h
    refine zt_if_ge zy_181 (show q_ins q_k181 266 = some (.ifCond .ge 12, 278, 0) from rfl) (hg) (fun hc => ?_) (fun hc => ?_)
    · rw [if_pos hc] at h
      refine zt_aload_n zy_181 (show q_ins q_k181 269 = some (.aload_n 0, 0, 0) from rfl) (v := 0) rfl ?_
      refine zt_iload zy_181 (show q_ins q_k181 270 = some (.iload 9, 0, 0) from rfl) (v := Int32.ofInt v9) rfl ?_
      obtain ⟨a30, s31, hca30, h⟩ := zt_byE h
      refine zt_callV (d := 3) zy_181 (show q_ins q_k181 272 = some (.invokevirtual 157, 123, 1) from rfl) zy_123 (by decide) ⟨zq_lt (by decide), by decide⟩ rfl (by simp [Value.category]) (by simp [lg_sl, Value.category]) (zt_rcv zc_0) (zt_dm (by decide) (S_C_suit hca30)) ?_
      refine zt_goto zy_181 (show q_ins q_k181 275 = some (.goto 4, 279, 0) from rfl) ?_
      exact zt_wk (zt_cov_cons rfl (zt_cov_cons rfl (zt_cov_cons rfl (zt_cov_cons rfl (zt_cov_cons rfl (zt_cov_cons rfl (zt_cov_cons rfl (zt_cov_cons rfl (zt_cov_nil))))))))) (S_P_areLegal_279  ih _ _ _ _ _ _ _ _ _ _ _ _ h)
    · rw [if_neg hc] at h
      refine zt_iload_n zy_181 (show q_ins q_k181 278 = some (.iload_n 3, 0, 0) from rfl) (v := Int32.ofInt v3) rfl ?_
      exact zt_wk (zt_cov_cons rfl (zt_cov_cons rfl (zt_cov_cons rfl (zt_cov_cons rfl (zt_cov_cons rfl (zt_cov_cons rfl (zt_cov_cons rfl (zt_cov_cons rfl (zt_cov_nil))))))))) (S_P_areLegal_279  ih _ _ _ _ _ _ _ _ _ _ _ _ h)
  · rw [if_neg hc] at h
    exact zt_wk (zt_cov_cons rfl (zt_cov_cons rfl (zt_cov_cons rfl (zt_cov_nil)))) (S_P_areLegal_491  _ _ _ _ _ h)
set_option maxRecDepth 100000 in
theorem S_P_areLegal_247 {X : q_X}   : ∀ (v1 : Int) (v2 : Int) (v3 : Int) (v4 : Int) (v6 : Int) (v8 : Int) (σ : zt_S) (T : zt_T) (o : (Int × zt_S × zt_T)), F_P_areLegal_247  v1 v2 v3 v4 v6 v8 σ T = some o → zt_Ex X 4 181 247 [(0, .ref 0), (1, .int (Int32.ofInt v1)), (2, .int (Int32.ofInt v2)), (3, .int (Int32.ofInt v3)), (4, .int (Int32.ofInt v4)), (6, .int (Int32.ofInt v6)), (8, .int (Int32.ofInt v8))] [] (zt_M T σ) (zl_I o) := by
  intro v1 v2 v3 v4 v6 v8 σ T o  h
  unfold F_P_areLegal_247 at h
  refine zt_iconst zy_181 (show q_ins q_k181 247 = some (.iconst 0, 0, 0) from rfl) ?_
  refine zt_istore zy_181 (show q_ins q_k181 248 = some (.istore 9, 0, 0) from rfl) (by decide) ?_
  exact zt_wk (zt_cov_cons rfl (zt_cov_cons rfl (zt_cov_cons rfl (zt_cov_cons rfl (zt_cov_cons rfl (zt_cov_cons rfl (zt_cov_cons rfl (zt_cov_cons rfl (zt_cov_nil))))))))) (S_P_areLegal_250  _ _ _ _ _ _ _ _ _ _ _ h)
set_option maxRecDepth 100000 in
theorem S_P_areLegal_239 {X : q_X}   {r170 : Int → Int → Int → Int → Int → Int → Int → zt_S → zt_T → Option (Int × zt_S × zt_T)} (hr170 : ∀ (v1 : Int) (v2 : Int) (v3 : Int) (v4 : Int) (v6 : Int) (v8 : Int) (v9 : Int) (σ : zt_S) (T : zt_T) (o : (Int × zt_S × zt_T)), r170 v1 v2 v3 v4 v6 v8 v9 σ T = some o → zt_Ex X 4 181 170 [(0, .ref 0), (1, .int (Int32.ofInt v1)), (2, .int (Int32.ofInt v2)), (3, .int (Int32.ofInt v3)), (4, .int (Int32.ofInt v4)), (6, .int (Int32.ofInt v6)), (8, .int (Int32.ofInt v8)), (9, .int (Int32.ofInt v9))] [] (zt_M T σ) (zl_I o)) : ∀ (v1 : Int) (v2 : Int) (v3 : Int) (v4 : Int) (v6 : Int) (v9 : Int) (x0 : Int) (σ : zt_S) (T : zt_T) (o : (Int × zt_S × zt_T)), F_P_areLegal_239  r170 v1 v2 v3 v4 v6 v9 x0 σ T = some o → zt_Ex X 4 181 239 [(0, .ref 0), (1, .int (Int32.ofInt v1)), (2, .int (Int32.ofInt v2)), (3, .int (Int32.ofInt v3)), (4, .int (Int32.ofInt v4)), (6, .int (Int32.ofInt v6)), (9, .int (Int32.ofInt v9))] [.int (Int32.ofInt x0)] (zt_M T σ) (zl_I o) := by
  intro v1 v2 v3 v4 v6 v9 x0 σ T o  h
  unfold F_P_areLegal_239 at h
  refine zt_istore zy_181 (show q_ins q_k181 239 = some (.istore 8, 0, 0) from rfl) (by decide) ?_
  refine zt_iinc zy_181 (show q_ins q_k181 241 = some (.iinc 9 1, 0, 0) from rfl) (v := v9) (by decide) rfl ?_
  refine zt_goto zy_181 (show q_ins q_k181 244 = some (.goto (-74), 170, 0) from rfl) ?_
  exact zt_wk (zt_cov_cons rfl (zt_cov_cons rfl (zt_cov_cons rfl (zt_cov_cons rfl (zt_cov_cons rfl (zt_cov_cons rfl (zt_cov_cons rfl (zt_cov_cons rfl (zt_cov_nil))))))))) (hr170 _ _ _ _ _ _ _ _ _ _ h)
set_option maxRecDepth 100000 in
theorem S_P_areLegal_234 {X : q_X}   {r170 : Int → Int → Int → Int → Int → Int → Int → zt_S → zt_T → Option (Int × zt_S × zt_T)} (hr170 : ∀ (v1 : Int) (v2 : Int) (v3 : Int) (v4 : Int) (v6 : Int) (v8 : Int) (v9 : Int) (σ : zt_S) (T : zt_T) (o : (Int × zt_S × zt_T)), r170 v1 v2 v3 v4 v6 v8 v9 σ T = some o → zt_Ex X 4 181 170 [(0, .ref 0), (1, .int (Int32.ofInt v1)), (2, .int (Int32.ofInt v2)), (3, .int (Int32.ofInt v3)), (4, .int (Int32.ofInt v4)), (6, .int (Int32.ofInt v6)), (8, .int (Int32.ofInt v8)), (9, .int (Int32.ofInt v9))] [] (zt_M T σ) (zl_I o)) : ∀ (v1 : Int) (v2 : Int) (v3 : Int) (v4 : Int) (v6 : Int) (v9 : Int) (σ : zt_S) (T : zt_T) (o : (Int × zt_S × zt_T)), F_P_areLegal_234  r170 v1 v2 v3 v4 v6 v9 σ T = some o → zt_Ex X 4 181 234 [(0, .ref 0), (1, .int (Int32.ofInt v1)), (2, .int (Int32.ofInt v2)), (3, .int (Int32.ofInt v3)), (4, .int (Int32.ofInt v4)), (6, .int (Int32.ofInt v6)), (9, .int (Int32.ofInt v9))] [] (zt_M T σ) (zl_I o) := by
  intro v1 v2 v3 v4 v6 v9 σ T o  h
  unfold F_P_areLegal_234 at h
  refine zt_iconst zy_181 (show q_ins q_k181 234 = some (.iconst 1, 0, 0) from rfl) ?_
  refine zt_goto zy_181 (show q_ins q_k181 235 = some (.goto 4, 239, 0) from rfl) ?_
  exact zt_wk (zt_cov_cons rfl (zt_cov_cons rfl (zt_cov_cons rfl (zt_cov_cons rfl (zt_cov_cons rfl (zt_cov_cons rfl (zt_cov_cons rfl (zt_cov_nil)))))))) (S_P_areLegal_239  hr170 _ _ _ _ _ _ _ _ _ _ h)
set_option maxRecDepth 100000 in
theorem S_P_areLegal_238 {X : q_X}   {r170 : Int → Int → Int → Int → Int → Int → Int → zt_S → zt_T → Option (Int × zt_S × zt_T)} (hr170 : ∀ (v1 : Int) (v2 : Int) (v3 : Int) (v4 : Int) (v6 : Int) (v8 : Int) (v9 : Int) (σ : zt_S) (T : zt_T) (o : (Int × zt_S × zt_T)), r170 v1 v2 v3 v4 v6 v8 v9 σ T = some o → zt_Ex X 4 181 170 [(0, .ref 0), (1, .int (Int32.ofInt v1)), (2, .int (Int32.ofInt v2)), (3, .int (Int32.ofInt v3)), (4, .int (Int32.ofInt v4)), (6, .int (Int32.ofInt v6)), (8, .int (Int32.ofInt v8)), (9, .int (Int32.ofInt v9))] [] (zt_M T σ) (zl_I o)) : ∀ (v1 : Int) (v2 : Int) (v3 : Int) (v4 : Int) (v6 : Int) (v9 : Int) (σ : zt_S) (T : zt_T) (o : (Int × zt_S × zt_T)), F_P_areLegal_238  r170 v1 v2 v3 v4 v6 v9 σ T = some o → zt_Ex X 4 181 238 [(0, .ref 0), (1, .int (Int32.ofInt v1)), (2, .int (Int32.ofInt v2)), (3, .int (Int32.ofInt v3)), (4, .int (Int32.ofInt v4)), (6, .int (Int32.ofInt v6)), (9, .int (Int32.ofInt v9))] [] (zt_M T σ) (zl_I o) := by
  intro v1 v2 v3 v4 v6 v9 σ T o  h
  unfold F_P_areLegal_238 at h
  refine zt_iconst zy_181 (show q_ins q_k181 238 = some (.iconst 0, 0, 0) from rfl) ?_
  exact zt_wk (zt_cov_cons rfl (zt_cov_cons rfl (zt_cov_cons rfl (zt_cov_cons rfl (zt_cov_cons rfl (zt_cov_cons rfl (zt_cov_cons rfl (zt_cov_nil)))))))) (S_P_areLegal_239  hr170 _ _ _ _ _ _ _ _ _ _ h)
set_option maxRecDepth 100000 in
theorem S_P_areLegal_170 {X : q_X}   : ∀ (n : Nat) (v1 : Int) (v2 : Int) (v3 : Int) (v4 : Int) (v6 : Int) (v8 : Int) (v9 : Int) (σ : zt_S) (T : zt_T) (o : (Int × zt_S × zt_T)), F_P_areLegal_170  n v1 v2 v3 v4 v6 v8 v9 σ T = some o → zt_Ex X 4 181 170 [(0, .ref 0), (1, .int (Int32.ofInt v1)), (2, .int (Int32.ofInt v2)), (3, .int (Int32.ofInt v3)), (4, .int (Int32.ofInt v4)), (6, .int (Int32.ofInt v6)), (8, .int (Int32.ofInt v8)), (9, .int (Int32.ofInt v9))] [] (zt_M T σ) (zl_I o) := by
  intro n
  induction n with
  | zero => intro v1 v2 v3 v4 v6 v8 v9 σ T o  h; cases h
  | succ n ih =>
  intro v1 v2 v3 v4 v6 v8 v9 σ T o  h
  rw [F_P_areLegal_170] at h
  refine zt_iload zy_181 (show q_ins q_k181 170 = some (.iload 9, 0, 0) from rfl) (v := Int32.ofInt v9) rfl ?_
  refine zt_iconst zy_181 (show q_ins q_k181 172 = some (.iconst 4, 0, 0) from rfl) ?_
  refine zt_aload_n zy_181 (show q_ins q_k181 173 = some (.aload_n 0, 0, 0) from rfl) (v := 0) rfl ?_
  refine zt_iconst zy_181 (show q_ins q_k181 174 = some (.iconst 0, 0, 0) from rfl) ?_
  obtain ⟨a26, s27, hca26, h⟩ := zt_byE h
  refine zt_callV (d := 3) zy_181 (show q_ins q_k181 175 = some (.invokevirtual 86, 122, 1) from rfl) zy_122 (by decide) ⟨zq_lt (by decide), by decide⟩ rfl (by simp [Value.category]) (by simp [lg_sl, Value.category]) (zt_rcv zc_0) (zt_dm (by decide) (S_C_size hca26)) ?_
  refine zt_imul zy_181 (show q_ins q_k181 178 = some (.imul, 0, 0) from rfl) ?_
  obtain ⟨hg, h⟩ := zt_ckE h
  refine zt_icmp_ge zy_181 (show q_ins q_k181 179 = some (.if_icmp .ge 68, 247, 0) from rfl) (⟨hg.1, hg.2⟩) (fun hc => ?_) (fun hc => ?_)
  · rw [if_pos hc] at h
    refine zt_iload_n zy_181 (show q_ins q_k181 182 = some (.iload_n 1, 0, 0) from rfl) (v := Int32.ofInt v1) rfl ?_
    obtain ⟨hg, h⟩ := zt_ckE h
    refine zt_if_lt zy_181 (show q_ins q_k181 183 = some (.ifCond .lt 64, 247, 0) from rfl) (hg) (fun hc => ?_) (fun hc => ?_)
    · rw [if_pos hc] at h
      exact zt_wk (zt_cov_cons rfl (zt_cov_cons rfl (zt_cov_cons rfl (zt_cov_cons rfl (zt_cov_cons rfl (zt_cov_cons rfl (zt_cov_cons rfl (zt_cov_nil)))))))) (S_P_areLegal_247  _ _ _ _ _ _ _ _ _ h)
    · rw [if_neg hc] at h
      refine zt_iload_n zy_181 (show q_ins q_k181 186 = some (.iload_n 3, 0, 0) from rfl) (v := Int32.ofInt v3) rfl ?_
      obtain ⟨hg, h⟩ := zt_ckE h
      refine zt_if_lt zy_181 (show q_ins q_k181 187 = some (.ifCond .lt 60, 247, 0) from rfl) (hg) (fun hc => ?_) (fun hc => ?_)
      · rw [if_pos hc] at h
        exact zt_wk (zt_cov_cons rfl (zt_cov_cons rfl (zt_cov_cons rfl (zt_cov_cons rfl (zt_cov_cons rfl (zt_cov_cons rfl (zt_cov_cons rfl (zt_cov_nil)))))))) (S_P_areLegal_247  _ _ _ _ _ _ _ _ _ h)
      · rw [if_neg hc] at h
        refine zt_iload zy_181 (show q_ins q_k181 190 = some (.iload 8, 0, 0) from rfl) (v := Int32.ofInt v8) rfl ?_
        obtain ⟨hg, h⟩ := zt_ckE h
        refine zt_if_ne zy_181 (show q_ins q_k181 192 = some (.ifCond .ne 42, 234, 0) from rfl) (hg) (fun hc => ?_) (fun hc => ?_)
        · rw [if_pos hc] at h
          refine zt_aload_n zy_181 (show q_ins q_k181 195 = some (.aload_n 0, 0, 0) from rfl) (v := 0) rfl ?_
          refine zt_iload zy_181 (show q_ins q_k181 196 = some (.iload 9, 0, 0) from rfl) (v := Int32.ofInt v9) rfl ?_
          obtain ⟨a61, s62, hca61, h⟩ := zt_byE h
          refine zt_callV (d := 3) zy_181 (show q_ins q_k181 198 = some (.invokevirtual 93, 125, 1) from rfl) zy_125 (by decide) ⟨zq_lt (by decide), by decide⟩ rfl (by simp [Value.category]) (by simp [lg_sl, Value.category]) (zt_rcv zc_0) (zt_dm (by decide) (S_C_holder hca61)) ?_
          refine zt_iload_n zy_181 (show q_ins q_k181 201 = some (.iload_n 1, 0, 0) from rfl) (v := Int32.ofInt v1) rfl ?_
          obtain ⟨hg, h⟩ := zt_ckE h
          refine zt_icmp_ne zy_181 (show q_ins q_k181 202 = some (.if_icmp .ne 36, 238, 0) from rfl) (⟨hg.1, hg.2⟩) (fun hc => ?_) (fun hc => ?_)
          · rw [if_pos hc] at h
            refine zt_aload_n zy_181 (show q_ins q_k181 205 = some (.aload_n 0, 0, 0) from rfl) (v := 0) rfl ?_
            refine zt_iload zy_181 (show q_ins q_k181 206 = some (.iload 9, 0, 0) from rfl) (v := Int32.ofInt v9) rfl ?_
            obtain ⟨a63, s64, hca63, h⟩ := zt_byE h
            refine zt_callV (d := 3) zy_181 (show q_ins q_k181 208 = some (.invokevirtual 157, 123, 1) from rfl) zy_123 (by decide) ⟨zq_lt (by decide), by decide⟩ rfl (by simp [Value.category]) (by simp [lg_sl, Value.category]) (zt_rcv zc_0) (zt_dm (by decide) (S_C_suit hca63)) ?_
            refine zt_iload_n zy_181 (show q_ins q_k181 211 = some (.iload_n 3, 0, 0) from rfl) (v := Int32.ofInt v3) rfl ?_
            obtain ⟨hg, h⟩ := zt_ckE h
            refine zt_icmp_ne zy_181 (show q_ins q_k181 212 = some (.if_icmp .ne 26, 238, 0) from rfl) (⟨hg.1, hg.2⟩) (fun hc => ?_) (fun hc => ?_)
            · rw [if_pos hc] at h
              refine zt_aload_n zy_181 (show q_ins q_k181 215 = some (.aload_n 0, 0, 0) from rfl) (v := 0) rfl ?_
              refine zt_iload zy_181 (show q_ins q_k181 216 = some (.iload 9, 0, 0) from rfl) (v := Int32.ofInt v9) rfl ?_
              refine zt_iload_n zy_181 (show q_ins q_k181 218 = some (.iload_n 3, 0, 0) from rfl) (v := Int32.ofInt v3) rfl ?_
              refine zt_iload zy_181 (show q_ins q_k181 219 = some (.iload 4, 0, 0) from rfl) (v := Int32.ofInt v4) rfl ?_
              refine zt_aload_n zy_181 (show q_ins q_k181 221 = some (.aload_n 0, 0, 0) from rfl) (v := 0) rfl ?_
              refine zt_iconst zy_181 (show q_ins q_k181 222 = some (.iconst 5, 0, 0) from rfl) ?_
              obtain ⟨a65, s66, hca65, h⟩ := zt_byE h
              refine zt_callV (d := 3) zy_181 (show q_ins q_k181 223 = some (.invokevirtual 86, 122, 1) from rfl) zy_122 (by decide) ⟨zq_lt (by decide), by decide⟩ rfl (by simp [Value.category]) (by simp [lg_sl, Value.category]) (zt_rcv zc_0) (zt_dm (by decide) (S_C_size hca65)) ?_
              obtain ⟨a67, s68, t69, hca67, h⟩ := zt_btE h
              refine zt_callS (d := 3) zy_181 (show q_ins q_k181 226 = some (.invokestatic 166, 180, 5) from rfl) zy_180 (by decide) ⟨zq_lt (by decide), by decide⟩ rfl (by simp [Value.category]) (by simp [lg_sl, Value.category]) rfl (zt_dm (by decide) (S_P_power hca67)) ?_
              refine zt_iload zy_181 (show q_ins q_k181 229 = some (.iload 6, 0, 0) from rfl) (v := Int32.ofInt v6) rfl ?_
              obtain ⟨hg, h⟩ := zt_ckE h
              refine zt_icmp_le zy_181 (show q_ins q_k181 231 = some (.if_icmp .le 7, 238, 0) from rfl) (⟨hg.1, hg.2⟩) (fun hc => ?_) (fun hc => ?_)
              · rw [if_pos hc] at h
                exact zt_wk (zt_cov_cons rfl (zt_cov_cons rfl (zt_cov_cons rfl (zt_cov_cons rfl (zt_cov_cons rfl (zt_cov_cons rfl (zt_cov_cons rfl (zt_cov_nil)))))))) (S_P_areLegal_234  ih _ _ _ _ _ _ _ _ _ h)
              · rw [if_neg hc] at h
                exact zt_wk (zt_cov_cons rfl (zt_cov_cons rfl (zt_cov_cons rfl (zt_cov_cons rfl (zt_cov_cons rfl (zt_cov_cons rfl (zt_cov_cons rfl (zt_cov_nil)))))))) (S_P_areLegal_238  ih _ _ _ _ _ _ _ _ _ h)
            · rw [if_neg hc] at h
              exact zt_wk (zt_cov_cons rfl (zt_cov_cons rfl (zt_cov_cons rfl (zt_cov_cons rfl (zt_cov_cons rfl (zt_cov_cons rfl (zt_cov_cons rfl (zt_cov_nil)))))))) (S_P_areLegal_238  ih _ _ _ _ _ _ _ _ _ h)
          · rw [if_neg hc] at h
            exact zt_wk (zt_cov_cons rfl (zt_cov_cons rfl (zt_cov_cons rfl (zt_cov_cons rfl (zt_cov_cons rfl (zt_cov_cons rfl (zt_cov_cons rfl (zt_cov_nil)))))))) (S_P_areLegal_238  ih _ _ _ _ _ _ _ _ _ h)
        · rw [if_neg hc] at h
          exact zt_wk (zt_cov_cons rfl (zt_cov_cons rfl (zt_cov_cons rfl (zt_cov_cons rfl (zt_cov_cons rfl (zt_cov_cons rfl (zt_cov_cons rfl (zt_cov_nil)))))))) (S_P_areLegal_234  ih _ _ _ _ _ _ _ _ _ h)
  · rw [if_neg hc] at h
    exact zt_wk (zt_cov_cons rfl (zt_cov_cons rfl (zt_cov_cons rfl (zt_cov_cons rfl (zt_cov_cons rfl (zt_cov_cons rfl (zt_cov_cons rfl (zt_cov_nil)))))))) (S_P_areLegal_247  _ _ _ _ _ _ _ _ _ h)
set_option maxRecDepth 100000 in
theorem S_P_areLegal_164 {X : q_X}   : ∀ (v1 : Int) (v2 : Int) (v3 : Int) (v4 : Int) (v6 : Int) (σ : zt_S) (T : zt_T) (o : (Int × zt_S × zt_T)), F_P_areLegal_164  v1 v2 v3 v4 v6 σ T = some o → zt_Ex X 4 181 164 [(0, .ref 0), (1, .int (Int32.ofInt v1)), (2, .int (Int32.ofInt v2)), (3, .int (Int32.ofInt v3)), (4, .int (Int32.ofInt v4)), (6, .int (Int32.ofInt v6))] [] (zt_M T σ) (zl_I o) := by
  intro v1 v2 v3 v4 v6 σ T o  h
  unfold F_P_areLegal_164 at h
  refine zt_iconst zy_181 (show q_ins q_k181 164 = some (.iconst 0, 0, 0) from rfl) ?_
  refine zt_istore zy_181 (show q_ins q_k181 165 = some (.istore 8, 0, 0) from rfl) (by decide) ?_
  refine zt_iconst zy_181 (show q_ins q_k181 167 = some (.iconst 0, 0, 0) from rfl) ?_
  refine zt_istore zy_181 (show q_ins q_k181 168 = some (.istore 9, 0, 0) from rfl) (by decide) ?_
  exact zt_wk (zt_cov_cons rfl (zt_cov_cons rfl (zt_cov_cons rfl (zt_cov_cons rfl (zt_cov_cons rfl (zt_cov_cons rfl (zt_cov_cons rfl (zt_cov_cons rfl (zt_cov_nil))))))))) (S_P_areLegal_170  _ _ _ _ _ _ _ _ _ _ _ h)
set_option maxRecDepth 100000 in
theorem S_P_areLegal_162 {X : q_X}   : ∀  (σ : zt_S) (T : zt_T) (o : (Int × zt_S × zt_T)), F_P_areLegal_162   σ T = some o → zt_Ex X 4 181 162 [] [] (zt_M T σ) (zl_I o) := by
  intro  σ T o  h
  unfold F_P_areLegal_162 at h
  refine zt_iconst zy_181 (show q_ins q_k181 162 = some (.iconst 0, 0, 0) from rfl) ?_
  cases h
  exact zt_zret zy_181 (show q_ins q_k181 163 = some (.ireturn, 0, 0) from rfl) (by decide)
set_option maxRecDepth 100000 in
theorem S_P_areLegal_140 {X : q_X}   : ∀ (v1 : Int) (v2 : Int) (v3 : Int) (v4 : Int) (v5 : Int) (v6 : Int) (x0 : Int) (x1 : Int) (σ : zt_S) (T : zt_T) (o : (Int × zt_S × zt_T)), F_P_areLegal_140  v1 v2 v3 v4 v5 v6 x0 x1 σ T = some o → zt_Ex X 4 181 140 [(0, .ref 0), (1, .int (Int32.ofInt v1)), (2, .int (Int32.ofInt v2)), (3, .int (Int32.ofInt v3)), (4, .int (Int32.ofInt v4)), (5, .int (Int32.ofInt v5)), (6, .int (Int32.ofInt v6))] [.int (Int32.ofInt x0), .int (Int32.ofInt x1)] (zt_M T σ) (zl_I o) := by
  intro v1 v2 v3 v4 v5 v6 x0 x1 σ T o  h
  unfold F_P_areLegal_140 at h
  obtain ⟨hg, h⟩ := zt_ckE h
  refine zt_icmp_ne zy_181 (show q_ins q_k181 140 = some (.if_icmp .ne 22, 162, 0) from rfl) (⟨hg.1, hg.2⟩) (fun hc => ?_) (fun hc => ?_)
  · rw [if_pos hc] at h
    refine zt_iload_n zy_181 (show q_ins q_k181 143 = some (.iload_n 3, 0, 0) from rfl) (v := Int32.ofInt v3) rfl ?_
    obtain ⟨hg, h⟩ := zt_ckE h
    refine zt_if_lt zy_181 (show q_ins q_k181 144 = some (.ifCond .lt 20, 164, 0) from rfl) (hg) (fun hc => ?_) (fun hc => ?_)
    · rw [if_pos hc] at h
      exact zt_wk (zt_cov_cons rfl (zt_cov_cons rfl (zt_cov_cons rfl (zt_cov_cons rfl (zt_cov_cons rfl (zt_cov_cons rfl (zt_cov_nil))))))) (S_P_areLegal_164  _ _ _ _ _ _ _ _ h)
    · rw [if_neg hc] at h
      refine zt_aload_n zy_181 (show q_ins q_k181 147 = some (.aload_n 0, 0, 0) from rfl) (v := 0) rfl ?_
      refine zt_aload_n zy_181 (show q_ins q_k181 148 = some (.aload_n 0, 0, 0) from rfl) (v := 0) rfl ?_
      refine zt_iload zy_181 (show q_ins q_k181 149 = some (.iload 5, 0, 0) from rfl) (v := Int32.ofInt v5) rfl ?_
      refine zt_iconst zy_181 (show q_ins q_k181 151 = some (.iconst 0, 0, 0) from rfl) ?_
      obtain ⟨a70, s71, hca70, h⟩ := zt_byE h
      refine zt_callV (d := 3) zy_181 (show q_ins q_k181 152 = some (.invokevirtual 154, 135, 2) from rfl) zy_135 (by decide) ⟨zq_lt (by decide), by decide⟩ rfl (by simp [Value.category]) (by simp [lg_sl, Value.category]) (zt_rcv zc_0) (zt_dm (by decide) (S_C_played hca70)) ?_
      obtain ⟨a72, s73, hca72, h⟩ := zt_byE h
      refine zt_callV (d := 3) zy_181 (show q_ins q_k181 155 = some (.invokevirtual 157, 123, 1) from rfl) zy_123 (by decide) ⟨zq_lt (by decide), by decide⟩ rfl (by simp [Value.category]) (by simp [lg_sl, Value.category]) (zt_rcv zc_0) (zt_dm (by decide) (S_C_suit hca72)) ?_
      refine zt_iload_n zy_181 (show q_ins q_k181 158 = some (.iload_n 3, 0, 0) from rfl) (v := Int32.ofInt v3) rfl ?_
      obtain ⟨hg, h⟩ := zt_ckE h
      refine zt_icmp_eq zy_181 (show q_ins q_k181 159 = some (.if_icmp .eq 5, 164, 0) from rfl) (⟨hg.1, hg.2⟩) (fun hc => ?_) (fun hc => ?_)
      · rw [if_pos hc] at h
        exact zt_wk (zt_cov_cons rfl (zt_cov_cons rfl (zt_cov_cons rfl (zt_cov_cons rfl (zt_cov_cons rfl (zt_cov_cons rfl (zt_cov_nil))))))) (S_P_areLegal_164  _ _ _ _ _ _ _ _ h)
      · rw [if_neg hc] at h
        exact zt_wk (zt_cov_nil) (S_P_areLegal_162  _ _ _ h)
  · rw [if_neg hc] at h
    exact zt_wk (zt_cov_nil) (S_P_areLegal_162  _ _ _ h)
set_option maxRecDepth 100000 in
theorem S_P_areLegal_124 {X : q_X}   : ∀ (v1 : Int) (v2 : Int) (v3 : Int) (v4 : Int) (v5 : Int) (v6 : Int) (x0 : Int) (σ : zt_S) (T : zt_T) (o : (Int × zt_S × zt_T)), F_P_areLegal_124  v1 v2 v3 v4 v5 v6 x0 σ T = some o → zt_Ex X 4 181 124 [(0, .ref 0), (1, .int (Int32.ofInt v1)), (2, .int (Int32.ofInt v2)), (3, .int (Int32.ofInt v3)), (4, .int (Int32.ofInt v4)), (5, .int (Int32.ofInt v5)), (6, .int (Int32.ofInt v6))] [.int (Int32.ofInt x0)] (zt_M T σ) (zl_I o) := by
  intro v1 v2 v3 v4 v5 v6 x0 σ T o  h
  unfold F_P_areLegal_124 at h
  refine zt_iload zy_181 (show q_ins q_k181 124 = some (.iload 5, 0, 0) from rfl) (v := Int32.ofInt v5) rfl ?_
  refine zt_aload_n zy_181 (show q_ins q_k181 126 = some (.aload_n 0, 0, 0) from rfl) (v := 0) rfl ?_
  refine zt_bipush zy_181 (show q_ins q_k181 127 = some (.bipush 12, 0, 0) from rfl) (by decide) ?_
  obtain ⟨a24, s25, hca24, h⟩ := zt_byE h
  refine zt_callV (d := 3) zy_181 (show q_ins q_k181 129 = some (.invokevirtual 86, 122, 1) from rfl) zy_122 (by decide) ⟨zq_lt (by decide), by decide⟩ rfl (by simp [Value.category]) (by simp [lg_sl, Value.category]) (zt_rcv zc_0) (zt_dm (by decide) (S_C_size hca24)) ?_
  obtain ⟨hg, h⟩ := zt_ckE h
  refine zt_icmp_ne zy_181 (show q_ins q_k181 132 = some (.if_icmp .ne 7, 139, 0) from rfl) (⟨hg.1, hg.2⟩) (fun hc => ?_) (fun hc => ?_)
  · rw [if_pos hc] at h
    refine zt_iconst zy_181 (show q_ins q_k181 135 = some (.iconst 1, 0, 0) from rfl) ?_
    refine zt_goto zy_181 (show q_ins q_k181 136 = some (.goto 4, 140, 0) from rfl) ?_
    exact zt_wk (zt_cov_cons rfl (zt_cov_cons rfl (zt_cov_cons rfl (zt_cov_cons rfl (zt_cov_cons rfl (zt_cov_cons rfl (zt_cov_cons rfl (zt_cov_nil)))))))) (S_P_areLegal_140  _ _ _ _ _ _ _ _ _ _ _ h)
  · rw [if_neg hc] at h
    refine zt_iconst zy_181 (show q_ins q_k181 139 = some (.iconst 0, 0, 0) from rfl) ?_
    exact zt_wk (zt_cov_cons rfl (zt_cov_cons rfl (zt_cov_cons rfl (zt_cov_cons rfl (zt_cov_cons rfl (zt_cov_cons rfl (zt_cov_cons rfl (zt_cov_nil)))))))) (S_P_areLegal_140  _ _ _ _ _ _ _ _ _ _ _ h)
set_option maxRecDepth 100000 in
theorem S_P_areLegal_106 {X : q_X}   : ∀ (v1 : Int) (v2 : Int) (v3 : Int) (v4 : Int) (v5 : Int) (v6 : Int) (v7 : Int) (σ : zt_S) (T : zt_T) (o : (Int × zt_S × zt_T)), F_P_areLegal_106  v1 v2 v3 v4 v5 v6 v7 σ T = some o → zt_Ex X 4 181 106 [(0, .ref 0), (1, .int (Int32.ofInt v1)), (2, .int (Int32.ofInt v2)), (3, .int (Int32.ofInt v3)), (4, .int (Int32.ofInt v4)), (5, .int (Int32.ofInt v5)), (6, .int (Int32.ofInt v6)), (7, .int (Int32.ofInt v7))] [] (zt_M T σ) (zl_I o) := by
  intro v1 v2 v3 v4 v5 v6 v7 σ T o  h
  unfold F_P_areLegal_106 at h
  refine zt_aload_n zy_181 (show q_ins q_k181 106 = some (.aload_n 0, 0, 0) from rfl) (v := 0) rfl ?_
  obtain ⟨a22, s23, hca22, h⟩ := zt_bdE h
  refine zt_callV (d := 3) zy_181 (show q_ins q_k181 107 = some (.invokevirtual 170, 133, 0) from rfl) zy_133 (by decide) ⟨zq_lt (by decide), by decide⟩ rfl (by simp [Value.category]) (by simp [lg_sl, Value.category]) (zt_rcv zc_0) (zt_dm (by decide) (S_C_winning hca22)) ?_
  refine zt_iload zy_181 (show q_ins q_k181 110 = some (.iload 7, 0, 0) from rfl) (v := Int32.ofInt v7) rfl ?_
  obtain ⟨hg, h⟩ := zt_ckE h
  refine zt_icmp_ne zy_181 (show q_ins q_k181 112 = some (.if_icmp .ne 50, 162, 0) from rfl) (⟨hg.1, hg.2⟩) (fun hc => ?_) (fun hc => ?_)
  · rw [if_pos hc] at h
    refine zt_iload_n zy_181 (show q_ins q_k181 115 = some (.iload_n 3, 0, 0) from rfl) (v := Int32.ofInt v3) rfl ?_
    obtain ⟨hg, h⟩ := zt_ckE h
    refine zt_if_ge zy_181 (show q_ins q_k181 116 = some (.ifCond .ge 7, 123, 0) from rfl) (hg) (fun hc => ?_) (fun hc => ?_)
    · rw [if_pos hc] at h
      refine zt_iconst zy_181 (show q_ins q_k181 119 = some (.iconst 1, 0, 0) from rfl) ?_
      refine zt_goto zy_181 (show q_ins q_k181 120 = some (.goto 4, 124, 0) from rfl) ?_
      exact zt_wk (zt_cov_cons rfl (zt_cov_cons rfl (zt_cov_cons rfl (zt_cov_cons rfl (zt_cov_cons rfl (zt_cov_cons rfl (zt_cov_cons rfl (zt_cov_nil)))))))) (S_P_areLegal_124  _ _ _ _ _ _ _ _ _ _ h)
    · rw [if_neg hc] at h
      refine zt_iconst zy_181 (show q_ins q_k181 123 = some (.iconst 0, 0, 0) from rfl) ?_
      exact zt_wk (zt_cov_cons rfl (zt_cov_cons rfl (zt_cov_cons rfl (zt_cov_cons rfl (zt_cov_cons rfl (zt_cov_cons rfl (zt_cov_cons rfl (zt_cov_nil)))))))) (S_P_areLegal_124  _ _ _ _ _ _ _ _ _ _ h)
  · rw [if_neg hc] at h
    exact zt_wk (zt_cov_nil) (S_P_areLegal_162  _ _ _ h)
set_option maxRecDepth 100000 in
theorem S_P_areLegal_45 {X : q_X}   : ∀ (n : Nat) (v1 : Int) (v2 : Int) (v3 : Int) (v4 : Int) (v5 : Int) (v6 : Int) (v7 : Int) (v8 : Int) (σ : zt_S) (T : zt_T) (o : (Int × zt_S × zt_T)), F_P_areLegal_45  n v1 v2 v3 v4 v5 v6 v7 v8 σ T = some o → zt_Ex X 4 181 45 [(0, .ref 0), (1, .int (Int32.ofInt v1)), (2, .int (Int32.ofInt v2)), (3, .int (Int32.ofInt v3)), (4, .int (Int32.ofInt v4)), (5, .int (Int32.ofInt v5)), (6, .int (Int32.ofInt v6)), (7, .int (Int32.ofInt v7)), (8, .int (Int32.ofInt v8))] [] (zt_M T σ) (zl_I o) := by
  intro n
  induction n with
  | zero => intro v1 v2 v3 v4 v5 v6 v7 v8 σ T o  h; cases h
  | succ n ih =>
  intro v1 v2 v3 v4 v5 v6 v7 v8 σ T o  h
  rw [F_P_areLegal_45] at h
  refine zt_iload zy_181 (show q_ins q_k181 45 = some (.iload 8, 0, 0) from rfl) (v := Int32.ofInt v8) rfl ?_
  refine zt_aload_n zy_181 (show q_ins q_k181 47 = some (.aload_n 0, 0, 0) from rfl) (v := 0) rfl ?_
  refine zt_bipush zy_181 (show q_ins q_k181 48 = some (.bipush 12, 0, 0) from rfl) (by decide) ?_
  obtain ⟨a11, s12, hca11, h⟩ := zt_byE h
  refine zt_callV (d := 3) zy_181 (show q_ins q_k181 50 = some (.invokevirtual 86, 122, 1) from rfl) zy_122 (by decide) ⟨zq_lt (by decide), by decide⟩ rfl (by simp [Value.category]) (by simp [lg_sl, Value.category]) (zt_rcv zc_0) (zt_dm (by decide) (S_C_size hca11)) ?_
  obtain ⟨hg, h⟩ := zt_ckE h
  refine zt_icmp_ge zy_181 (show q_ins q_k181 53 = some (.if_icmp .ge 53, 106, 0) from rfl) (⟨hg.1, hg.2⟩) (fun hc => ?_) (fun hc => ?_)
  · rw [if_pos hc] at h
    refine zt_aload_n zy_181 (show q_ins q_k181 56 = some (.aload_n 0, 0, 0) from rfl) (v := 0) rfl ?_
    refine zt_aload_n zy_181 (show q_ins q_k181 57 = some (.aload_n 0, 0, 0) from rfl) (v := 0) rfl ?_
    refine zt_iload zy_181 (show q_ins q_k181 58 = some (.iload 8, 0, 0) from rfl) (v := Int32.ofInt v8) rfl ?_
    refine zt_iconst zy_181 (show q_ins q_k181 60 = some (.iconst 0, 0, 0) from rfl) ?_
    obtain ⟨a13, s14, hca13, h⟩ := zt_byE h
    refine zt_callV (d := 3) zy_181 (show q_ins q_k181 61 = some (.invokevirtual 154, 135, 2) from rfl) zy_135 (by decide) ⟨zq_lt (by decide), by decide⟩ rfl (by simp [Value.category]) (by simp [lg_sl, Value.category]) (zt_rcv zc_0) (zt_dm (by decide) (S_C_played hca13)) ?_
    refine zt_iload_n zy_181 (show q_ins q_k181 64 = some (.iload_n 3, 0, 0) from rfl) (v := Int32.ofInt v3) rfl ?_
    refine zt_iload zy_181 (show q_ins q_k181 65 = some (.iload 4, 0, 0) from rfl) (v := Int32.ofInt v4) rfl ?_
    refine zt_aload_n zy_181 (show q_ins q_k181 67 = some (.aload_n 0, 0, 0) from rfl) (v := 0) rfl ?_
    refine zt_iconst zy_181 (show q_ins q_k181 68 = some (.iconst 5, 0, 0) from rfl) ?_
    obtain ⟨a15, s16, hca15, h⟩ := zt_byE h
    refine zt_callV (d := 3) zy_181 (show q_ins q_k181 69 = some (.invokevirtual 86, 122, 1) from rfl) zy_122 (by decide) ⟨zq_lt (by decide), by decide⟩ rfl (by simp [Value.category]) (by simp [lg_sl, Value.category]) (zt_rcv zc_0) (zt_dm (by decide) (S_C_size hca15)) ?_
    obtain ⟨a17, s18, t19, hca17, h⟩ := zt_btE h
    refine zt_callS (d := 3) zy_181 (show q_ins q_k181 72 = some (.invokestatic 166, 180, 5) from rfl) zy_180 (by decide) ⟨zq_lt (by decide), by decide⟩ rfl (by simp [Value.category]) (by simp [lg_sl, Value.category]) rfl (zt_dm (by decide) (S_P_power hca17)) ?_
    refine zt_istore zy_181 (show q_ins q_k181 75 = some (.istore 9, 0, 0) from rfl) (by decide) ?_
    refine zt_iload zy_181 (show q_ins q_k181 77 = some (.iload 9, 0, 0) from rfl) (v := Int32.ofInt a17) rfl ?_
    refine zt_iload zy_181 (show q_ins q_k181 79 = some (.iload 6, 0, 0) from rfl) (v := Int32.ofInt v6) rfl ?_
    obtain ⟨hg, h⟩ := zt_ckE h
    refine zt_icmp_gt zy_181 (show q_ins q_k181 81 = some (.if_icmp .gt 6, 87, 0) from rfl) (⟨hg.1, hg.2⟩) (fun hc => ?_) (fun hc => ?_)
    · rw [if_pos hc] at h
      refine zt_iload zy_181 (show q_ins q_k181 87 = some (.iload 9, 0, 0) from rfl) (v := Int32.ofInt a17) rfl ?_
      refine zt_istore zy_181 (show q_ins q_k181 89 = some (.istore 6, 0, 0) from rfl) (by decide) ?_
      refine zt_aload_n zy_181 (show q_ins q_k181 91 = some (.aload_n 0, 0, 0) from rfl) (v := 0) rfl ?_
      refine zt_iload zy_181 (show q_ins q_k181 92 = some (.iload 8, 0, 0) from rfl) (v := Int32.ofInt v8) rfl ?_
      refine zt_iconst zy_181 (show q_ins q_k181 94 = some (.iconst 1, 0, 0) from rfl) ?_
      obtain ⟨a20, s21, hca20, h⟩ := zt_byE h
      refine zt_callV (d := 3) zy_181 (show q_ins q_k181 95 = some (.invokevirtual 154, 135, 2) from rfl) zy_135 (by decide) ⟨zq_lt (by decide), by decide⟩ rfl (by simp [Value.category]) (by simp [lg_sl, Value.category]) (zt_rcv zc_0) (zt_dm (by decide) (S_C_played hca20)) ?_
      refine zt_istore zy_181 (show q_ins q_k181 98 = some (.istore 7, 0, 0) from rfl) (by decide) ?_
      exact zt_wk (zt_cov_cons rfl (zt_cov_cons rfl (zt_cov_cons rfl (zt_cov_cons rfl (zt_cov_cons rfl (zt_cov_cons rfl (zt_cov_cons rfl (zt_cov_cons rfl (zt_cov_cons rfl (zt_cov_nil)))))))))) (S_P_areLegal_100  ih _ _ _ _ _ _ _ _ _ _ _ h)
    · rw [if_neg hc] at h
      refine zt_goto zy_181 (show q_ins q_k181 84 = some (.goto 16, 100, 0) from rfl) ?_
      exact zt_wk (zt_cov_cons rfl (zt_cov_cons rfl (zt_cov_cons rfl (zt_cov_cons rfl (zt_cov_cons rfl (zt_cov_cons rfl (zt_cov_cons rfl (zt_cov_cons rfl (zt_cov_cons rfl (zt_cov_nil)))))))))) (S_P_areLegal_100  ih _ _ _ _ _ _ _ _ _ _ _ h)
  · rw [if_neg hc] at h
    exact zt_wk (zt_cov_cons rfl (zt_cov_cons rfl (zt_cov_cons rfl (zt_cov_cons rfl (zt_cov_cons rfl (zt_cov_cons rfl (zt_cov_cons rfl (zt_cov_cons rfl (zt_cov_nil))))))))) (S_P_areLegal_106  _ _ _ _ _ _ _ _ _ _ h)
set_option maxRecDepth 100000 in
theorem S_P_areLegal {X : q_X}    {σ : zt_S} {T : zt_T} {o : (Int × zt_S × zt_T)} (h : F_P_areLegal   σ T = some o) : zt_Ex X 4 181 0 (lv_args 0 [.ref 0]) [] (zt_M T σ) (zl_I o) := by
  unfold F_P_areLegal at h
  refine zt_aload_n zy_181 (show q_ins q_k181 0 = some (.aload_n 0, 0, 0) from rfl) (v := 0) rfl ?_
  refine zt_bipush zy_181 (show q_ins q_k181 1 = some (.bipush 9, 0, 0) from rfl) (by decide) ?_
  obtain ⟨a1, s2, hca1, h⟩ := zt_byE h
  refine zt_callV (d := 3) zy_181 (show q_ins q_k181 3 = some (.invokevirtual 86, 122, 1) from rfl) zy_122 (by decide) ⟨zq_lt (by decide), by decide⟩ rfl (by simp [Value.category]) (by simp [lg_sl, Value.category]) (zt_rcv zc_0) (zt_dm (by decide) (S_C_size hca1)) ?_
  refine zt_istore_n zy_181 (show q_ins q_k181 6 = some (.istore_n 1, 0, 0) from rfl) (by decide) ?_
  refine zt_iconst zy_181 (show q_ins q_k181 7 = some (.iconst 0, 0, 0) from rfl) ?_
  refine zt_istore_n zy_181 (show q_ins q_k181 8 = some (.istore_n 2, 0, 0) from rfl) (by decide) ?_
  refine zt_aload_n zy_181 (show q_ins q_k181 9 = some (.aload_n 0, 0, 0) from rfl) (v := 0) rfl ?_
  obtain ⟨a3, s4, hca3, h⟩ := zt_bdE h
  refine zt_callV (d := 3) zy_181 (show q_ins q_k181 10 = some (.invokevirtual 163, 132, 0) from rfl) zy_132 (by decide) ⟨zq_lt (by decide), by decide⟩ rfl (by simp [Value.category]) (by simp [lg_sl, Value.category]) (zt_rcv zc_0) (zt_dm (by decide) (S_C_led hca3)) ?_
  refine zt_istore_n zy_181 (show q_ins q_k181 13 = some (.istore_n 3, 0, 0) from rfl) (by decide) ?_
  refine zt_aload_n zy_181 (show q_ins q_k181 14 = some (.aload_n 0, 0, 0) from rfl) (v := 0) rfl ?_
  refine zt_iconst zy_181 (show q_ins q_k181 15 = some (.iconst 4, 0, 0) from rfl) ?_
  obtain ⟨a5, s6, hca5, h⟩ := zt_byE h
  refine zt_callV (d := 3) zy_181 (show q_ins q_k181 16 = some (.invokevirtual 86, 122, 1) from rfl) zy_122 (by decide) ⟨zq_lt (by decide), by decide⟩ rfl (by simp [Value.category]) (by simp [lg_sl, Value.category]) (zt_rcv zc_0) (zt_dm (by decide) (S_C_size hca5)) ?_
  refine zt_istore zy_181 (show q_ins q_k181 19 = some (.istore 4, 0, 0) from rfl) (by decide) ?_
  refine zt_aload_n zy_181 (show q_ins q_k181 21 = some (.aload_n 0, 0, 0) from rfl) (v := 0) rfl ?_
  refine zt_bipush zy_181 (show q_ins q_k181 22 = some (.bipush 11, 0, 0) from rfl) (by decide) ?_
  obtain ⟨a7, s8, hca7, h⟩ := zt_byE h
  refine zt_callV (d := 3) zy_181 (show q_ins q_k181 24 = some (.invokevirtual 86, 122, 1) from rfl) zy_122 (by decide) ⟨zq_lt (by decide), by decide⟩ rfl (by simp [Value.category]) (by simp [lg_sl, Value.category]) (zt_rcv zc_0) (zt_dm (by decide) (S_C_size hca7)) ?_
  refine zt_aload_n zy_181 (show q_ins q_k181 27 = some (.aload_n 0, 0, 0) from rfl) (v := 0) rfl ?_
  refine zt_iconst zy_181 (show q_ins q_k181 28 = some (.iconst 1, 0, 0) from rfl) ?_
  obtain ⟨a9, s10, hca9, h⟩ := zt_byE h
  refine zt_callV (d := 3) zy_181 (show q_ins q_k181 29 = some (.invokevirtual 86, 122, 1) from rfl) zy_122 (by decide) ⟨zq_lt (by decide), by decide⟩ rfl (by simp [Value.category]) (by simp [lg_sl, Value.category]) (zt_rcv zc_0) (zt_dm (by decide) (S_C_size hca9)) ?_
  refine zt_imul zy_181 (show q_ins q_k181 32 = some (.imul, 0, 0) from rfl) ?_
  refine zt_istore zy_181 (show q_ins q_k181 33 = some (.istore 5, 0, 0) from rfl) (by decide) ?_
  refine zt_iconst zy_181 (show q_ins q_k181 35 = some (.iconst (-1), 0, 0) from rfl) ?_
  refine zt_istore zy_181 (show q_ins q_k181 36 = some (.istore 6, 0, 0) from rfl) (by decide) ?_
  refine zt_iconst zy_181 (show q_ins q_k181 38 = some (.iconst (-1), 0, 0) from rfl) ?_
  refine zt_istore zy_181 (show q_ins q_k181 39 = some (.istore 7, 0, 0) from rfl) (by decide) ?_
  refine zt_iload zy_181 (show q_ins q_k181 41 = some (.iload 5, 0, 0) from rfl) (v := Int32.ofInt (a7 * a9)) rfl ?_
  refine zt_istore zy_181 (show q_ins q_k181 43 = some (.istore 8, 0, 0) from rfl) (by decide) ?_
  exact zt_wk (zt_cov_cons rfl (zt_cov_cons rfl (zt_cov_cons rfl (zt_cov_cons rfl (zt_cov_cons rfl (zt_cov_cons rfl (zt_cov_cons rfl (zt_cov_cons rfl (zt_cov_cons rfl (zt_cov_nil)))))))))) (S_P_areLegal_45  _ _ _ _ _ _ _ _ _ _ _ _ h)
set_option maxRecDepth 100000 in
theorem S_P_areTricks_166 {X : q_X}   {r12 : Int → Nat → Int → zt_S → zt_T → Option (Int × zt_S × zt_T)} (hr12 : ∀ (v1 : Int) (v2 : Nat) (v3 : Int) (σ : zt_S) (T : zt_T) (o : (Int × zt_S × zt_T)), r12 v1 v2 v3 σ T = some o → zt_Ex X 4 182 12 [(0, .ref 0), (1, .int (Int32.ofInt v1)), (2, .ref (163 + v2)), (3, .int (Int32.ofInt v3))] [] (zt_M T σ) (zl_I o)) {r72 : Int → Nat → Int → Int → Int → Int → zt_S → zt_T → Option (Int × zt_S × zt_T)} (hr72 : ∀ (v1 : Int) (v2 : Nat) (v3 : Int) (v4 : Int) (v5 : Int) (v6 : Int) (σ : zt_S) (T : zt_T) (o : (Int × zt_S × zt_T)), r72 v1 v2 v3 v4 v5 v6 σ T = some o → zt_Ex X 4 182 72 [(0, .ref 0), (1, .int (Int32.ofInt v1)), (2, .ref (163 + v2)), (3, .int (Int32.ofInt v3)), (4, .int (Int32.ofInt v4)), (5, .int (Int32.ofInt v5)), (6, .int (Int32.ofInt v6))] [] (zt_M T σ) (zl_I o)) : ∀ (v1 : Int) (v2 : Nat) (v3 : Int) (v4 : Int) (v5 : Int) (v6 : Int) (σ : zt_S) (T : zt_T) (o : (Int × zt_S × zt_T)), F_P_areTricks_166  r12 r72 v1 v2 v3 v4 v5 v6 σ T = some o → zt_Ex X 4 182 166 [(0, .ref 0), (1, .int (Int32.ofInt v1)), (2, .ref (163 + v2)), (3, .int (Int32.ofInt v3)), (4, .int (Int32.ofInt v4)), (5, .int (Int32.ofInt v5)), (6, .int (Int32.ofInt v6))] [] (zt_M T σ) (zl_I o) := by
  intro v1 v2 v3 v4 v5 v6 σ T o  h
  unfold F_P_areTricks_166 at h
  refine zt_iinc zy_182 (show q_ins q_k182 166 = some (.iinc 6 1, 0, 0) from rfl) (v := v6) (by decide) rfl ?_
  refine zt_goto zy_182 (show q_ins q_k182 169 = some (.goto (-97), 72, 0) from rfl) ?_
  exact zt_wk (zt_cov_cons rfl (zt_cov_cons rfl (zt_cov_cons rfl (zt_cov_cons rfl (zt_cov_cons rfl (zt_cov_cons rfl (zt_cov_cons rfl (zt_cov_nil)))))))) (hr72 _ _ _ _ _ _ _ _ _ h)
set_option maxRecDepth 100000 in
theorem S_P_areTricks_264 {X : q_X}   {r12 : Int → Nat → Int → zt_S → zt_T → Option (Int × zt_S × zt_T)} (hr12 : ∀ (v1 : Int) (v2 : Nat) (v3 : Int) (σ : zt_S) (T : zt_T) (o : (Int × zt_S × zt_T)), r12 v1 v2 v3 σ T = some o → zt_Ex X 4 182 12 [(0, .ref 0), (1, .int (Int32.ofInt v1)), (2, .ref (163 + v2)), (3, .int (Int32.ofInt v3))] [] (zt_M T σ) (zl_I o)) : ∀ (v1 : Int) (v2 : Nat) (v3 : Int) (σ : zt_S) (T : zt_T) (o : (Int × zt_S × zt_T)), F_P_areTricks_264  r12 v1 v2 v3 σ T = some o → zt_Ex X 4 182 264 [(0, .ref 0), (1, .int (Int32.ofInt v1)), (2, .ref (163 + v2)), (3, .int (Int32.ofInt v3))] [] (zt_M T σ) (zl_I o) := by
  intro v1 v2 v3 σ T o  h
  unfold F_P_areTricks_264 at h
  refine zt_aload_n zy_182 (show q_ins q_k182 264 = some (.aload_n 2, 0, 0) from rfl) (v := (163 + v2)) rfl ?_
  refine zt_aload_n zy_182 (show q_ins q_k182 265 = some (.aload_n 0, 0, 0) from rfl) (v := 0) rfl ?_
  refine zt_iload_n zy_182 (show q_ins q_k182 266 = some (.iload_n 3, 0, 0) from rfl) (v := Int32.ofInt v3) rfl ?_
  refine zt_iconst zy_182 (show q_ins q_k182 267 = some (.iconst 1, 0, 0) from rfl) ?_
  obtain ⟨a59, s60, hca59, h⟩ := zt_byE h
  refine zt_callV (d := 3) zy_182 (show q_ins q_k182 268 = some (.invokevirtual 188, 136, 2) from rfl) zy_136 (by decide) ⟨zq_lt (by decide), by decide⟩ rfl (by simp [Value.category]) (by simp [lg_sl, Value.category]) (zt_rcv zc_0) (zt_dm (by decide) (S_C_trick hca59)) ?_
  refine zt_dup2 zy_182 (show q_ins q_k182 271 = some (.dup2, 0, 0) from rfl) ⟨rfl, rfl⟩ ?_
  obtain ⟨hg, h⟩ := zt_ckE h
  refine zt_tld zy_182 (show q_ins q_k182 272 = some (.iaload, 0, 0) from rfl) hg ?_
  refine zt_iconst zy_182 (show q_ins q_k182 273 = some (.iconst 1, 0, 0) from rfl) ?_
  refine zt_iadd zy_182 (show q_ins q_k182 274 = some (.iadd, 0, 0) from rfl) ?_
  obtain ⟨hg, h⟩ := zt_ckE h
  obtain ⟨t61, ht61, h⟩ := zt_letE h
  refine zt_tst zy_182 (show q_ins q_k182 275 = some (.iastore, 0, 0) from rfl) hg ?_
  rw [← ht61]
  refine zt_iinc zy_182 (show q_ins q_k182 276 = some (.iinc 3 1, 0, 0) from rfl) (v := v3) (by decide) rfl ?_
  refine zt_goto zy_182 (show q_ins q_k182 279 = some (.goto (-267), 12, 0) from rfl) ?_
  exact zt_wk (zt_cov_cons rfl (zt_cov_cons rfl (zt_cov_cons rfl (zt_cov_cons rfl (zt_cov_nil))))) (hr12 _ _ _ _ _ _ h)
set_option maxRecDepth 100000 in
theorem S_P_areTricks_262 {X : q_X}   : ∀  (σ : zt_S) (T : zt_T) (o : (Int × zt_S × zt_T)), F_P_areTricks_262   σ T = some o → zt_Ex X 4 182 262 [] [] (zt_M T σ) (zl_I o) := by
  intro  σ T o  h
  unfold F_P_areTricks_262 at h
  refine zt_iconst zy_182 (show q_ins q_k182 262 = some (.iconst 0, 0, 0) from rfl) ?_
  cases h
  exact zt_zret zy_182 (show q_ins q_k182 263 = some (.ireturn, 0, 0) from rfl) (by decide)
set_option maxRecDepth 100000 in
theorem S_P_areTricks_235 {X : q_X}   {r12 : Int → Nat → Int → zt_S → zt_T → Option (Int × zt_S × zt_T)} (hr12 : ∀ (v1 : Int) (v2 : Nat) (v3 : Int) (σ : zt_S) (T : zt_T) (o : (Int × zt_S × zt_T)), r12 v1 v2 v3 σ T = some o → zt_Ex X 4 182 12 [(0, .ref 0), (1, .int (Int32.ofInt v1)), (2, .ref (163 + v2)), (3, .int (Int32.ofInt v3))] [] (zt_M T σ) (zl_I o)) : ∀ (v1 : Int) (v2 : Nat) (v3 : Int) (σ : zt_S) (T : zt_T) (o : (Int × zt_S × zt_T)), F_P_areTricks_235  r12 v1 v2 v3 σ T = some o → zt_Ex X 4 182 235 [(0, .ref 0), (1, .int (Int32.ofInt v1)), (2, .ref (163 + v2)), (3, .int (Int32.ofInt v3))] [] (zt_M T σ) (zl_I o) := by
  intro v1 v2 v3 σ T o  h
  unfold F_P_areTricks_235 at h
  refine zt_iload_n zy_182 (show q_ins q_k182 235 = some (.iload_n 3, 0, 0) from rfl) (v := Int32.ofInt v3) rfl ?_
  refine zt_iconst zy_182 (show q_ins q_k182 236 = some (.iconst 1, 0, 0) from rfl) ?_
  refine zt_iadd zy_182 (show q_ins q_k182 237 = some (.iadd, 0, 0) from rfl) ?_
  refine zt_aload_n zy_182 (show q_ins q_k182 238 = some (.aload_n 0, 0, 0) from rfl) (v := 0) rfl ?_
  refine zt_bipush zy_182 (show q_ins q_k182 239 = some (.bipush 11, 0, 0) from rfl) (by decide) ?_
  obtain ⟨a53, s54, hca53, h⟩ := zt_byE h
  refine zt_callV (d := 3) zy_182 (show q_ins q_k182 241 = some (.invokevirtual 86, 122, 1) from rfl) zy_122 (by decide) ⟨zq_lt (by decide), by decide⟩ rfl (by simp [Value.category]) (by simp [lg_sl, Value.category]) (zt_rcv zc_0) (zt_dm (by decide) (S_C_size hca53)) ?_
  obtain ⟨hg, h⟩ := zt_ckE h
  refine zt_icmp_ne zy_182 (show q_ins q_k182 244 = some (.if_icmp .ne 20, 264, 0) from rfl) (⟨hg.1, hg.2⟩) (fun hc => ?_) (fun hc => ?_)
  · rw [if_pos hc] at h
    refine zt_aload_n zy_182 (show q_ins q_k182 247 = some (.aload_n 0, 0, 0) from rfl) (v := 0) rfl ?_
    refine zt_bipush zy_182 (show q_ins q_k182 248 = some (.bipush 10, 0, 0) from rfl) (by decide) ?_
    obtain ⟨a55, s56, hca55, h⟩ := zt_byE h
    refine zt_callV (d := 3) zy_182 (show q_ins q_k182 250 = some (.invokevirtual 86, 122, 1) from rfl) zy_122 (by decide) ⟨zq_lt (by decide), by decide⟩ rfl (by simp [Value.category]) (by simp [lg_sl, Value.category]) (zt_rcv zc_0) (zt_dm (by decide) (S_C_size hca55)) ?_
    refine zt_aload_n zy_182 (show q_ins q_k182 253 = some (.aload_n 0, 0, 0) from rfl) (v := 0) rfl ?_
    refine zt_iload_n zy_182 (show q_ins q_k182 254 = some (.iload_n 3, 0, 0) from rfl) (v := Int32.ofInt v3) rfl ?_
    refine zt_iconst zy_182 (show q_ins q_k182 255 = some (.iconst 1, 0, 0) from rfl) ?_
    obtain ⟨a57, s58, hca57, h⟩ := zt_byE h
    refine zt_callV (d := 3) zy_182 (show q_ins q_k182 256 = some (.invokevirtual 188, 136, 2) from rfl) zy_136 (by decide) ⟨zq_lt (by decide), by decide⟩ rfl (by simp [Value.category]) (by simp [lg_sl, Value.category]) (zt_rcv zc_0) (zt_dm (by decide) (S_C_trick hca57)) ?_
    obtain ⟨hg, h⟩ := zt_ckE h
    refine zt_icmp_eq zy_182 (show q_ins q_k182 259 = some (.if_icmp .eq 5, 264, 0) from rfl) (⟨hg.1, hg.2⟩) (fun hc => ?_) (fun hc => ?_)
    · rw [if_pos hc] at h
      exact zt_wk (zt_cov_cons rfl (zt_cov_cons rfl (zt_cov_cons rfl (zt_cov_cons rfl (zt_cov_nil))))) (S_P_areTricks_264  hr12 _ _ _ _ _ _ h)
    · rw [if_neg hc] at h
      exact zt_wk (zt_cov_nil) (S_P_areTricks_262  _ _ _ h)
  · rw [if_neg hc] at h
    exact zt_wk (zt_cov_cons rfl (zt_cov_cons rfl (zt_cov_cons rfl (zt_cov_cons rfl (zt_cov_nil))))) (S_P_areTricks_264  hr12 _ _ _ _ _ _ h)
set_option maxRecDepth 100000 in
theorem S_P_areTricks_204 {X : q_X}   : ∀  (σ : zt_S) (T : zt_T) (o : (Int × zt_S × zt_T)), F_P_areTricks_204   σ T = some o → zt_Ex X 4 182 204 [] [] (zt_M T σ) (zl_I o) := by
  intro  σ T o  h
  unfold F_P_areTricks_204 at h
  refine zt_iconst zy_182 (show q_ins q_k182 204 = some (.iconst 0, 0, 0) from rfl) ?_
  cases h
  exact zt_zret zy_182 (show q_ins q_k182 205 = some (.ireturn, 0, 0) from rfl) (by decide)
set_option maxRecDepth 100000 in
theorem S_P_areTricks_172 {X : q_X}   {r12 : Int → Nat → Int → zt_S → zt_T → Option (Int × zt_S × zt_T)} (hr12 : ∀ (v1 : Int) (v2 : Nat) (v3 : Int) (σ : zt_S) (T : zt_T) (o : (Int × zt_S × zt_T)), r12 v1 v2 v3 σ T = some o → zt_Ex X 4 182 12 [(0, .ref 0), (1, .int (Int32.ofInt v1)), (2, .ref (163 + v2)), (3, .int (Int32.ofInt v3))] [] (zt_M T σ) (zl_I o)) : ∀ (v1 : Int) (v2 : Nat) (v3 : Int) (v5 : Int) (σ : zt_S) (T : zt_T) (o : (Int × zt_S × zt_T)), F_P_areTricks_172  r12 v1 v2 v3 v5 σ T = some o → zt_Ex X 4 182 172 [(0, .ref 0), (1, .int (Int32.ofInt v1)), (2, .ref (163 + v2)), (3, .int (Int32.ofInt v3)), (5, .int (Int32.ofInt v5))] [] (zt_M T σ) (zl_I o) := by
  intro v1 v2 v3 v5 σ T o  h
  unfold F_P_areTricks_172 at h
  refine zt_aload_n zy_182 (show q_ins q_k182 172 = some (.aload_n 0, 0, 0) from rfl) (v := 0) rfl ?_
  refine zt_iload_n zy_182 (show q_ins q_k182 173 = some (.iload_n 3, 0, 0) from rfl) (v := Int32.ofInt v3) rfl ?_
  refine zt_iconst zy_182 (show q_ins q_k182 174 = some (.iconst 1, 0, 0) from rfl) ?_
  obtain ⟨a39, s40, hca39, h⟩ := zt_byE h
  refine zt_callV (d := 3) zy_182 (show q_ins q_k182 175 = some (.invokevirtual 188, 136, 2) from rfl) zy_136 (by decide) ⟨zq_lt (by decide), by decide⟩ rfl (by simp [Value.category]) (by simp [lg_sl, Value.category]) (zt_rcv zc_0) (zt_dm (by decide) (S_C_trick hca39)) ?_
  refine zt_aload_n zy_182 (show q_ins q_k182 178 = some (.aload_n 0, 0, 0) from rfl) (v := 0) rfl ?_
  refine zt_iload zy_182 (show q_ins q_k182 179 = some (.iload 5, 0, 0) from rfl) (v := Int32.ofInt v5) rfl ?_
  refine zt_iconst zy_182 (show q_ins q_k182 181 = some (.iconst 1, 0, 0) from rfl) ?_
  obtain ⟨a41, s42, hca41, h⟩ := zt_byE h
  refine zt_callV (d := 3) zy_182 (show q_ins q_k182 182 = some (.invokevirtual 154, 135, 2) from rfl) zy_135 (by decide) ⟨zq_lt (by decide), by decide⟩ rfl (by simp [Value.category]) (by simp [lg_sl, Value.category]) (zt_rcv zc_0) (zt_dm (by decide) (S_C_played hca41)) ?_
  obtain ⟨hg, h⟩ := zt_ckE h
  refine zt_icmp_ne zy_182 (show q_ins q_k182 185 = some (.if_icmp .ne 19, 204, 0) from rfl) (⟨hg.1, hg.2⟩) (fun hc => ?_) (fun hc => ?_)
  · rw [if_pos hc] at h
    refine zt_aload_n zy_182 (show q_ins q_k182 188 = some (.aload_n 0, 0, 0) from rfl) (v := 0) rfl ?_
    refine zt_iload_n zy_182 (show q_ins q_k182 189 = some (.iload_n 3, 0, 0) from rfl) (v := Int32.ofInt v3) rfl ?_
    refine zt_iconst zy_182 (show q_ins q_k182 190 = some (.iconst 2, 0, 0) from rfl) ?_
    obtain ⟨a43, s44, hca43, h⟩ := zt_byE h
    refine zt_callV (d := 3) zy_182 (show q_ins q_k182 191 = some (.invokevirtual 188, 136, 2) from rfl) zy_136 (by decide) ⟨zq_lt (by decide), by decide⟩ rfl (by simp [Value.category]) (by simp [lg_sl, Value.category]) (zt_rcv zc_0) (zt_dm (by decide) (S_C_trick hca43)) ?_
    refine zt_aload_n zy_182 (show q_ins q_k182 194 = some (.aload_n 0, 0, 0) from rfl) (v := 0) rfl ?_
    refine zt_iload zy_182 (show q_ins q_k182 195 = some (.iload 5, 0, 0) from rfl) (v := Int32.ofInt v5) rfl ?_
    refine zt_iconst zy_182 (show q_ins q_k182 197 = some (.iconst 0, 0, 0) from rfl) ?_
    obtain ⟨a45, s46, hca45, h⟩ := zt_byE h
    refine zt_callV (d := 3) zy_182 (show q_ins q_k182 198 = some (.invokevirtual 154, 135, 2) from rfl) zy_135 (by decide) ⟨zq_lt (by decide), by decide⟩ rfl (by simp [Value.category]) (by simp [lg_sl, Value.category]) (zt_rcv zc_0) (zt_dm (by decide) (S_C_played hca45)) ?_
    obtain ⟨hg, h⟩ := zt_ckE h
    refine zt_icmp_eq zy_182 (show q_ins q_k182 201 = some (.if_icmp .eq 5, 206, 0) from rfl) (⟨hg.1, hg.2⟩) (fun hc => ?_) (fun hc => ?_)
    · rw [if_pos hc] at h
      refine zt_iload_n zy_182 (show q_ins q_k182 206 = some (.iload_n 3, 0, 0) from rfl) (v := Int32.ofInt v3) rfl ?_
      refine zt_iconst zy_182 (show q_ins q_k182 207 = some (.iconst 1, 0, 0) from rfl) ?_
      refine zt_iadd zy_182 (show q_ins q_k182 208 = some (.iadd, 0, 0) from rfl) ?_
      refine zt_aload_n zy_182 (show q_ins q_k182 209 = some (.aload_n 0, 0, 0) from rfl) (v := 0) rfl ?_
      refine zt_bipush zy_182 (show q_ins q_k182 210 = some (.bipush 11, 0, 0) from rfl) (by decide) ?_
      obtain ⟨a47, s48, hca47, h⟩ := zt_byE h
      refine zt_callV (d := 3) zy_182 (show q_ins q_k182 212 = some (.invokevirtual 86, 122, 1) from rfl) zy_122 (by decide) ⟨zq_lt (by decide), by decide⟩ rfl (by simp [Value.category]) (by simp [lg_sl, Value.category]) (zt_rcv zc_0) (zt_dm (by decide) (S_C_size hca47)) ?_
      obtain ⟨hg, h⟩ := zt_ckE h
      refine zt_icmp_ge zy_182 (show q_ins q_k182 215 = some (.if_icmp .ge 20, 235, 0) from rfl) (⟨hg.1, hg.2⟩) (fun hc => ?_) (fun hc => ?_)
      · rw [if_pos hc] at h
        refine zt_aload_n zy_182 (show q_ins q_k182 218 = some (.aload_n 0, 0, 0) from rfl) (v := 0) rfl ?_
        refine zt_iload_n zy_182 (show q_ins q_k182 219 = some (.iload_n 3, 0, 0) from rfl) (v := Int32.ofInt v3) rfl ?_
        refine zt_iconst zy_182 (show q_ins q_k182 220 = some (.iconst 1, 0, 0) from rfl) ?_
        refine zt_iadd zy_182 (show q_ins q_k182 221 = some (.iadd, 0, 0) from rfl) ?_
        refine zt_iconst zy_182 (show q_ins q_k182 222 = some (.iconst 0, 0, 0) from rfl) ?_
        obtain ⟨a49, s50, hca49, h⟩ := zt_byE h
        refine zt_callV (d := 3) zy_182 (show q_ins q_k182 223 = some (.invokevirtual 188, 136, 2) from rfl) zy_136 (by decide) ⟨zq_lt (by decide), by decide⟩ rfl (by simp [Value.category]) (by simp [lg_sl, Value.category]) (zt_rcv zc_0) (zt_dm (by decide) (S_C_trick hca49)) ?_
        refine zt_aload_n zy_182 (show q_ins q_k182 226 = some (.aload_n 0, 0, 0) from rfl) (v := 0) rfl ?_
        refine zt_iload_n zy_182 (show q_ins q_k182 227 = some (.iload_n 3, 0, 0) from rfl) (v := Int32.ofInt v3) rfl ?_
        refine zt_iconst zy_182 (show q_ins q_k182 228 = some (.iconst 1, 0, 0) from rfl) ?_
        obtain ⟨a51, s52, hca51, h⟩ := zt_byE h
        refine zt_callV (d := 3) zy_182 (show q_ins q_k182 229 = some (.invokevirtual 188, 136, 2) from rfl) zy_136 (by decide) ⟨zq_lt (by decide), by decide⟩ rfl (by simp [Value.category]) (by simp [lg_sl, Value.category]) (zt_rcv zc_0) (zt_dm (by decide) (S_C_trick hca51)) ?_
        obtain ⟨hg, h⟩ := zt_ckE h
        refine zt_icmp_ne zy_182 (show q_ins q_k182 232 = some (.if_icmp .ne 30, 262, 0) from rfl) (⟨hg.1, hg.2⟩) (fun hc => ?_) (fun hc => ?_)
        · rw [if_pos hc] at h
          exact zt_wk (zt_cov_cons rfl (zt_cov_cons rfl (zt_cov_cons rfl (zt_cov_cons rfl (zt_cov_nil))))) (S_P_areTricks_235  hr12 _ _ _ _ _ _ h)
        · rw [if_neg hc] at h
          exact zt_wk (zt_cov_nil) (S_P_areTricks_262  _ _ _ h)
      · rw [if_neg hc] at h
        exact zt_wk (zt_cov_cons rfl (zt_cov_cons rfl (zt_cov_cons rfl (zt_cov_cons rfl (zt_cov_nil))))) (S_P_areTricks_235  hr12 _ _ _ _ _ _ h)
    · rw [if_neg hc] at h
      exact zt_wk (zt_cov_nil) (S_P_areTricks_204  _ _ _ h)
  · rw [if_neg hc] at h
    exact zt_wk (zt_cov_nil) (S_P_areTricks_204  _ _ _ h)
set_option maxRecDepth 100000 in
theorem S_P_areTricks_72 {X : q_X}   {r12 : Int → Nat → Int → zt_S → zt_T → Option (Int × zt_S × zt_T)} (hr12 : ∀ (v1 : Int) (v2 : Nat) (v3 : Int) (σ : zt_S) (T : zt_T) (o : (Int × zt_S × zt_T)), r12 v1 v2 v3 σ T = some o → zt_Ex X 4 182 12 [(0, .ref 0), (1, .int (Int32.ofInt v1)), (2, .ref (163 + v2)), (3, .int (Int32.ofInt v3))] [] (zt_M T σ) (zl_I o)) : ∀ (n : Nat) (v1 : Int) (v2 : Nat) (v3 : Int) (v4 : Int) (v5 : Int) (v6 : Int) (σ : zt_S) (T : zt_T) (o : (Int × zt_S × zt_T)), F_P_areTricks_72  r12 n v1 v2 v3 v4 v5 v6 σ T = some o → zt_Ex X 4 182 72 [(0, .ref 0), (1, .int (Int32.ofInt v1)), (2, .ref (163 + v2)), (3, .int (Int32.ofInt v3)), (4, .int (Int32.ofInt v4)), (5, .int (Int32.ofInt v5)), (6, .int (Int32.ofInt v6))] [] (zt_M T σ) (zl_I o) := by
  intro n
  induction n with
  | zero => intro v1 v2 v3 v4 v5 v6 σ T o  h; cases h
  | succ n ih =>
  intro v1 v2 v3 v4 v5 v6 σ T o  h
  rw [F_P_areTricks_72] at h
  refine zt_iload zy_182 (show q_ins q_k182 72 = some (.iload 6, 0, 0) from rfl) (v := Int32.ofInt v6) rfl ?_
  refine zt_iload_n zy_182 (show q_ins q_k182 74 = some (.iload_n 1, 0, 0) from rfl) (v := Int32.ofInt v1) rfl ?_
  obtain ⟨hg, h⟩ := zt_ckE h
  refine zt_icmp_ge zy_182 (show q_ins q_k182 75 = some (.if_icmp .ge 97, 172, 0) from rfl) (⟨hg.1, hg.2⟩) (fun hc => ?_) (fun hc => ?_)
  · rw [if_pos hc] at h
    refine zt_iload_n zy_182 (show q_ins q_k182 78 = some (.iload_n 3, 0, 0) from rfl) (v := Int32.ofInt v3) rfl ?_
    refine zt_iload_n zy_182 (show q_ins q_k182 79 = some (.iload_n 1, 0, 0) from rfl) (v := Int32.ofInt v1) rfl ?_
    refine zt_imul zy_182 (show q_ins q_k182 80 = some (.imul, 0, 0) from rfl) ?_
    refine zt_iload zy_182 (show q_ins q_k182 81 = some (.iload 6, 0, 0) from rfl) (v := Int32.ofInt v6) rfl ?_
    refine zt_iadd zy_182 (show q_ins q_k182 83 = some (.iadd, 0, 0) from rfl) ?_
    refine zt_istore zy_182 (show q_ins q_k182 84 = some (.istore 7, 0, 0) from rfl) (by decide) ?_
    refine zt_aload_n zy_182 (show q_ins q_k182 86 = some (.aload_n 0, 0, 0) from rfl) (v := 0) rfl ?_
    refine zt_iload zy_182 (show q_ins q_k182 87 = some (.iload 7, 0, 0) from rfl) (v := Int32.ofInt ((v3 * v1) + v6)) rfl ?_
    refine zt_iconst zy_182 (show q_ins q_k182 89 = some (.iconst 1, 0, 0) from rfl) ?_
    obtain ⟨a17, s18, hca17, h⟩ := zt_byE h
    refine zt_callV (d := 3) zy_182 (show q_ins q_k182 90 = some (.invokevirtual 154, 135, 2) from rfl) zy_135 (by decide) ⟨zq_lt (by decide), by decide⟩ rfl (by simp [Value.category]) (by simp [lg_sl, Value.category]) (zt_rcv zc_0) (zt_dm (by decide) (S_C_played hca17)) ?_
    refine zt_aload_n zy_182 (show q_ins q_k182 93 = some (.aload_n 0, 0, 0) from rfl) (v := 0) rfl ?_
    refine zt_iload_n zy_182 (show q_ins q_k182 94 = some (.iload_n 3, 0, 0) from rfl) (v := Int32.ofInt v3) rfl ?_
    refine zt_iconst zy_182 (show q_ins q_k182 95 = some (.iconst 0, 0, 0) from rfl) ?_
    obtain ⟨a19, s20, hca19, h⟩ := zt_byE h
    refine zt_callV (d := 3) zy_182 (show q_ins q_k182 96 = some (.invokevirtual 188, 136, 2) from rfl) zy_136 (by decide) ⟨zq_lt (by decide), by decide⟩ rfl (by simp [Value.category]) (by simp [lg_sl, Value.category]) (zt_rcv zc_0) (zt_dm (by decide) (S_C_trick hca19)) ?_
    refine zt_iload zy_182 (show q_ins q_k182 99 = some (.iload 6, 0, 0) from rfl) (v := Int32.ofInt v6) rfl ?_
    refine zt_iadd zy_182 (show q_ins q_k182 101 = some (.iadd, 0, 0) from rfl) ?_
    refine zt_iload_n zy_182 (show q_ins q_k182 102 = some (.iload_n 1, 0, 0) from rfl) (v := Int32.ofInt v1) rfl ?_
    obtain ⟨hg, h⟩ := zt_ckE h
    refine zt_irem zy_182 (show q_ins q_k182 103 = some (.irem, 0, 0) from rfl) hg.1 hg.2 ?_
    obtain ⟨hg, h⟩ := zt_ckE h
    refine zt_icmp_eq zy_182 (show q_ins q_k182 104 = some (.if_icmp .eq 5, 109, 0) from rfl) (⟨hg.1, hg.2⟩) (fun hc => ?_) (fun hc => ?_)
    · rw [if_pos hc] at h
      refine zt_aload_n zy_182 (show q_ins q_k182 109 = some (.aload_n 0, 0, 0) from rfl) (v := 0) rfl ?_
      refine zt_aload_n zy_182 (show q_ins q_k182 110 = some (.aload_n 0, 0, 0) from rfl) (v := 0) rfl ?_
      refine zt_iload zy_182 (show q_ins q_k182 111 = some (.iload 7, 0, 0) from rfl) (v := Int32.ofInt ((v3 * v1) + v6)) rfl ?_
      refine zt_iconst zy_182 (show q_ins q_k182 113 = some (.iconst 0, 0, 0) from rfl) ?_
      obtain ⟨a21, s22, hca21, h⟩ := zt_byE h
      refine zt_callV (d := 3) zy_182 (show q_ins q_k182 114 = some (.invokevirtual 154, 135, 2) from rfl) zy_135 (by decide) ⟨zq_lt (by decide), by decide⟩ rfl (by simp [Value.category]) (by simp [lg_sl, Value.category]) (zt_rcv zc_0) (zt_dm (by decide) (S_C_played hca21)) ?_
      refine zt_iload zy_182 (show q_ins q_k182 117 = some (.iload 4, 0, 0) from rfl) (v := Int32.ofInt v4) rfl ?_
      refine zt_aload_n zy_182 (show q_ins q_k182 119 = some (.aload_n 0, 0, 0) from rfl) (v := 0) rfl ?_
      refine zt_iload_n zy_182 (show q_ins q_k182 120 = some (.iload_n 3, 0, 0) from rfl) (v := Int32.ofInt v3) rfl ?_
      refine zt_iconst zy_182 (show q_ins q_k182 121 = some (.iconst 4, 0, 0) from rfl) ?_
      obtain ⟨a23, s24, hca23, h⟩ := zt_byE h
      refine zt_callV (d := 3) zy_182 (show q_ins q_k182 122 = some (.invokevirtual 188, 136, 2) from rfl) zy_136 (by decide) ⟨zq_lt (by decide), by decide⟩ rfl (by simp [Value.category]) (by simp [lg_sl, Value.category]) (zt_rcv zc_0) (zt_dm (by decide) (S_C_trick hca23)) ?_
      refine zt_aload_n zy_182 (show q_ins q_k182 125 = some (.aload_n 0, 0, 0) from rfl) (v := 0) rfl ?_
      refine zt_iload_n zy_182 (show q_ins q_k182 126 = some (.iload_n 3, 0, 0) from rfl) (v := Int32.ofInt v3) rfl ?_
      refine zt_iconst zy_182 (show q_ins q_k182 127 = some (.iconst 5, 0, 0) from rfl) ?_
      obtain ⟨a25, s26, hca25, h⟩ := zt_byE h
      refine zt_callV (d := 3) zy_182 (show q_ins q_k182 128 = some (.invokevirtual 188, 136, 2) from rfl) zy_136 (by decide) ⟨zq_lt (by decide), by decide⟩ rfl (by simp [Value.category]) (by simp [lg_sl, Value.category]) (zt_rcv zc_0) (zt_dm (by decide) (S_C_trick hca25)) ?_
      obtain ⟨a27, s28, t29, hca27, h⟩ := zt_btE h
      refine zt_callS (d := 3) zy_182 (show q_ins q_k182 131 = some (.invokestatic 166, 180, 5) from rfl) zy_180 (by decide) ⟨zq_lt (by decide), by decide⟩ rfl (by simp [Value.category]) (by simp [lg_sl, Value.category]) rfl (zt_dm (by decide) (S_P_power hca27)) ?_
      refine zt_aload_n zy_182 (show q_ins q_k182 134 = some (.aload_n 0, 0, 0) from rfl) (v := 0) rfl ?_
      refine zt_aload_n zy_182 (show q_ins q_k182 135 = some (.aload_n 0, 0, 0) from rfl) (v := 0) rfl ?_
      refine zt_iload zy_182 (show q_ins q_k182 136 = some (.iload 5, 0, 0) from rfl) (v := Int32.ofInt v5) rfl ?_
      refine zt_iconst zy_182 (show q_ins q_k182 138 = some (.iconst 0, 0, 0) from rfl) ?_
      obtain ⟨a30, s31, hca30, h⟩ := zt_byE h
      refine zt_callV (d := 3) zy_182 (show q_ins q_k182 139 = some (.invokevirtual 154, 135, 2) from rfl) zy_135 (by decide) ⟨zq_lt (by decide), by decide⟩ rfl (by simp [Value.category]) (by simp [lg_sl, Value.category]) (zt_rcv zc_0) (zt_dm (by decide) (S_C_played hca30)) ?_
      refine zt_iload zy_182 (show q_ins q_k182 142 = some (.iload 4, 0, 0) from rfl) (v := Int32.ofInt v4) rfl ?_
      refine zt_aload_n zy_182 (show q_ins q_k182 144 = some (.aload_n 0, 0, 0) from rfl) (v := 0) rfl ?_
      refine zt_iload_n zy_182 (show q_ins q_k182 145 = some (.iload_n 3, 0, 0) from rfl) (v := Int32.ofInt v3) rfl ?_
      refine zt_iconst zy_182 (show q_ins q_k182 146 = some (.iconst 4, 0, 0) from rfl) ?_
      obtain ⟨a32, s33, hca32, h⟩ := zt_byE h
      refine zt_callV (d := 3) zy_182 (show q_ins q_k182 147 = some (.invokevirtual 188, 136, 2) from rfl) zy_136 (by decide) ⟨zq_lt (by decide), by decide⟩ rfl (by simp [Value.category]) (by simp [lg_sl, Value.category]) (zt_rcv zc_0) (zt_dm (by decide) (S_C_trick hca32)) ?_
      refine zt_aload_n zy_182 (show q_ins q_k182 150 = some (.aload_n 0, 0, 0) from rfl) (v := 0) rfl ?_
      refine zt_iload_n zy_182 (show q_ins q_k182 151 = some (.iload_n 3, 0, 0) from rfl) (v := Int32.ofInt v3) rfl ?_
      refine zt_iconst zy_182 (show q_ins q_k182 152 = some (.iconst 5, 0, 0) from rfl) ?_
      obtain ⟨a34, s35, hca34, h⟩ := zt_byE h
      refine zt_callV (d := 3) zy_182 (show q_ins q_k182 153 = some (.invokevirtual 188, 136, 2) from rfl) zy_136 (by decide) ⟨zq_lt (by decide), by decide⟩ rfl (by simp [Value.category]) (by simp [lg_sl, Value.category]) (zt_rcv zc_0) (zt_dm (by decide) (S_C_trick hca34)) ?_
      obtain ⟨a36, s37, t38, hca36, h⟩ := zt_btE h
      refine zt_callS (d := 3) zy_182 (show q_ins q_k182 156 = some (.invokestatic 166, 180, 5) from rfl) zy_180 (by decide) ⟨zq_lt (by decide), by decide⟩ rfl (by simp [Value.category]) (by simp [lg_sl, Value.category]) rfl (zt_dm (by decide) (S_P_power hca36)) ?_
      obtain ⟨hg, h⟩ := zt_ckE h
      refine zt_icmp_le zy_182 (show q_ins q_k182 159 = some (.if_icmp .le 7, 166, 0) from rfl) (⟨hg.1, hg.2⟩) (fun hc => ?_) (fun hc => ?_)
      · rw [if_pos hc] at h
        refine zt_iload zy_182 (show q_ins q_k182 162 = some (.iload 7, 0, 0) from rfl) (v := Int32.ofInt ((v3 * v1) + v6)) rfl ?_
        refine zt_istore zy_182 (show q_ins q_k182 164 = some (.istore 5, 0, 0) from rfl) (by decide) ?_
        exact zt_wk (zt_cov_cons rfl (zt_cov_cons rfl (zt_cov_cons rfl (zt_cov_cons rfl (zt_cov_cons rfl (zt_cov_cons rfl (zt_cov_cons rfl (zt_cov_nil)))))))) (S_P_areTricks_166  hr12 ih _ _ _ _ _ _ _ _ _ h)
      · rw [if_neg hc] at h
        exact zt_wk (zt_cov_cons rfl (zt_cov_cons rfl (zt_cov_cons rfl (zt_cov_cons rfl (zt_cov_cons rfl (zt_cov_cons rfl (zt_cov_cons rfl (zt_cov_nil)))))))) (S_P_areTricks_166  hr12 ih _ _ _ _ _ _ _ _ _ h)
    · rw [if_neg hc] at h
      refine zt_iconst zy_182 (show q_ins q_k182 107 = some (.iconst 0, 0, 0) from rfl) ?_
      cases h
      exact zt_zret zy_182 (show q_ins q_k182 108 = some (.ireturn, 0, 0) from rfl) (by decide)
  · rw [if_neg hc] at h
    exact zt_wk (zt_cov_cons rfl (zt_cov_cons rfl (zt_cov_cons rfl (zt_cov_cons rfl (zt_cov_cons rfl (zt_cov_nil)))))) (S_P_areTricks_172  hr12 _ _ _ _ _ _ _ h)
