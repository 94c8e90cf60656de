/-! the mini-machine does what the functions say (by program) -/
theorem S_L_load {X : q_X}   {v1 : Int} {σ : zt_S} {o : (Int × zt_S)} (h : F_L_load  v1 σ = some o) : zt_Ex X 7 317 0 (lv_args 0 [.ref 0, .int (Int32.ofInt v1), .ref 184]) [] (zt_M σ) (zo_I o) := by
  unfold F_L_load at h
  refine zt_aload_n zy_317 (show q_ins q_k317 0 = some (.aload_n 2, 0, 0) from rfl) (v := 184) rfl ?_
  refine zt_iconst zy_317 (show q_ins q_k317 1 = some (.iconst 0, 0, 0) from rfl) ?_
  refine zt_aload_n zy_317 (show q_ins q_k317 2 = some (.aload_n 0, 0, 0) from rfl) (v := 0) rfl ?_
  refine zt_iload_n zy_317 (show q_ins q_k317 3 = some (.iload_n 1, 0, 0) from rfl) (v := Int32.ofInt v1) rfl ?_
  rcases zt_bxE h with ⟨a1, s2, hca1, h⟩ | ⟨E, s2, hca1, h⟩
  · refine zt_callV (d := 6) zy_317 (show q_ins q_k317 4 = some (.invokevirtual 7, 119, 1) from rfl) zy_119 (by decide) ⟨zq_lt (by decide), by decide⟩ rfl (by simp [Value.category]) (by simp [lg_sl, Value.category]) (zt_rcv zc_0) (zt_dm (by decide) (S_C_load hca1)) ?_
    refine zt_i2l zy_317 (show q_ins q_k317 7 = some (.i2l, 0, 0) from rfl) ?_
    obtain ⟨s3, hs3, h⟩ := zt_letE h
    refine zt_lst zy_317 (show q_ins q_k317 8 = some (.lastore, 0, 0) from rfl) za_184 (by decide) (by decide) ?_
    rw [← hs3]
    refine zt_goto zy_317 (show q_ins q_k317 9 = some (.goto 6, 15, 0) from rfl) ?_
    refine zt_iconst zy_317 (show q_ins q_k317 15 = some (.iconst 0, 0, 0) from rfl) ?_
    cases h
    exact zt_iret zy_317 (show q_ins q_k317 16 = some (.ireturn, 0, 0) from rfl)
  · skip
    by_cases hE1 : E = 1
    · rw [if_pos hE1] at h
      subst hE1
      refine zt_callVH (d := 6) zy_317 (show q_ins q_k317 4 = some (.invokevirtual 7, 119, 1) from rfl) zy_119 (by decide) ⟨zq_lt (by decide), by decide⟩ rfl (by simp [Value.category]) (by simp [lg_sl, Value.category]) (zt_rcv zc_0) (zt_dm (by decide) (S_C_load hca1)) (hp := 12) (k := 3) (n := 1) rfl rfl (by decide) ?_
      refine zt_iconst zy_317 (show q_ins q_k317 13 = some (.iconst 1, 0, 0) from rfl) ?_
      cases h
      exact zt_iret zy_317 (show q_ins q_k317 14 = some (.ireturn, 0, 0) from rfl)
    rw [if_neg hE1] at h
    cases h
theorem S_L_size {X : q_X}   {v1 : Int} {σ : zt_S} {o : (Int × zt_S)} (h : F_L_size  v1 σ = some o) : zt_Ex X 3 318 0 (lv_args 0 [.ref 0, .int (Int32.ofInt v1), .ref 184]) [] (zt_M σ) (zo_I o) := by
  unfold F_L_size at h
  refine zt_aload_n zy_318 (show q_ins q_k318 0 = some (.aload_n 2, 0, 0) from rfl) (v := 184) rfl ?_
  refine zt_iconst zy_318 (show q_ins q_k318 1 = some (.iconst 0, 0, 0) from rfl) ?_
  refine zt_aload_n zy_318 (show q_ins q_k318 2 = some (.aload_n 0, 0, 0) from rfl) (v := 0) rfl ?_
  refine zt_iload_n zy_318 (show q_ins q_k318 3 = some (.iload_n 1, 0, 0) from rfl) (v := Int32.ofInt v1) rfl ?_
  rcases zt_bxE h with ⟨a1, s2, hca1, h⟩ | ⟨E, s2, hca1, h⟩
  · refine zt_callV (d := 2) zy_318 (show q_ins q_k318 4 = some (.invokevirtual 15, 122, 1) from rfl) zy_122 (by decide) ⟨zq_lt (by decide), by decide⟩ rfl (by simp [Value.category]) (by simp [lg_sl, Value.category]) (zt_rcv zc_0) (zt_dm (by decide) (S_C_size hca1)) ?_
    refine zt_i2l zy_318 (show q_ins q_k318 7 = some (.i2l, 0, 0) from rfl) ?_
    obtain ⟨s3, hs3, h⟩ := zt_letE h
    refine zt_lst zy_318 (show q_ins q_k318 8 = some (.lastore, 0, 0) from rfl) za_184 (by decide) (by decide) ?_
    rw [← hs3]
    refine zt_goto zy_318 (show q_ins q_k318 9 = some (.goto 6, 15, 0) from rfl) ?_
    refine zt_iconst zy_318 (show q_ins q_k318 15 = some (.iconst 0, 0, 0) from rfl) ?_
    cases h
    exact zt_iret zy_318 (show q_ins q_k318 16 = some (.ireturn, 0, 0) from rfl)
  · skip
    by_cases hE0 : E = 0
    · rw [if_pos hE0] at h
      subst hE0
      refine zt_callVH (d := 2) zy_318 (show q_ins q_k318 4 = some (.invokevirtual 15, 122, 1) from rfl) zy_122 (by decide) ⟨zq_lt (by decide), by decide⟩ rfl (by simp [Value.category]) (by simp [lg_sl, Value.category]) (zt_rcv zc_0) (zt_dm (by decide) (S_C_size hca1)) (hp := 12) (k := 3) (n := 1) rfl rfl (by decide) ?_
      refine zt_iconst zy_318 (show q_ins q_k318 13 = some (.iconst 1, 0, 0) from rfl) ?_
      cases h
      exact zt_iret zy_318 (show q_ins q_k318 14 = some (.ireturn, 0, 0) from rfl)
    rw [if_neg hE0] at h
    cases h
theorem S_L_suit {X : q_X}   {v1 : Int} {σ : zt_S} {o : (Int × zt_S)} (h : F_L_suit  v1 σ = some o) : zt_Ex X 3 319 0 (lv_args 0 [.ref 0, .int (Int32.ofInt v1), .ref 184]) [] (zt_M σ) (zo_I o) := by
  unfold F_L_suit at h
  refine zt_aload_n zy_319 (show q_ins q_k319 0 = some (.aload_n 2, 0, 0) from rfl) (v := 184) rfl ?_
  refine zt_iconst zy_319 (show q_ins q_k319 1 = some (.iconst 0, 0, 0) from rfl) ?_
  refine zt_aload_n zy_319 (show q_ins q_k319 2 = some (.aload_n 0, 0, 0) from rfl) (v := 0) rfl ?_
  refine zt_iload_n zy_319 (show q_ins q_k319 3 = some (.iload_n 1, 0, 0) from rfl) (v := Int32.ofInt v1) rfl ?_
  rcases zt_bxE h with ⟨a1, s2, hca1, h⟩ | ⟨E, s2, hca1, h⟩
  · refine zt_callV (d := 2) zy_319 (show q_ins q_k319 4 = some (.invokevirtual 20, 123, 1) from rfl) zy_123 (by decide) ⟨zq_lt (by decide), by decide⟩ rfl (by simp [Value.category]) (by simp [lg_sl, Value.category]) (zt_rcv zc_0) (zt_dm (by decide) (S_C_suit hca1)) ?_
    refine zt_i2l zy_319 (show q_ins q_k319 7 = some (.i2l, 0, 0) from rfl) ?_
    obtain ⟨s3, hs3, h⟩ := zt_letE h
    refine zt_lst zy_319 (show q_ins q_k319 8 = some (.lastore, 0, 0) from rfl) za_184 (by decide) (by decide) ?_
    rw [← hs3]
    refine zt_goto zy_319 (show q_ins q_k319 9 = some (.goto 6, 15, 0) from rfl) ?_
    refine zt_iconst zy_319 (show q_ins q_k319 15 = some (.iconst 0, 0, 0) from rfl) ?_
    cases h
    exact zt_iret zy_319 (show q_ins q_k319 16 = some (.ireturn, 0, 0) from rfl)
  · skip
    by_cases hE0 : E = 0
    · rw [if_pos hE0] at h
      subst hE0
      refine zt_callVH (d := 2) zy_319 (show q_ins q_k319 4 = some (.invokevirtual 20, 123, 1) from rfl) zy_123 (by decide) ⟨zq_lt (by decide), by decide⟩ rfl (by simp [Value.category]) (by simp [lg_sl, Value.category]) (zt_rcv zc_0) (zt_dm (by decide) (S_C_suit hca1)) (hp := 12) (k := 3) (n := 1) rfl rfl (by decide) ?_
      refine zt_iconst zy_319 (show q_ins q_k319 13 = some (.iconst 1, 0, 0) from rfl) ?_
      cases h
      exact zt_iret zy_319 (show q_ins q_k319 14 = some (.ireturn, 0, 0) from rfl)
    rw [if_neg hE0] at h
    cases h
theorem S_L_rank {X : q_X}   {v1 : Int} {σ : zt_S} {o : (Int × zt_S)} (h : F_L_rank  v1 σ = some o) : zt_Ex X 3 320 0 (lv_args 0 [.ref 0, .int (Int32.ofInt v1), .ref 184]) [] (zt_M σ) (zo_I o) := by
  unfold F_L_rank at h
  refine zt_aload_n zy_320 (show q_ins q_k320 0 = some (.aload_n 2, 0, 0) from rfl) (v := 184) rfl ?_
  refine zt_iconst zy_320 (show q_ins q_k320 1 = some (.iconst 0, 0, 0) from rfl) ?_
  refine zt_aload_n zy_320 (show q_ins q_k320 2 = some (.aload_n 0, 0, 0) from rfl) (v := 0) rfl ?_
  refine zt_iload_n zy_320 (show q_ins q_k320 3 = some (.iload_n 1, 0, 0) from rfl) (v := Int32.ofInt v1) rfl ?_
  rcases zt_bxE h with ⟨a1, s2, hca1, h⟩ | ⟨E, s2, hca1, h⟩
  · refine zt_callV (d := 2) zy_320 (show q_ins q_k320 4 = some (.invokevirtual 23, 124, 1) from rfl) zy_124 (by decide) ⟨zq_lt (by decide), by decide⟩ rfl (by simp [Value.category]) (by simp [lg_sl, Value.category]) (zt_rcv zc_0) (zt_dm (by decide) (S_C_rank hca1)) ?_
    refine zt_i2l zy_320 (show q_ins q_k320 7 = some (.i2l, 0, 0) from rfl) ?_
    obtain ⟨s3, hs3, h⟩ := zt_letE h
    refine zt_lst zy_320 (show q_ins q_k320 8 = some (.lastore, 0, 0) from rfl) za_184 (by decide) (by decide) ?_
    rw [← hs3]
    refine zt_goto zy_320 (show q_ins q_k320 9 = some (.goto 6, 15, 0) from rfl) ?_
    refine zt_iconst zy_320 (show q_ins q_k320 15 = some (.iconst 0, 0, 0) from rfl) ?_
    cases h
    exact zt_iret zy_320 (show q_ins q_k320 16 = some (.ireturn, 0, 0) from rfl)
  · skip
    by_cases hE0 : E = 0
    · rw [if_pos hE0] at h
      subst hE0
      refine zt_callVH (d := 2) zy_320 (show q_ins q_k320 4 = some (.invokevirtual 23, 124, 1) from rfl) zy_124 (by decide) ⟨zq_lt (by decide), by decide⟩ rfl (by simp [Value.category]) (by simp [lg_sl, Value.category]) (zt_rcv zc_0) (zt_dm (by decide) (S_C_rank hca1)) (hp := 12) (k := 3) (n := 1) rfl rfl (by decide) ?_
      refine zt_iconst zy_320 (show q_ins q_k320 13 = some (.iconst 1, 0, 0) from rfl) ?_
      cases h
      exact zt_iret zy_320 (show q_ins q_k320 14 = some (.ireturn, 0, 0) from rfl)
    rw [if_neg hE0] at h
    cases h
theorem S_L_holder {X : q_X}   {v1 : Int} {σ : zt_S} {o : (Int × zt_S)} (h : F_L_holder  v1 σ = some o) : zt_Ex X 3 321 0 (lv_args 0 [.ref 0, .int (Int32.ofInt v1), .ref 184]) [] (zt_M σ) (zo_I o) := by
  unfold F_L_holder at h
  refine zt_aload_n zy_321 (show q_ins q_k321 0 = some (.aload_n 2, 0, 0) from rfl) (v := 184) rfl ?_
  refine zt_iconst zy_321 (show q_ins q_k321 1 = some (.iconst 0, 0, 0) from rfl) ?_
  refine zt_aload_n zy_321 (show q_ins q_k321 2 = some (.aload_n 0, 0, 0) from rfl) (v := 0) rfl ?_
  refine zt_iload_n zy_321 (show q_ins q_k321 3 = some (.iload_n 1, 0, 0) from rfl) (v := Int32.ofInt v1) rfl ?_
  rcases zt_bxE h with ⟨a1, s2, hca1, h⟩ | ⟨E, s2, hca1, h⟩
  · refine zt_callV (d := 2) zy_321 (show q_ins q_k321 4 = some (.invokevirtual 26, 125, 1) from rfl) zy_125 (by decide) ⟨zq_lt (by decide), by decide⟩ rfl (by simp [Value.category]) (by simp [lg_sl, Value.category]) (zt_rcv zc_0) (zt_dm (by decide) (S_C_holder hca1)) ?_
    refine zt_i2l zy_321 (show q_ins q_k321 7 = some (.i2l, 0, 0) from rfl) ?_
    obtain ⟨s3, hs3, h⟩ := zt_letE h
    refine zt_lst zy_321 (show q_ins q_k321 8 = some (.lastore, 0, 0) from rfl) za_184 (by decide) (by decide) ?_
    rw [← hs3]
    refine zt_goto zy_321 (show q_ins q_k321 9 = some (.goto 6, 15, 0) from rfl) ?_
    refine zt_iconst zy_321 (show q_ins q_k321 15 = some (.iconst 0, 0, 0) from rfl) ?_
    cases h
    exact zt_iret zy_321 (show q_ins q_k321 16 = some (.ireturn, 0, 0) from rfl)
  · skip
    by_cases hE0 : E = 0
    · rw [if_pos hE0] at h
      subst hE0
      refine zt_callVH (d := 2) zy_321 (show q_ins q_k321 4 = some (.invokevirtual 26, 125, 1) from rfl) zy_125 (by decide) ⟨zq_lt (by decide), by decide⟩ rfl (by simp [Value.category]) (by simp [lg_sl, Value.category]) (zt_rcv zc_0) (zt_dm (by decide) (S_C_holder hca1)) (hp := 12) (k := 3) (n := 1) rfl rfl (by decide) ?_
      refine zt_iconst zy_321 (show q_ins q_k321 13 = some (.iconst 1, 0, 0) from rfl) ?_
      cases h
      exact zt_iret zy_321 (show q_ins q_k321 14 = some (.ireturn, 0, 0) from rfl)
    rw [if_neg hE0] at h
    cases h
theorem S_L_held {X : q_X}   {v1 : Int} {σ : zt_S} {o : (Int × zt_S)} (h : F_L_held  v1 σ = some o) : zt_Ex X 2 322 0 (lv_args 0 [.ref 0, .int (Int32.ofInt v1), .ref 184]) [] (zt_M σ) (zo_I o) := by
  unfold F_L_held at h
  refine zt_aload_n zy_322 (show q_ins q_k322 0 = some (.aload_n 2, 0, 0) from rfl) (v := 184) rfl ?_
  refine zt_iconst zy_322 (show q_ins q_k322 1 = some (.iconst 0, 0, 0) from rfl) ?_
  refine zt_aload_n zy_322 (show q_ins q_k322 2 = some (.aload_n 0, 0, 0) from rfl) (v := 0) rfl ?_
  refine zt_iload_n zy_322 (show q_ins q_k322 3 = some (.iload_n 1, 0, 0) from rfl) (v := Int32.ofInt v1) rfl ?_
  rcases zt_bxE h with ⟨a1, s2, hca1, h⟩ | ⟨E, s2, hca1, h⟩
  · refine zt_callV (d := 1) zy_322 (show q_ins q_k322 4 = some (.invokevirtual 29, 126, 1) from rfl) zy_126 (by decide) ⟨zq_lt (by decide), by decide⟩ rfl (by simp [Value.category]) (by simp [lg_sl, Value.category]) (zt_rcv zc_0) (zt_dm (by decide) (S_C_held hca1)) ?_
    refine zt_i2l zy_322 (show q_ins q_k322 7 = some (.i2l, 0, 0) from rfl) ?_
    obtain ⟨s3, hs3, h⟩ := zt_letE h
    refine zt_lst zy_322 (show q_ins q_k322 8 = some (.lastore, 0, 0) from rfl) za_184 (by decide) (by decide) ?_
    rw [← hs3]
    refine zt_goto zy_322 (show q_ins q_k322 9 = some (.goto 6, 15, 0) from rfl) ?_
    refine zt_iconst zy_322 (show q_ins q_k322 15 = some (.iconst 0, 0, 0) from rfl) ?_
    cases h
    exact zt_iret zy_322 (show q_ins q_k322 16 = some (.ireturn, 0, 0) from rfl)
  · skip
    by_cases hE0 : E = 0
    · rw [if_pos hE0] at h
      subst hE0
      refine zt_callVH (d := 1) zy_322 (show q_ins q_k322 4 = some (.invokevirtual 29, 126, 1) from rfl) zy_126 (by decide) ⟨zq_lt (by decide), by decide⟩ rfl (by simp [Value.category]) (by simp [lg_sl, Value.category]) (zt_rcv zc_0) (zt_dm (by decide) (S_C_held hca1)) (hp := 12) (k := 3) (n := 1) rfl rfl (by decide) ?_
      refine zt_iconst zy_322 (show q_ins q_k322 13 = some (.iconst 1, 0, 0) from rfl) ?_
      cases h
      exact zt_iret zy_322 (show q_ins q_k322 14 = some (.ireturn, 0, 0) from rfl)
    rw [if_neg hE0] at h
    cases h
theorem S_L_inHand {X : q_X}   {v1 : Int} {v2 : Int} {σ : zt_S} {o : (Int × zt_S)} (h : F_L_inHand  v1 v2 σ = some o) : zt_Ex X 2 323 0 (lv_args 0 [.ref 0, .int (Int32.ofInt v1), .int (Int32.ofInt v2), .ref 184]) [] (zt_M σ) (zo_I o) := by
  unfold F_L_inHand at h
  refine zt_aload_n zy_323 (show q_ins q_k323 0 = some (.aload_n 3, 0, 0) from rfl) (v := 184) rfl ?_
  refine zt_iconst zy_323 (show q_ins q_k323 1 = some (.iconst 0, 0, 0) from rfl) ?_
  refine zt_aload_n zy_323 (show q_ins q_k323 2 = some (.aload_n 0, 0, 0) from rfl) (v := 0) rfl ?_
  refine zt_iload_n zy_323 (show q_ins q_k323 3 = some (.iload_n 1, 0, 0) from rfl) (v := Int32.ofInt v1) rfl ?_
  refine zt_iload_n zy_323 (show q_ins q_k323 4 = some (.iload_n 2, 0, 0) from rfl) (v := Int32.ofInt v2) rfl ?_
  rcases zt_bxE h with ⟨a1, s2, hca1, h⟩ | ⟨E, s2, hca1, h⟩
  · refine zt_callV (d := 1) zy_323 (show q_ins q_k323 5 = some (.invokevirtual 32, 127, 2) from rfl) zy_127 (by decide) ⟨zq_lt (by decide), by decide⟩ rfl (by simp [Value.category]) (by simp [lg_sl, Value.category]) (zt_rcv zc_0) (zt_dm (by decide) (S_C_inHand hca1)) ?_
    refine zt_i2l zy_323 (show q_ins q_k323 8 = some (.i2l, 0, 0) from rfl) ?_
    obtain ⟨s3, hs3, h⟩ := zt_letE h
    refine zt_lst zy_323 (show q_ins q_k323 9 = some (.lastore, 0, 0) from rfl) za_184 (by decide) (by decide) ?_
    rw [← hs3]
    refine zt_goto zy_323 (show q_ins q_k323 10 = some (.goto 7, 17, 0) from rfl) ?_
    refine zt_iconst zy_323 (show q_ins q_k323 17 = some (.iconst 0, 0, 0) from rfl) ?_
    cases h
    exact zt_iret zy_323 (show q_ins q_k323 18 = some (.ireturn, 0, 0) from rfl)
  · skip
    by_cases hE0 : E = 0
    · rw [if_pos hE0] at h
      subst hE0
      refine zt_callVH (d := 1) zy_323 (show q_ins q_k323 5 = some (.invokevirtual 32, 127, 2) from rfl) zy_127 (by decide) ⟨zq_lt (by decide), by decide⟩ rfl (by simp [Value.category]) (by simp [lg_sl, Value.category]) (zt_rcv zc_0) (zt_dm (by decide) (S_C_inHand hca1)) (hp := 13) (k := 4) (n := 2) rfl rfl (by decide) ?_
      refine zt_iconst zy_323 (show q_ins q_k323 15 = some (.iconst 1, 0, 0) from rfl) ?_
      cases h
      exact zt_iret zy_323 (show q_ins q_k323 16 = some (.ireturn, 0, 0) from rfl)
    rw [if_neg hE0] at h
    cases h
theorem S_L_ofSuit {X : q_X}   {v1 : Int} {v2 : Int} {σ : zt_S} {o : (Int × zt_S)} (h : F_L_ofSuit  v1 v2 σ = some o) : zt_Ex X 2 324 0 (lv_args 0 [.ref 0, .int (Int32.ofInt v1), .int (Int32.ofInt v2), .ref 184]) [] (zt_M σ) (zo_I o) := by
  unfold F_L_ofSuit at h
  refine zt_aload_n zy_324 (show q_ins q_k324 0 = some (.aload_n 3, 0, 0) from rfl) (v := 184) rfl ?_
  refine zt_iconst zy_324 (show q_ins q_k324 1 = some (.iconst 0, 0, 0) from rfl) ?_
  refine zt_aload_n zy_324 (show q_ins q_k324 2 = some (.aload_n 0, 0, 0) from rfl) (v := 0) rfl ?_
  refine zt_iload_n zy_324 (show q_ins q_k324 3 = some (.iload_n 1, 0, 0) from rfl) (v := Int32.ofInt v1) rfl ?_
  refine zt_iload_n zy_324 (show q_ins q_k324 4 = some (.iload_n 2, 0, 0) from rfl) (v := Int32.ofInt v2) rfl ?_
  rcases zt_bxE h with ⟨a1, s2, hca1, h⟩ | ⟨E, s2, hca1, h⟩
  · refine zt_callV (d := 1) zy_324 (show q_ins q_k324 5 = some (.invokevirtual 36, 128, 2) from rfl) zy_128 (by decide) ⟨zq_lt (by decide), by decide⟩ rfl (by simp [Value.category]) (by simp [lg_sl, Value.category]) (zt_rcv zc_0) (zt_dm (by decide) (S_C_ofSuit hca1)) ?_
    refine zt_i2l zy_324 (show q_ins q_k324 8 = some (.i2l, 0, 0) from rfl) ?_
    obtain ⟨s3, hs3, h⟩ := zt_letE h
    refine zt_lst zy_324 (show q_ins q_k324 9 = some (.lastore, 0, 0) from rfl) za_184 (by decide) (by decide) ?_
    rw [← hs3]
    refine zt_goto zy_324 (show q_ins q_k324 10 = some (.goto 7, 17, 0) from rfl) ?_
    refine zt_iconst zy_324 (show q_ins q_k324 17 = some (.iconst 0, 0, 0) from rfl) ?_
    cases h
    exact zt_iret zy_324 (show q_ins q_k324 18 = some (.ireturn, 0, 0) from rfl)
  · skip
    by_cases hE0 : E = 0
    · rw [if_pos hE0] at h
      subst hE0
      refine zt_callVH (d := 1) zy_324 (show q_ins q_k324 5 = some (.invokevirtual 36, 128, 2) from rfl) zy_128 (by decide) ⟨zq_lt (by decide), by decide⟩ rfl (by simp [Value.category]) (by simp [lg_sl, Value.category]) (zt_rcv zc_0) (zt_dm (by decide) (S_C_ofSuit hca1)) (hp := 13) (k := 4) (n := 2) rfl rfl (by decide) ?_
      refine zt_iconst zy_324 (show q_ins q_k324 15 = some (.iconst 1, 0, 0) from rfl) ?_
      cases h
      exact zt_iret zy_324 (show q_ins q_k324 16 = some (.ireturn, 0, 0) from rfl)
    rw [if_neg hE0] at h
    cases h
theorem S_L_isLegal_15 {X : q_X}   : ∀ (x0 : Int64) (x1 : Int) (σ : zt_S) (o : (Int × zt_S)), F_L_isLegal_15  x0 x1 σ = some o → zt_Ex X 4 325 15 [] [.long x0, .int (Int32.ofInt x1), .ref 184] (zt_M σ) (zo_I o) := by
  intro x0 x1 σ o  h
  unfold F_L_isLegal_15 at h
  obtain ⟨hg, h⟩ := zt_ckE h
  obtain ⟨s3, hs3, h⟩ := zt_letE h
  refine zt_lst zy_325 (show q_ins q_k325 15 = some (.lastore, 0, 0) from rfl) za_184 (by decide) hg ?_
  rw [← hs3]
  refine zt_goto zy_325 (show q_ins q_k325 16 = some (.goto 6, 22, 0) from rfl) ?_
  refine zt_iconst zy_325 (show q_ins q_k325 22 = some (.iconst 0, 0, 0) from rfl) ?_
  cases h
  exact zt_iret zy_325 (show q_ins q_k325 23 = some (.ireturn, 0, 0) from rfl)
theorem S_L_isLegal {X : q_X}   {v1 : Int} {σ : zt_S} {o : (Int × zt_S)} (h : F_L_isLegal  v1 σ = some o) : zt_Ex X 4 325 0 (lv_args 0 [.ref 0, .int (Int32.ofInt v1), .ref 184]) [] (zt_M σ) (zo_I o) := by
  unfold F_L_isLegal at h
  refine zt_aload_n zy_325 (show q_ins q_k325 0 = some (.aload_n 2, 0, 0) from rfl) (v := 184) rfl ?_
  refine zt_iconst zy_325 (show q_ins q_k325 1 = some (.iconst 0, 0, 0) from rfl) ?_
  refine zt_aload_n zy_325 (show q_ins q_k325 2 = some (.aload_n 0, 0, 0) from rfl) (v := 0) rfl ?_
  refine zt_iload_n zy_325 (show q_ins q_k325 3 = some (.iload_n 1, 0, 0) from rfl) (v := Int32.ofInt v1) rfl ?_
  rcases zt_bxE h with ⟨a1, s2, hca1, h⟩ | ⟨E, s2, hca1, h⟩
  · refine zt_callV (d := 3) zy_325 (show q_ins q_k325 4 = some (.invokevirtual 39, 129, 1) from rfl) zy_129 (by decide) ⟨zq_lt (by decide), by decide⟩ rfl (by simp [Value.category]) (by simp [lg_sl, Value.category]) (zt_rcv zc_0) (zt_dm (by decide) (S_C_isLegal hca1)) ?_
    obtain ⟨hg, h⟩ := zt_ckE h
    refine zt_if_eq zy_325 (show q_ins q_k325 7 = some (.ifCond .eq 7, 14, 0) from rfl) (hg) (fun hc => ?_) (fun hc => ?_)
    · rw [if_pos hc] at h
      refine zt_lconst zy_325 (show q_ins q_k325 14 = some (.lconst 0, 0, 0) from rfl) (v := (0 : Int64)) (by decide) ?_
      exact zt_wk (zt_cov_nil) (S_L_isLegal_15  _ _ _ _ h)
    · rw [if_neg hc] at h
      refine zt_lconst zy_325 (show q_ins q_k325 10 = some (.lconst 1, 0, 0) from rfl) (v := (1 : Int64)) (by decide) ?_
      refine zt_goto zy_325 (show q_ins q_k325 11 = some (.goto 4, 15, 0) from rfl) ?_
      exact zt_wk (zt_cov_nil) (S_L_isLegal_15  _ _ _ _ h)
  · skip
    by_cases hE0 : E = 0
    · rw [if_pos hE0] at h
      subst hE0
      refine zt_callVH (d := 3) zy_325 (show q_ins q_k325 4 = some (.invokevirtual 39, 129, 1) from rfl) zy_129 (by decide) ⟨zq_lt (by decide), by decide⟩ rfl (by simp [Value.category]) (by simp [lg_sl, Value.category]) (zt_rcv zc_0) (zt_dm (by decide) (S_C_isLegal hca1)) (hp := 19) (k := 3) (n := 1) rfl rfl (by decide) ?_
      refine zt_iconst zy_325 (show q_ins q_k325 20 = some (.iconst 1, 0, 0) from rfl) ?_
      cases h
      exact zt_iret zy_325 (show q_ins q_k325 21 = some (.ireturn, 0, 0) from rfl)
    rw [if_neg hE0] at h
    cases h
theorem S_L_power {X : q_X}   {v1 : Int} {σ : zt_S} {o : (Int × zt_S)} (h : F_L_power  v1 σ = some o) : zt_Ex X 3 326 0 (lv_args 0 [.ref 0, .int (Int32.ofInt v1), .ref 184]) [] (zt_M σ) (zo_I o) := by
  unfold F_L_power at h
  refine zt_aload_n zy_326 (show q_ins q_k326 0 = some (.aload_n 2, 0, 0) from rfl) (v := 184) rfl ?_
  refine zt_iconst zy_326 (show q_ins q_k326 1 = some (.iconst 0, 0, 0) from rfl) ?_
  refine zt_aload_n zy_326 (show q_ins q_k326 2 = some (.aload_n 0, 0, 0) from rfl) (v := 0) rfl ?_
  refine zt_iload_n zy_326 (show q_ins q_k326 3 = some (.iload_n 1, 0, 0) from rfl) (v := Int32.ofInt v1) rfl ?_
  rcases zt_bxE h with ⟨a1, s2, hca1, h⟩ | ⟨E, s2, hca1, h⟩
  · refine zt_callV (d := 2) zy_326 (show q_ins q_k326 4 = some (.invokevirtual 43, 131, 1) from rfl) zy_131 (by decide) ⟨zq_lt (by decide), by decide⟩ rfl (by simp [Value.category]) (by simp [lg_sl, Value.category]) (zt_rcv zc_0) (zt_dm (by decide) (S_C_power hca1)) ?_
    refine zt_i2l zy_326 (show q_ins q_k326 7 = some (.i2l, 0, 0) from rfl) ?_
    obtain ⟨s3, hs3, h⟩ := zt_letE h
    refine zt_lst zy_326 (show q_ins q_k326 8 = some (.lastore, 0, 0) from rfl) za_184 (by decide) (by decide) ?_
    rw [← hs3]
    refine zt_goto zy_326 (show q_ins q_k326 9 = some (.goto 6, 15, 0) from rfl) ?_
    refine zt_iconst zy_326 (show q_ins q_k326 15 = some (.iconst 0, 0, 0) from rfl) ?_
    cases h
    exact zt_iret zy_326 (show q_ins q_k326 16 = some (.ireturn, 0, 0) from rfl)
  · skip
    by_cases hE0 : E = 0
    · rw [if_pos hE0] at h
      subst hE0
      refine zt_callVH (d := 2) zy_326 (show q_ins q_k326 4 = some (.invokevirtual 43, 131, 1) from rfl) zy_131 (by decide) ⟨zq_lt (by decide), by decide⟩ rfl (by simp [Value.category]) (by simp [lg_sl, Value.category]) (zt_rcv zc_0) (zt_dm (by decide) (S_C_power hca1)) (hp := 12) (k := 3) (n := 1) rfl rfl (by decide) ?_
      refine zt_iconst zy_326 (show q_ins q_k326 13 = some (.iconst 1, 0, 0) from rfl) ?_
      cases h
      exact zt_iret zy_326 (show q_ins q_k326 14 = some (.ireturn, 0, 0) from rfl)
    rw [if_neg hE0] at h
    cases h
theorem S_L_wouldLead_15 {X : q_X}   : ∀ (x0 : Int64) (x1 : Int) (σ : zt_S) (o : (Int × zt_S)), F_L_wouldLead_15  x0 x1 σ = some o → zt_Ex X 4 327 15 [] [.long x0, .int (Int32.ofInt x1), .ref 184] (zt_M σ) (zo_I o) := by
  intro x0 x1 σ o  h
  unfold F_L_wouldLead_15 at h
  obtain ⟨hg, h⟩ := zt_ckE h
  obtain ⟨s3, hs3, h⟩ := zt_letE h
  refine zt_lst zy_327 (show q_ins q_k327 15 = some (.lastore, 0, 0) from rfl) za_184 (by decide) hg ?_
  rw [← hs3]
  refine zt_goto zy_327 (show q_ins q_k327 16 = some (.goto 6, 22, 0) from rfl) ?_
  refine zt_iconst zy_327 (show q_ins q_k327 22 = some (.iconst 0, 0, 0) from rfl) ?_
  cases h
  exact zt_iret zy_327 (show q_ins q_k327 23 = some (.ireturn, 0, 0) from rfl)
theorem S_L_wouldLead {X : q_X}   {v1 : Int} {σ : zt_S} {o : (Int × zt_S)} (h : F_L_wouldLead  v1 σ = some o) : zt_Ex X 4 327 0 (lv_args 0 [.ref 0, .int (Int32.ofInt v1), .ref 184]) [] (zt_M σ) (zo_I o) := by
  unfold F_L_wouldLead at h
  refine zt_aload_n zy_327 (show q_ins q_k327 0 = some (.aload_n 2, 0, 0) from rfl) (v := 184) rfl ?_
  refine zt_iconst zy_327 (show q_ins q_k327 1 = some (.iconst 0, 0, 0) from rfl) ?_
  refine zt_aload_n zy_327 (show q_ins q_k327 2 = some (.aload_n 0, 0, 0) from rfl) (v := 0) rfl ?_
  refine zt_iload_n zy_327 (show q_ins q_k327 3 = some (.iload_n 1, 0, 0) from rfl) (v := Int32.ofInt v1) rfl ?_
  rcases zt_bxE h with ⟨a1, s2, hca1, h⟩ | ⟨E, s2, hca1, h⟩
  · refine zt_callV (d := 3) zy_327 (show q_ins q_k327 4 = some (.invokevirtual 46, 134, 1) from rfl) zy_134 (by decide) ⟨zq_lt (by decide), by decide⟩ rfl (by simp [Value.category]) (by simp [lg_sl, Value.category]) (zt_rcv zc_0) (zt_dm (by decide) (S_C_wouldLead hca1)) ?_
    obtain ⟨hg, h⟩ := zt_ckE h
    refine zt_if_eq zy_327 (show q_ins q_k327 7 = some (.ifCond .eq 7, 14, 0) from rfl) (hg) (fun hc => ?_) (fun hc => ?_)
    · rw [if_pos hc] at h
      refine zt_lconst zy_327 (show q_ins q_k327 14 = some (.lconst 0, 0, 0) from rfl) (v := (0 : Int64)) (by decide) ?_
      exact zt_wk (zt_cov_nil) (S_L_wouldLead_15  _ _ _ _ h)
    · rw [if_neg hc] at h
      refine zt_lconst zy_327 (show q_ins q_k327 10 = some (.lconst 1, 0, 0) from rfl) (v := (1 : Int64)) (by decide) ?_
      refine zt_goto zy_327 (show q_ins q_k327 11 = some (.goto 4, 15, 0) from rfl) ?_
      exact zt_wk (zt_cov_nil) (S_L_wouldLead_15  _ _ _ _ h)
  · skip
    by_cases hE0 : E = 0
    · rw [if_pos hE0] at h
      subst hE0
      refine zt_callVH (d := 3) zy_327 (show q_ins q_k327 4 = some (.invokevirtual 46, 134, 1) from rfl) zy_134 (by decide) ⟨zq_lt (by decide), by decide⟩ rfl (by simp [Value.category]) (by simp [lg_sl, Value.category]) (zt_rcv zc_0) (zt_dm (by decide) (S_C_wouldLead hca1)) (hp := 19) (k := 3) (n := 1) rfl rfl (by decide) ?_
      refine zt_iconst zy_327 (show q_ins q_k327 20 = some (.iconst 1, 0, 0) from rfl) ?_
      cases h
      exact zt_iret zy_327 (show q_ins q_k327 21 = some (.ireturn, 0, 0) from rfl)
    rw [if_neg hE0] at h
    cases h
theorem S_L_played {X : q_X}   {v1 : Int} {v2 : Int} {σ : zt_S} {o : (Int × zt_S)} (h : F_L_played  v1 v2 σ = some o) : zt_Ex X 2 328 0 (lv_args 0 [.ref 0, .int (Int32.ofInt v1), .int (Int32.ofInt v2), .ref 184]) [] (zt_M σ) (zo_I o) := by
  unfold F_L_played at h
  refine zt_aload_n zy_328 (show q_ins q_k328 0 = some (.aload_n 3, 0, 0) from rfl) (v := 184) rfl ?_
  refine zt_iconst zy_328 (show q_ins q_k328 1 = some (.iconst 0, 0, 0) from rfl) ?_
  refine zt_aload_n zy_328 (show q_ins q_k328 2 = some (.aload_n 0, 0, 0) from rfl) (v := 0) rfl ?_
  refine zt_iload_n zy_328 (show q_ins q_k328 3 = some (.iload_n 1, 0, 0) from rfl) (v := Int32.ofInt v1) rfl ?_
  refine zt_iload_n zy_328 (show q_ins q_k328 4 = some (.iload_n 2, 0, 0) from rfl) (v := Int32.ofInt v2) rfl ?_
  rcases zt_bxE h with ⟨a1, s2, hca1, h⟩ | ⟨E, s2, hca1, h⟩
  · refine zt_callV (d := 1) zy_328 (show q_ins q_k328 5 = some (.invokevirtual 49, 135, 2) from rfl) zy_135 (by decide) ⟨zq_lt (by decide), by decide⟩ rfl (by simp [Value.category]) (by simp [lg_sl, Value.category]) (zt_rcv zc_0) (zt_dm (by decide) (S_C_played hca1)) ?_
    refine zt_i2l zy_328 (show q_ins q_k328 8 = some (.i2l, 0, 0) from rfl) ?_
    obtain ⟨s3, hs3, h⟩ := zt_letE h
    refine zt_lst zy_328 (show q_ins q_k328 9 = some (.lastore, 0, 0) from rfl) za_184 (by decide) (by decide) ?_
    rw [← hs3]
    refine zt_goto zy_328 (show q_ins q_k328 10 = some (.goto 7, 17, 0) from rfl) ?_
    refine zt_iconst zy_328 (show q_ins q_k328 17 = some (.iconst 0, 0, 0) from rfl) ?_
    cases h
    exact zt_iret zy_328 (show q_ins q_k328 18 = some (.ireturn, 0, 0) from rfl)
  · skip
    by_cases hE0 : E = 0
    · rw [if_pos hE0] at h
      subst hE0
      refine zt_callVH (d := 1) zy_328 (show q_ins q_k328 5 = some (.invokevirtual 49, 135, 2) from rfl) zy_135 (by decide) ⟨zq_lt (by decide), by decide⟩ rfl (by simp [Value.category]) (by simp [lg_sl, Value.category]) (zt_rcv zc_0) (zt_dm (by decide) (S_C_played hca1)) (hp := 13) (k := 4) (n := 2) rfl rfl (by decide) ?_
      refine zt_iconst zy_328 (show q_ins q_k328 15 = some (.iconst 1, 0, 0) from rfl) ?_
      cases h
      exact zt_iret zy_328 (show q_ins q_k328 16 = some (.ireturn, 0, 0) from rfl)
    rw [if_neg hE0] at h
    cases h
theorem S_L_trick {X : q_X}   {v1 : Int} {v2 : Int} {σ : zt_S} {o : (Int × zt_S)} (h : F_L_trick  v1 v2 σ = some o) : zt_Ex X 2 329 0 (lv_args 0 [.ref 0, .int (Int32.ofInt v1), .int (Int32.ofInt v2), .ref 184]) [] (zt_M σ) (zo_I o) := by
  unfold F_L_trick at h
  refine zt_aload_n zy_329 (show q_ins q_k329 0 = some (.aload_n 3, 0, 0) from rfl) (v := 184) rfl ?_
  refine zt_iconst zy_329 (show q_ins q_k329 1 = some (.iconst 0, 0, 0) from rfl) ?_
  refine zt_aload_n zy_329 (show q_ins q_k329 2 = some (.aload_n 0, 0, 0) from rfl) (v := 0) rfl ?_
  refine zt_iload_n zy_329 (show q_ins q_k329 3 = some (.iload_n 1, 0, 0) from rfl) (v := Int32.ofInt v1) rfl ?_
  refine zt_iload_n zy_329 (show q_ins q_k329 4 = some (.iload_n 2, 0, 0) from rfl) (v := Int32.ofInt v2) rfl ?_
  rcases zt_bxE h with ⟨a1, s2, hca1, h⟩ | ⟨E, s2, hca1, h⟩
  · refine zt_callV (d := 1) zy_329 (show q_ins q_k329 5 = some (.invokevirtual 52, 136, 2) from rfl) zy_136 (by decide) ⟨zq_lt (by decide), by decide⟩ rfl (by simp [Value.category]) (by simp [lg_sl, Value.category]) (zt_rcv zc_0) (zt_dm (by decide) (S_C_trick hca1)) ?_
    refine zt_i2l zy_329 (show q_ins q_k329 8 = some (.i2l, 0, 0) from rfl) ?_
    obtain ⟨s3, hs3, h⟩ := zt_letE h
    refine zt_lst zy_329 (show q_ins q_k329 9 = some (.lastore, 0, 0) from rfl) za_184 (by decide) (by decide) ?_
    rw [← hs3]
    refine zt_goto zy_329 (show q_ins q_k329 10 = some (.goto 7, 17, 0) from rfl) ?_
    refine zt_iconst zy_329 (show q_ins q_k329 17 = some (.iconst 0, 0, 0) from rfl) ?_
    cases h
    exact zt_iret zy_329 (show q_ins q_k329 18 = some (.ireturn, 0, 0) from rfl)
  · skip
    by_cases hE0 : E = 0
    · rw [if_pos hE0] at h
      subst hE0
      refine zt_callVH (d := 1) zy_329 (show q_ins q_k329 5 = some (.invokevirtual 52, 136, 2) from rfl) zy_136 (by decide) ⟨zq_lt (by decide), by decide⟩ rfl (by simp [Value.category]) (by simp [lg_sl, Value.category]) (zt_rcv zc_0) (zt_dm (by decide) (S_C_trick hca1)) (hp := 13) (k := 4) (n := 2) rfl rfl (by decide) ?_
      refine zt_iconst zy_329 (show q_ins q_k329 15 = some (.iconst 1, 0, 0) from rfl) ?_
      cases h
      exact zt_iret zy_329 (show q_ins q_k329 16 = some (.ireturn, 0, 0) from rfl)
    rw [if_neg hE0] at h
    cases h
theorem S_L_tricks {X : q_X}   {v1 : Int} {σ : zt_S} {o : (Int × zt_S)} (h : F_L_tricks  v1 σ = some o) : zt_Ex X 2 330 0 (lv_args 0 [.ref 0, .int (Int32.ofInt v1), .ref 184]) [] (zt_M σ) (zo_I o) := by
  unfold F_L_tricks at h
  refine zt_aload_n zy_330 (show q_ins q_k330 0 = some (.aload_n 2, 0, 0) from rfl) (v := 184) rfl ?_
  refine zt_iconst zy_330 (show q_ins q_k330 1 = some (.iconst 0, 0, 0) from rfl) ?_
  refine zt_aload_n zy_330 (show q_ins q_k330 2 = some (.aload_n 0, 0, 0) from rfl) (v := 0) rfl ?_
  refine zt_iload_n zy_330 (show q_ins q_k330 3 = some (.iload_n 1, 0, 0) from rfl) (v := Int32.ofInt v1) rfl ?_
  rcases zt_bxE h with ⟨a1, s2, hca1, h⟩ | ⟨E, s2, hca1, h⟩
  · refine zt_callV (d := 1) zy_330 (show q_ins q_k330 4 = some (.invokevirtual 55, 137, 1) from rfl) zy_137 (by decide) ⟨zq_lt (by decide), by decide⟩ rfl (by simp [Value.category]) (by simp [lg_sl, Value.category]) (zt_rcv zc_0) (zt_dm (by decide) (S_C_tricks hca1)) ?_
    refine zt_i2l zy_330 (show q_ins q_k330 7 = some (.i2l, 0, 0) from rfl) ?_
    obtain ⟨s3, hs3, h⟩ := zt_letE h
    refine zt_lst zy_330 (show q_ins q_k330 8 = some (.lastore, 0, 0) from rfl) za_184 (by decide) (by decide) ?_
    rw [← hs3]
    refine zt_goto zy_330 (show q_ins q_k330 9 = some (.goto 6, 15, 0) from rfl) ?_
    refine zt_iconst zy_330 (show q_ins q_k330 15 = some (.iconst 0, 0, 0) from rfl) ?_
    cases h
    exact zt_iret zy_330 (show q_ins q_k330 16 = some (.ireturn, 0, 0) from rfl)
  · skip
    by_cases hE0 : E = 0
    · rw [if_pos hE0] at h
      subst hE0
      refine zt_callVH (d := 1) zy_330 (show q_ins q_k330 4 = some (.invokevirtual 55, 137, 1) from rfl) zy_137 (by decide) ⟨zq_lt (by decide), by decide⟩ rfl (by simp [Value.category]) (by simp [lg_sl, Value.category]) (zt_rcv zc_0) (zt_dm (by decide) (S_C_tricks hca1)) (hp := 12) (k := 3) (n := 1) rfl rfl (by decide) ?_
      refine zt_iconst zy_330 (show q_ins q_k330 13 = some (.iconst 1, 0, 0) from rfl) ?_
      cases h
      exact zt_iret zy_330 (show q_ins q_k330 14 = some (.ireturn, 0, 0) from rfl)
    rw [if_neg hE0] at h
    cases h
theorem S_L_told {X : q_X}   {v1 : Int} {σ : zt_S} {o : (Int × zt_S)} (h : F_L_told  v1 σ = some o) : zt_Ex X 2 331 0 (lv_args 0 [.ref 0, .int (Int32.ofInt v1), .ref 184]) [] (zt_M σ) (zo_I o) := by
  unfold F_L_told at h
  refine zt_aload_n zy_331 (show q_ins q_k331 0 = some (.aload_n 2, 0, 0) from rfl) (v := 184) rfl ?_
  refine zt_iconst zy_331 (show q_ins q_k331 1 = some (.iconst 0, 0, 0) from rfl) ?_
  refine zt_aload_n zy_331 (show q_ins q_k331 2 = some (.aload_n 0, 0, 0) from rfl) (v := 0) rfl ?_
  refine zt_iload_n zy_331 (show q_ins q_k331 3 = some (.iload_n 1, 0, 0) from rfl) (v := Int32.ofInt v1) rfl ?_
  rcases zt_bxE h with ⟨a1, s2, hca1, h⟩ | ⟨E, s2, hca1, h⟩
  · refine zt_callV (d := 1) zy_331 (show q_ins q_k331 4 = some (.invokevirtual 58, 138, 1) from rfl) zy_138 (by decide) ⟨zq_lt (by decide), by decide⟩ rfl (by simp [Value.category]) (by simp [lg_sl, Value.category]) (zt_rcv zc_0) (zt_dm (by decide) (S_C_told hca1)) ?_
    refine zt_i2l zy_331 (show q_ins q_k331 7 = some (.i2l, 0, 0) from rfl) ?_
    obtain ⟨s3, hs3, h⟩ := zt_letE h
    refine zt_lst zy_331 (show q_ins q_k331 8 = some (.lastore, 0, 0) from rfl) za_184 (by decide) (by decide) ?_
    rw [← hs3]
    refine zt_goto zy_331 (show q_ins q_k331 9 = some (.goto 6, 15, 0) from rfl) ?_
    refine zt_iconst zy_331 (show q_ins q_k331 15 = some (.iconst 0, 0, 0) from rfl) ?_
    cases h
    exact zt_iret zy_331 (show q_ins q_k331 16 = some (.ireturn, 0, 0) from rfl)
  · skip
    by_cases hE0 : E = 0
    · rw [if_pos hE0] at h
      subst hE0
      refine zt_callVH (d := 1) zy_331 (show q_ins q_k331 4 = some (.invokevirtual 58, 138, 1) from rfl) zy_138 (by decide) ⟨zq_lt (by decide), by decide⟩ rfl (by simp [Value.category]) (by simp [lg_sl, Value.category]) (zt_rcv zc_0) (zt_dm (by decide) (S_C_told hca1)) (hp := 12) (k := 3) (n := 1) rfl rfl (by decide) ?_
      refine zt_iconst zy_331 (show q_ins q_k331 13 = some (.iconst 1, 0, 0) from rfl) ?_
      cases h
      exact zt_iret zy_331 (show q_ins q_k331 14 = some (.ireturn, 0, 0) from rfl)
    rw [if_neg hE0] at h
    cases h
theorem S_L_result {X : q_X}   {v1 : Int} {σ : zt_S} {o : (Int × zt_S)} (h : F_L_result  v1 σ = some o) : zt_Ex X 3 332 0 (lv_args 0 [.ref 0, .int (Int32.ofInt v1), .ref 184]) [] (zt_M σ) (zo_I o) := by
  unfold F_L_result at h
  refine zt_aload_n zy_332 (show q_ins q_k332 0 = some (.aload_n 2, 0, 0) from rfl) (v := 184) rfl ?_
  refine zt_iconst zy_332 (show q_ins q_k332 1 = some (.iconst 0, 0, 0) from rfl) ?_
  refine zt_aload_n zy_332 (show q_ins q_k332 2 = some (.aload_n 0, 0, 0) from rfl) (v := 0) rfl ?_
  refine zt_iload_n zy_332 (show q_ins q_k332 3 = some (.iload_n 1, 0, 0) from rfl) (v := Int32.ofInt v1) rfl ?_
  rcases zt_bxE h with ⟨a1, s2, hca1, h⟩ | ⟨E, s2, hca1, h⟩
  · refine zt_callV (d := 2) zy_332 (show q_ins q_k332 4 = some (.invokevirtual 61, 139, 1) from rfl) zy_139 (by decide) ⟨zq_lt (by decide), by decide⟩ rfl (by simp [Value.category]) (by simp [lg_sl, Value.category]) (zt_rcv zc_0) (zt_dm (by decide) (S_C_result hca1)) ?_
    refine zt_i2l zy_332 (show q_ins q_k332 7 = some (.i2l, 0, 0) from rfl) ?_
    obtain ⟨s3, hs3, h⟩ := zt_letE h
    refine zt_lst zy_332 (show q_ins q_k332 8 = some (.lastore, 0, 0) from rfl) za_184 (by decide) (by decide) ?_
    rw [← hs3]
    refine zt_goto zy_332 (show q_ins q_k332 9 = some (.goto 6, 15, 0) from rfl) ?_
    refine zt_iconst zy_332 (show q_ins q_k332 15 = some (.iconst 0, 0, 0) from rfl) ?_
    cases h
    exact zt_iret zy_332 (show q_ins q_k332 16 = some (.ireturn, 0, 0) from rfl)
  · skip
    by_cases hE0 : E = 0
    · rw [if_pos hE0] at h
      subst hE0
      refine zt_callVH (d := 2) zy_332 (show q_ins q_k332 4 = some (.invokevirtual 61, 139, 1) from rfl) zy_139 (by decide) ⟨zq_lt (by decide), by decide⟩ rfl (by simp [Value.category]) (by simp [lg_sl, Value.category]) (zt_rcv zc_0) (zt_dm (by decide) (S_C_result hca1)) (hp := 12) (k := 3) (n := 1) rfl rfl (by decide) ?_
      refine zt_iconst zy_332 (show q_ins q_k332 13 = some (.iconst 1, 0, 0) from rfl) ?_
      cases h
      exact zt_iret zy_332 (show q_ins q_k332 14 = some (.ireturn, 0, 0) from rfl)
    rw [if_neg hE0] at h
    cases h
theorem S_L_points {X : q_X}   {v1 : Int} {σ : zt_S} {o : (Int × zt_S)} (h : F_L_points  v1 σ = some o) : zt_Ex X 2 333 0 (lv_args 0 [.ref 0, .int (Int32.ofInt v1), .ref 184]) [] (zt_M σ) (zo_I o) := by
  unfold F_L_points at h
  refine zt_aload_n zy_333 (show q_ins q_k333 0 = some (.aload_n 2, 0, 0) from rfl) (v := 184) rfl ?_
  refine zt_iconst zy_333 (show q_ins q_k333 1 = some (.iconst 0, 0, 0) from rfl) ?_
  refine zt_aload_n zy_333 (show q_ins q_k333 2 = some (.aload_n 0, 0, 0) from rfl) (v := 0) rfl ?_
  refine zt_iload_n zy_333 (show q_ins q_k333 3 = some (.iload_n 1, 0, 0) from rfl) (v := Int32.ofInt v1) rfl ?_
  rcases zt_bxE h with ⟨a1, s2, hca1, h⟩ | ⟨E, s2, hca1, h⟩
  · refine zt_callV (d := 1) zy_333 (show q_ins q_k333 4 = some (.invokevirtual 64, 140, 1) from rfl) zy_140 (by decide) ⟨zq_lt (by decide), by decide⟩ rfl (by simp [Value.category]) (by simp [lg_sl, Value.category]) (zt_rcv zc_0) (zt_dm (by decide) (S_C_points hca1)) ?_
    refine zt_i2l zy_333 (show q_ins q_k333 7 = some (.i2l, 0, 0) from rfl) ?_
    obtain ⟨s3, hs3, h⟩ := zt_letE h
    refine zt_lst zy_333 (show q_ins q_k333 8 = some (.lastore, 0, 0) from rfl) za_184 (by decide) (by decide) ?_
    rw [← hs3]
    refine zt_goto zy_333 (show q_ins q_k333 9 = some (.goto 6, 15, 0) from rfl) ?_
    refine zt_iconst zy_333 (show q_ins q_k333 15 = some (.iconst 0, 0, 0) from rfl) ?_
    cases h
    exact zt_iret zy_333 (show q_ins q_k333 16 = some (.ireturn, 0, 0) from rfl)
  · skip
    by_cases hE0 : E = 0
    · rw [if_pos hE0] at h
      subst hE0
      refine zt_callVH (d := 1) zy_333 (show q_ins q_k333 4 = some (.invokevirtual 64, 140, 1) from rfl) zy_140 (by decide) ⟨zq_lt (by decide), by decide⟩ rfl (by simp [Value.category]) (by simp [lg_sl, Value.category]) (zt_rcv zc_0) (zt_dm (by decide) (S_C_points hca1)) (hp := 12) (k := 3) (n := 1) rfl rfl (by decide) ?_
      refine zt_iconst zy_333 (show q_ins q_k333 13 = some (.iconst 1, 0, 0) from rfl) ?_
      cases h
      exact zt_iret zy_333 (show q_ins q_k333 14 = some (.ireturn, 0, 0) from rfl)
    rw [if_neg hE0] at h
    cases h
theorem S_L_ranking {X : q_X}   {v1 : Int} {σ : zt_S} {o : (Int × zt_S)} (h : F_L_ranking  v1 σ = some o) : zt_Ex X 3 334 0 (lv_args 0 [.ref 0, .int (Int32.ofInt v1), .ref 184]) [] (zt_M σ) (zo_I o) := by
  unfold F_L_ranking at h
  refine zt_aload_n zy_334 (show q_ins q_k334 0 = some (.aload_n 2, 0, 0) from rfl) (v := 184) rfl ?_
  refine zt_iconst zy_334 (show q_ins q_k334 1 = some (.iconst 0, 0, 0) from rfl) ?_
  refine zt_aload_n zy_334 (show q_ins q_k334 2 = some (.aload_n 0, 0, 0) from rfl) (v := 0) rfl ?_
  refine zt_iload_n zy_334 (show q_ins q_k334 3 = some (.iload_n 1, 0, 0) from rfl) (v := Int32.ofInt v1) rfl ?_
  rcases zt_bxE h with ⟨a1, s2, hca1, h⟩ | ⟨E, s2, hca1, h⟩
  · refine zt_callV (d := 2) zy_334 (show q_ins q_k334 4 = some (.invokevirtual 67, 141, 1) from rfl) zy_141 (by decide) ⟨zq_lt (by decide), by decide⟩ rfl (by simp [Value.category]) (by simp [lg_sl, Value.category]) (zt_rcv zc_0) (zt_dm (by decide) (S_C_ranking hca1)) ?_
    refine zt_i2l zy_334 (show q_ins q_k334 7 = some (.i2l, 0, 0) from rfl) ?_
    obtain ⟨s3, hs3, h⟩ := zt_letE h
    refine zt_lst zy_334 (show q_ins q_k334 8 = some (.lastore, 0, 0) from rfl) za_184 (by decide) (by decide) ?_
    rw [← hs3]
    refine zt_goto zy_334 (show q_ins q_k334 9 = some (.goto 6, 15, 0) from rfl) ?_
    refine zt_iconst zy_334 (show q_ins q_k334 15 = some (.iconst 0, 0, 0) from rfl) ?_
    cases h
    exact zt_iret zy_334 (show q_ins q_k334 16 = some (.ireturn, 0, 0) from rfl)
  · skip
    by_cases hE0 : E = 0
    · rw [if_pos hE0] at h
      subst hE0
      refine zt_callVH (d := 2) zy_334 (show q_ins q_k334 4 = some (.invokevirtual 67, 141, 1) from rfl) zy_141 (by decide) ⟨zq_lt (by decide), by decide⟩ rfl (by simp [Value.category]) (by simp [lg_sl, Value.category]) (zt_rcv zc_0) (zt_dm (by decide) (S_C_ranking hca1)) (hp := 12) (k := 3) (n := 1) rfl rfl (by decide) ?_
      refine zt_iconst zy_334 (show q_ins q_k334 13 = some (.iconst 1, 0, 0) from rfl) ?_
      cases h
      exact zt_iret zy_334 (show q_ins q_k334 14 = some (.ireturn, 0, 0) from rfl)
    rw [if_neg hE0] at h
    cases h
theorem S_L_lacks_16 {X : q_X}   : ∀ (x0 : Int64) (x1 : Int) (σ : zt_S) (o : (Int × zt_S)), F_L_lacks_16  x0 x1 σ = some o → zt_Ex X 3 335 16 [] [.long x0, .int (Int32.ofInt x1), .ref 184] (zt_M σ) (zo_I o) := by
  intro x0 x1 σ o  h
  unfold F_L_lacks_16 at h
  obtain ⟨hg, h⟩ := zt_ckE h
  obtain ⟨s3, hs3, h⟩ := zt_letE h
  refine zt_lst zy_335 (show q_ins q_k335 16 = some (.lastore, 0, 0) from rfl) za_184 (by decide) hg ?_
  rw [← hs3]
  refine zt_goto zy_335 (show q_ins q_k335 17 = some (.goto 7, 24, 0) from rfl) ?_
  refine zt_iconst zy_335 (show q_ins q_k335 24 = some (.iconst 0, 0, 0) from rfl) ?_
  cases h
  exact zt_iret zy_335 (show q_ins q_k335 25 = some (.ireturn, 0, 0) from rfl)
theorem S_L_lacks {X : q_X}   {v1 : Int} {v2 : Int} {σ : zt_S} {o : (Int × zt_S)} (h : F_L_lacks  v1 v2 σ = some o) : zt_Ex X 3 335 0 (lv_args 0 [.ref 0, .int (Int32.ofInt v1), .int (Int32.ofInt v2), .ref 184]) [] (zt_M σ) (zo_I o) := by
  unfold F_L_lacks at h
  refine zt_aload_n zy_335 (show q_ins q_k335 0 = some (.aload_n 3, 0, 0) from rfl) (v := 184) rfl ?_
  refine zt_iconst zy_335 (show q_ins q_k335 1 = some (.iconst 0, 0, 0) from rfl) ?_
  refine zt_aload_n zy_335 (show q_ins q_k335 2 = some (.aload_n 0, 0, 0) from rfl) (v := 0) rfl ?_
  refine zt_iload_n zy_335 (show q_ins q_k335 3 = some (.iload_n 1, 0, 0) from rfl) (v := Int32.ofInt v1) rfl ?_
  refine zt_iload_n zy_335 (show q_ins q_k335 4 = some (.iload_n 2, 0, 0) from rfl) (v := Int32.ofInt v2) rfl ?_
  rcases zt_bxE h with ⟨a1, s2, hca1, h⟩ | ⟨E, s2, hca1, h⟩
  · refine zt_callV (d := 2) zy_335 (show q_ins q_k335 5 = some (.invokevirtual 70, 142, 2) from rfl) zy_142 (by decide) ⟨zq_lt (by decide), by decide⟩ rfl (by simp [Value.category]) (by simp [lg_sl, Value.category]) (zt_rcv zc_0) (zt_dm (by decide) (S_C_lacks hca1)) ?_
    obtain ⟨hg, h⟩ := zt_ckE h
    refine zt_if_eq zy_335 (show q_ins q_k335 8 = some (.ifCond .eq 7, 15, 0) from rfl) (hg) (fun hc => ?_) (fun hc => ?_)
    · rw [if_pos hc] at h
      refine zt_lconst zy_335 (show q_ins q_k335 15 = some (.lconst 0, 0, 0) from rfl) (v := (0 : Int64)) (by decide) ?_
      exact zt_wk (zt_cov_nil) (S_L_lacks_16  _ _ _ _ h)
    · rw [if_neg hc] at h
      refine zt_lconst zy_335 (show q_ins q_k335 11 = some (.lconst 1, 0, 0) from rfl) (v := (1 : Int64)) (by decide) ?_
      refine zt_goto zy_335 (show q_ins q_k335 12 = some (.goto 4, 16, 0) from rfl) ?_
      exact zt_wk (zt_cov_nil) (S_L_lacks_16  _ _ _ _ h)
  · skip
    by_cases hE0 : E = 0
    · rw [if_pos hE0] at h
      subst hE0
      refine zt_callVH (d := 2) zy_335 (show q_ins q_k335 5 = some (.invokevirtual 70, 142, 2) from rfl) zy_142 (by decide) ⟨zq_lt (by decide), by decide⟩ rfl (by simp [Value.category]) (by simp [lg_sl, Value.category]) (zt_rcv zc_0) (zt_dm (by decide) (S_C_lacks hca1)) (hp := 20) (k := 4) (n := 2) rfl rfl (by decide) ?_
      refine zt_iconst zy_335 (show q_ins q_k335 22 = some (.iconst 1, 0, 0) from rfl) ?_
      cases h
      exact zt_iret zy_335 (show q_ins q_k335 23 = some (.ireturn, 0, 0) from rfl)
    rw [if_neg hE0] at h
    cases h
theorem S_L_could_16 {X : q_X}   : ∀ (x0 : Int64) (x1 : Int) (σ : zt_S) (o : (Int × zt_S)), F_L_could_16  x0 x1 σ = some o → zt_Ex X 3 336 16 [] [.long x0, .int (Int32.ofInt x1), .ref 184] (zt_M σ) (zo_I o) := by
  intro x0 x1 σ o  h
  unfold F_L_could_16 at h
  obtain ⟨hg, h⟩ := zt_ckE h
  obtain ⟨s3, hs3, h⟩ := zt_letE h
  refine zt_lst zy_336 (show q_ins q_k336 16 = some (.lastore, 0, 0) from rfl) za_184 (by decide) hg ?_
  rw [← hs3]
  refine zt_goto zy_336 (show q_ins q_k336 17 = some (.goto 7, 24, 0) from rfl) ?_
  refine zt_iconst zy_336 (show q_ins q_k336 24 = some (.iconst 0, 0, 0) from rfl) ?_
  cases h
  exact zt_iret zy_336 (show q_ins q_k336 25 = some (.ireturn, 0, 0) from rfl)
theorem S_L_could {X : q_X}   {v1 : Int} {v2 : Int} {σ : zt_S} {o : (Int × zt_S)} (h : F_L_could  v1 v2 σ = some o) : zt_Ex X 3 336 0 (lv_args 0 [.ref 0, .int (Int32.ofInt v1), .int (Int32.ofInt v2), .ref 184]) [] (zt_M σ) (zo_I o) := by
  unfold F_L_could at h
  refine zt_aload_n zy_336 (show q_ins q_k336 0 = some (.aload_n 3, 0, 0) from rfl) (v := 184) rfl ?_
  refine zt_iconst zy_336 (show q_ins q_k336 1 = some (.iconst 0, 0, 0) from rfl) ?_
  refine zt_aload_n zy_336 (show q_ins q_k336 2 = some (.aload_n 0, 0, 0) from rfl) (v := 0) rfl ?_
  refine zt_iload_n zy_336 (show q_ins q_k336 3 = some (.iload_n 1, 0, 0) from rfl) (v := Int32.ofInt v1) rfl ?_
  refine zt_iload_n zy_336 (show q_ins q_k336 4 = some (.iload_n 2, 0, 0) from rfl) (v := Int32.ofInt v2) rfl ?_
  rcases zt_bxE h with ⟨a1, s2, hca1, h⟩ | ⟨E, s2, hca1, h⟩
  · refine zt_callV (d := 2) zy_336 (show q_ins q_k336 5 = some (.invokevirtual 74, 143, 2) from rfl) zy_143 (by decide) ⟨zq_lt (by decide), by decide⟩ rfl (by simp [Value.category]) (by simp [lg_sl, Value.category]) (zt_rcv zc_0) (zt_dm (by decide) (S_C_could hca1)) ?_
    obtain ⟨hg, h⟩ := zt_ckE h
    refine zt_if_eq zy_336 (show q_ins q_k336 8 = some (.ifCond .eq 7, 15, 0) from rfl) (hg) (fun hc => ?_) (fun hc => ?_)
    · rw [if_pos hc] at h
      refine zt_lconst zy_336 (show q_ins q_k336 15 = some (.lconst 0, 0, 0) from rfl) (v := (0 : Int64)) (by decide) ?_
      exact zt_wk (zt_cov_nil) (S_L_could_16  _ _ _ _ h)
    · rw [if_neg hc] at h
      refine zt_lconst zy_336 (show q_ins q_k336 11 = some (.lconst 1, 0, 0) from rfl) (v := (1 : Int64)) (by decide) ?_
      refine zt_goto zy_336 (show q_ins q_k336 12 = some (.goto 4, 16, 0) from rfl) ?_
      exact zt_wk (zt_cov_nil) (S_L_could_16  _ _ _ _ h)
  · skip
    by_cases hE0 : E = 0
    · rw [if_pos hE0] at h
      subst hE0
      refine zt_callVH (d := 2) zy_336 (show q_ins q_k336 5 = some (.invokevirtual 74, 143, 2) from rfl) zy_143 (by decide) ⟨zq_lt (by decide), by decide⟩ rfl (by simp [Value.category]) (by simp [lg_sl, Value.category]) (zt_rcv zc_0) (zt_dm (by decide) (S_C_could hca1)) (hp := 20) (k := 4) (n := 2) rfl rfl (by decide) ?_
      refine zt_iconst zy_336 (show q_ins q_k336 22 = some (.iconst 1, 0, 0) from rfl) ?_
      cases h
      exact zt_iret zy_336 (show q_ins q_k336 23 = some (.ireturn, 0, 0) from rfl)
    rw [if_neg hE0] at h
    cases h
theorem S_L_unseen {X : q_X}   {v1 : Int} {σ : zt_S} {o : (Int × zt_S)} (h : F_L_unseen  v1 σ = some o) : zt_Ex X 2 337 0 (lv_args 0 [.ref 0, .int (Int32.ofInt v1), .ref 184]) [] (zt_M σ) (zo_I o) := by
  unfold F_L_unseen at h
  refine zt_aload_n zy_337 (show q_ins q_k337 0 = some (.aload_n 2, 0, 0) from rfl) (v := 184) rfl ?_
  refine zt_iconst zy_337 (show q_ins q_k337 1 = some (.iconst 0, 0, 0) from rfl) ?_
  refine zt_aload_n zy_337 (show q_ins q_k337 2 = some (.aload_n 0, 0, 0) from rfl) (v := 0) rfl ?_
  refine zt_iload_n zy_337 (show q_ins q_k337 3 = some (.iload_n 1, 0, 0) from rfl) (v := Int32.ofInt v1) rfl ?_
  rcases zt_bxE h with ⟨a1, s2, hca1, h⟩ | ⟨E, s2, hca1, h⟩
  · refine zt_callV (d := 1) zy_337 (show q_ins q_k337 4 = some (.invokevirtual 77, 144, 1) from rfl) zy_144 (by decide) ⟨zq_lt (by decide), by decide⟩ rfl (by simp [Value.category]) (by simp [lg_sl, Value.category]) (zt_rcv zc_0) (zt_dm (by decide) (S_C_unseen hca1)) ?_
    refine zt_i2l zy_337 (show q_ins q_k337 7 = some (.i2l, 0, 0) from rfl) ?_
    obtain ⟨s3, hs3, h⟩ := zt_letE h
    refine zt_lst zy_337 (show q_ins q_k337 8 = some (.lastore, 0, 0) from rfl) za_184 (by decide) (by decide) ?_
    rw [← hs3]
    refine zt_goto zy_337 (show q_ins q_k337 9 = some (.goto 6, 15, 0) from rfl) ?_
    refine zt_iconst zy_337 (show q_ins q_k337 15 = some (.iconst 0, 0, 0) from rfl) ?_
    cases h
    exact zt_iret zy_337 (show q_ins q_k337 16 = some (.ireturn, 0, 0) from rfl)
  · skip
    by_cases hE0 : E = 0
    · rw [if_pos hE0] at h
      subst hE0
      refine zt_callVH (d := 1) zy_337 (show q_ins q_k337 4 = some (.invokevirtual 77, 144, 1) from rfl) zy_144 (by decide) ⟨zq_lt (by decide), by decide⟩ rfl (by simp [Value.category]) (by simp [lg_sl, Value.category]) (zt_rcv zc_0) (zt_dm (by decide) (S_C_unseen hca1)) (hp := 12) (k := 3) (n := 1) rfl rfl (by decide) ?_
      refine zt_iconst zy_337 (show q_ins q_k337 13 = some (.iconst 1, 0, 0) from rfl) ?_
      cases h
      exact zt_iret zy_337 (show q_ins q_k337 14 = some (.ireturn, 0, 0) from rfl)
    rw [if_neg hE0] at h
    cases h
theorem S_L_isMaster_15 {X : q_X}   : ∀ (x0 : Int64) (x1 : Int) (σ : zt_S) (o : (Int × zt_S)), F_L_isMaster_15  x0 x1 σ = some o → zt_Ex X 4 338 15 [] [.long x0, .int (Int32.ofInt x1), .ref 184] (zt_M σ) (zo_I o) := by
  intro x0 x1 σ o  h
  unfold F_L_isMaster_15 at h
  obtain ⟨hg, h⟩ := zt_ckE h
  obtain ⟨s3, hs3, h⟩ := zt_letE h
  refine zt_lst zy_338 (show q_ins q_k338 15 = some (.lastore, 0, 0) from rfl) za_184 (by decide) hg ?_
  rw [← hs3]
  refine zt_goto zy_338 (show q_ins q_k338 16 = some (.goto 6, 22, 0) from rfl) ?_
  refine zt_iconst zy_338 (show q_ins q_k338 22 = some (.iconst 0, 0, 0) from rfl) ?_
  cases h
  exact zt_iret zy_338 (show q_ins q_k338 23 = some (.ireturn, 0, 0) from rfl)
theorem S_L_isMaster {X : q_X}   {v1 : Int} {σ : zt_S} {o : (Int × zt_S)} (h : F_L_isMaster  v1 σ = some o) : zt_Ex X 4 338 0 (lv_args 0 [.ref 0, .int (Int32.ofInt v1), .ref 184]) [] (zt_M σ) (zo_I o) := by
  unfold F_L_isMaster at h
  refine zt_aload_n zy_338 (show q_ins q_k338 0 = some (.aload_n 2, 0, 0) from rfl) (v := 184) rfl ?_
  refine zt_iconst zy_338 (show q_ins q_k338 1 = some (.iconst 0, 0, 0) from rfl) ?_
  refine zt_aload_n zy_338 (show q_ins q_k338 2 = some (.aload_n 0, 0, 0) from rfl) (v := 0) rfl ?_
  refine zt_iload_n zy_338 (show q_ins q_k338 3 = some (.iload_n 1, 0, 0) from rfl) (v := Int32.ofInt v1) rfl ?_
  rcases zt_bxE h with ⟨a1, s2, hca1, h⟩ | ⟨E, s2, hca1, h⟩
  · refine zt_callV (d := 3) zy_338 (show q_ins q_k338 4 = some (.invokevirtual 80, 145, 1) from rfl) zy_145 (by decide) ⟨zq_lt (by decide), by decide⟩ rfl (by simp [Value.category]) (by simp [lg_sl, Value.category]) (zt_rcv zc_0) (zt_dm (by decide) (S_C_isMaster hca1)) ?_
    obtain ⟨hg, h⟩ := zt_ckE h
    refine zt_if_eq zy_338 (show q_ins q_k338 7 = some (.ifCond .eq 7, 14, 0) from rfl) (hg) (fun hc => ?_) (fun hc => ?_)
    · rw [if_pos hc] at h
      refine zt_lconst zy_338 (show q_ins q_k338 14 = some (.lconst 0, 0, 0) from rfl) (v := (0 : Int64)) (by decide) ?_
      exact zt_wk (zt_cov_nil) (S_L_isMaster_15  _ _ _ _ h)
    · rw [if_neg hc] at h
      refine zt_lconst zy_338 (show q_ins q_k338 10 = some (.lconst 1, 0, 0) from rfl) (v := (1 : Int64)) (by decide) ?_
      refine zt_goto zy_338 (show q_ins q_k338 11 = some (.goto 4, 15, 0) from rfl) ?_
      exact zt_wk (zt_cov_nil) (S_L_isMaster_15  _ _ _ _ h)
  · skip
    by_cases hE0 : E = 0
    · rw [if_pos hE0] at h
      subst hE0
      refine zt_callVH (d := 3) zy_338 (show q_ins q_k338 4 = some (.invokevirtual 80, 145, 1) from rfl) zy_145 (by decide) ⟨zq_lt (by decide), by decide⟩ rfl (by simp [Value.category]) (by simp [lg_sl, Value.category]) (zt_rcv zc_0) (zt_dm (by decide) (S_C_isMaster hca1)) (hp := 19) (k := 3) (n := 1) rfl rfl (by decide) ?_
      refine zt_iconst zy_338 (show q_ins q_k338 20 = some (.iconst 1, 0, 0) from rfl) ?_
      cases h
      exact zt_iret zy_338 (show q_ins q_k338 21 = some (.ireturn, 0, 0) from rfl)
    rw [if_neg hE0] at h
    cases h
theorem S_L_masters {X : q_X}   {v1 : Int} {σ : zt_S} {o : (Int × zt_S)} (h : F_L_masters  v1 σ = some o) : zt_Ex X 4 339 0 (lv_args 0 [.ref 0, .int (Int32.ofInt v1), .ref 184]) [] (zt_M σ) (zo_I o) := by
  unfold F_L_masters at h
  refine zt_aload_n zy_339 (show q_ins q_k339 0 = some (.aload_n 2, 0, 0) from rfl) (v := 184) rfl ?_
  refine zt_iconst zy_339 (show q_ins q_k339 1 = some (.iconst 0, 0, 0) from rfl) ?_
  refine zt_aload_n zy_339 (show q_ins q_k339 2 = some (.aload_n 0, 0, 0) from rfl) (v := 0) rfl ?_
  refine zt_iload_n zy_339 (show q_ins q_k339 3 = some (.iload_n 1, 0, 0) from rfl) (v := Int32.ofInt v1) rfl ?_
  rcases zt_bxE h with ⟨a1, s2, hca1, h⟩ | ⟨E, s2, hca1, h⟩
  · refine zt_callV (d := 3) zy_339 (show q_ins q_k339 4 = some (.invokevirtual 83, 146, 1) from rfl) zy_146 (by decide) ⟨zq_lt (by decide), by decide⟩ rfl (by simp [Value.category]) (by simp [lg_sl, Value.category]) (zt_rcv zc_0) (zt_dm (by decide) (S_C_masters hca1)) ?_
    refine zt_i2l zy_339 (show q_ins q_k339 7 = some (.i2l, 0, 0) from rfl) ?_
    obtain ⟨s3, hs3, h⟩ := zt_letE h
    refine zt_lst zy_339 (show q_ins q_k339 8 = some (.lastore, 0, 0) from rfl) za_184 (by decide) (by decide) ?_
    rw [← hs3]
    refine zt_goto zy_339 (show q_ins q_k339 9 = some (.goto 6, 15, 0) from rfl) ?_
    refine zt_iconst zy_339 (show q_ins q_k339 15 = some (.iconst 0, 0, 0) from rfl) ?_
    cases h
    exact zt_iret zy_339 (show q_ins q_k339 16 = some (.ireturn, 0, 0) from rfl)
  · skip
    by_cases hE0 : E = 0
    · rw [if_pos hE0] at h
      subst hE0
      refine zt_callVH (d := 3) zy_339 (show q_ins q_k339 4 = some (.invokevirtual 83, 146, 1) from rfl) zy_146 (by decide) ⟨zq_lt (by decide), by decide⟩ rfl (by simp [Value.category]) (by simp [lg_sl, Value.category]) (zt_rcv zc_0) (zt_dm (by decide) (S_C_masters hca1)) (hp := 12) (k := 3) (n := 1) rfl rfl (by decide) ?_
      refine zt_iconst zy_339 (show q_ins q_k339 13 = some (.iconst 1, 0, 0) from rfl) ?_
      cases h
      exact zt_iret zy_339 (show q_ins q_k339 14 = some (.ireturn, 0, 0) from rfl)
    rw [if_neg hE0] at h
    cases h
theorem S_L_meanRank {X : q_X}   {v1 : Int} {σ : zt_S} {o : (Int × zt_S)} (h : F_L_meanRank  v1 σ = some o) : zt_Ex X 2 340 0 (lv_args 0 [.ref 0, .int (Int32.ofInt v1), .ref 185]) [] (zt_M σ) (zo_I o) := by
  unfold F_L_meanRank at h
  refine zt_aload_n zy_340 (show q_ins q_k340 0 = some (.aload_n 2, 0, 0) from rfl) (v := 185) rfl ?_
  refine zt_iconst zy_340 (show q_ins q_k340 1 = some (.iconst 0, 0, 0) from rfl) ?_
  refine zt_aload_n zy_340 (show q_ins q_k340 2 = some (.aload_n 0, 0, 0) from rfl) (v := 0) rfl ?_
  refine zt_iload_n zy_340 (show q_ins q_k340 3 = some (.iload_n 1, 0, 0) from rfl) (v := Int32.ofInt v1) rfl ?_
  rcases zt_bxE h with ⟨a1, s2, hca1, h⟩ | ⟨E, s2, hca1, h⟩
  · refine zt_callV (d := 1) zy_340 (show q_ins q_k340 4 = some (.invokevirtual 86, 150, 1) from rfl) zy_150 (by decide) ⟨zq_lt (by decide), by decide⟩ rfl (by simp [Value.category]) (by simp [lg_sl, Value.category]) (zt_rcv zc_0) (zt_dm (by decide) (S_C_meanRank hca1)) ?_
    obtain ⟨s3, hs3, h⟩ := zt_letE h
    refine zt_dst zy_340 (show q_ins q_k340 7 = some (.dastore, 0, 0) from rfl) za_185 (by decide) (by decide) ?_
    rw [← hs3]
    refine zt_goto zy_340 (show q_ins q_k340 8 = some (.goto 6, 14, 0) from rfl) ?_
    refine zt_iconst zy_340 (show q_ins q_k340 14 = some (.iconst 0, 0, 0) from rfl) ?_
    cases h
    exact zt_iret zy_340 (show q_ins q_k340 15 = some (.ireturn, 0, 0) from rfl)
  · skip
    by_cases hE0 : E = 0
    · rw [if_pos hE0] at h
      subst hE0
      refine zt_callVH (d := 1) zy_340 (show q_ins q_k340 4 = some (.invokevirtual 86, 150, 1) from rfl) zy_150 (by decide) ⟨zq_lt (by decide), by decide⟩ rfl (by simp [Value.category]) (by simp [lg_sl, Value.category]) (zt_rcv zc_0) (zt_dm (by decide) (S_C_meanRank hca1)) (hp := 11) (k := 3) (n := 1) rfl rfl (by decide) ?_
      refine zt_iconst zy_340 (show q_ins q_k340 12 = some (.iconst 1, 0, 0) from rfl) ?_
      cases h
      exact zt_iret zy_340 (show q_ins q_k340 13 = some (.ireturn, 0, 0) from rfl)
    rw [if_neg hE0] at h
    cases h
theorem S_L_share {X : q_X}   {v1 : Int} {σ : zt_S} {o : (Int × zt_S)} (h : F_L_share  v1 σ = some o) : zt_Ex X 2 341 0 (lv_args 0 [.ref 0, .int (Int32.ofInt v1), .ref 185]) [] (zt_M σ) (zo_I o) := by
  unfold F_L_share at h
  refine zt_aload_n zy_341 (show q_ins q_k341 0 = some (.aload_n 2, 0, 0) from rfl) (v := 185) rfl ?_
  refine zt_iconst zy_341 (show q_ins q_k341 1 = some (.iconst 0, 0, 0) from rfl) ?_
  refine zt_aload_n zy_341 (show q_ins q_k341 2 = some (.aload_n 0, 0, 0) from rfl) (v := 0) rfl ?_
  refine zt_iload_n zy_341 (show q_ins q_k341 3 = some (.iload_n 1, 0, 0) from rfl) (v := Int32.ofInt v1) rfl ?_
  rcases zt_bxE h with ⟨a1, s2, hca1, h⟩ | ⟨E, s2, hca1, h⟩
  · refine zt_callV (d := 1) zy_341 (show q_ins q_k341 4 = some (.invokevirtual 90, 151, 1) from rfl) zy_151 (by decide) ⟨zq_lt (by decide), by decide⟩ rfl (by simp [Value.category]) (by simp [lg_sl, Value.category]) (zt_rcv zc_0) (zt_dm (by decide) (S_C_share hca1)) ?_
    obtain ⟨hg, h⟩ := zt_ckE h
    refine zt_f2d zy_341 (show q_ins q_k341 7 = some (.f2d, 0, 0) from rfl) hg ?_
    obtain ⟨s3, hs3, h⟩ := zt_letE h
    refine zt_dst zy_341 (show q_ins q_k341 8 = some (.dastore, 0, 0) from rfl) za_185 (by decide) (by decide) ?_
    rw [← hs3]
    refine zt_goto zy_341 (show q_ins q_k341 9 = some (.goto 6, 15, 0) from rfl) ?_
    refine zt_iconst zy_341 (show q_ins q_k341 15 = some (.iconst 0, 0, 0) from rfl) ?_
    cases h
    exact zt_iret zy_341 (show q_ins q_k341 16 = some (.ireturn, 0, 0) from rfl)
  · skip
    by_cases hE0 : E = 0
    · rw [if_pos hE0] at h
      subst hE0
      refine zt_callVH (d := 1) zy_341 (show q_ins q_k341 4 = some (.invokevirtual 90, 151, 1) from rfl) zy_151 (by decide) ⟨zq_lt (by decide), by decide⟩ rfl (by simp [Value.category]) (by simp [lg_sl, Value.category]) (zt_rcv zc_0) (zt_dm (by decide) (S_C_share hca1)) (hp := 12) (k := 3) (n := 1) rfl rfl (by decide) ?_
      refine zt_iconst zy_341 (show q_ins q_k341 13 = some (.iconst 1, 0, 0) from rfl) ?_
      cases h
      exact zt_iret zy_341 (show q_ins q_k341 14 = some (.ireturn, 0, 0) from rfl)
    rw [if_neg hE0] at h
    cases h
theorem S_L_play {X : q_X}   {v1 : Int} {σ : zt_S} {o : (Int × zt_S)} (h : F_L_play  v1 σ = some o) : zt_Ex X 6 342 0 (lv_args 0 [.ref 0, .int (Int32.ofInt v1), .ref 184]) [] (zt_M σ) (zo_I o) := by
  unfold F_L_play at h
  refine zt_aload_n zy_342 (show q_ins q_k342 0 = some (.aload_n 2, 0, 0) from rfl) (v := 184) rfl ?_
  refine zt_iconst zy_342 (show q_ins q_k342 1 = some (.iconst 0, 0, 0) from rfl) ?_
  refine zt_aload_n zy_342 (show q_ins q_k342 2 = some (.aload_n 0, 0, 0) from rfl) (v := 0) rfl ?_
  refine zt_iload_n zy_342 (show q_ins q_k342 3 = some (.iload_n 1, 0, 0) from rfl) (v := Int32.ofInt v1) rfl ?_
  rcases zt_bxE h with ⟨a1, s2, hca1, h⟩ | ⟨E, s2, hca1, h⟩
  · refine zt_callV (d := 5) zy_342 (show q_ins q_k342 4 = some (.invokevirtual 94, 152, 1) from rfl) zy_152 (by decide) ⟨zq_lt (by decide), by decide⟩ rfl (by simp [Value.category]) (by simp [lg_sl, Value.category]) (zt_rcv zc_0) (zt_dm (by decide) (S_C_play hca1)) ?_
    refine zt_i2l zy_342 (show q_ins q_k342 7 = some (.i2l, 0, 0) from rfl) ?_
    obtain ⟨s3, hs3, h⟩ := zt_letE h
    refine zt_lst zy_342 (show q_ins q_k342 8 = some (.lastore, 0, 0) from rfl) za_184 (by decide) (by decide) ?_
    rw [← hs3]
    refine zt_goto zy_342 (show q_ins q_k342 9 = some (.goto 6, 15, 0) from rfl) ?_
    refine zt_iconst zy_342 (show q_ins q_k342 15 = some (.iconst 0, 0, 0) from rfl) ?_
    cases h
    exact zt_iret zy_342 (show q_ins q_k342 16 = some (.ireturn, 0, 0) from rfl)
  · skip
    by_cases hE0 : E = 0
    · rw [if_pos hE0] at h
      subst hE0
      refine zt_callVH (d := 5) zy_342 (show q_ins q_k342 4 = some (.invokevirtual 94, 152, 1) from rfl) zy_152 (by decide) ⟨zq_lt (by decide), by decide⟩ rfl (by simp [Value.category]) (by simp [lg_sl, Value.category]) (zt_rcv zc_0) (zt_dm (by decide) (S_C_play hca1)) (hp := 12) (k := 3) (n := 1) rfl rfl (by decide) ?_
      refine zt_iconst zy_342 (show q_ins q_k342 13 = some (.iconst 1, 0, 0) from rfl) ?_
      cases h
      exact zt_iret zy_342 (show q_ins q_k342 14 = some (.ireturn, 0, 0) from rfl)
    rw [if_neg hE0] at h
    cases h
theorem S_L_auto {X : q_X}   {v1 : Int} {σ : zt_S} {o : (Int × zt_S)} (h : F_L_auto  v1 σ = some o) : zt_Ex X 6 343 0 (lv_args 0 [.ref 0, .int (Int32.ofInt v1), .ref 184]) [] (zt_M σ) (zo_I o) := by
  unfold F_L_auto at h
  refine zt_aload_n zy_343 (show q_ins q_k343 0 = some (.aload_n 2, 0, 0) from rfl) (v := 184) rfl ?_
  refine zt_iconst zy_343 (show q_ins q_k343 1 = some (.iconst 0, 0, 0) from rfl) ?_
  refine zt_aload_n zy_343 (show q_ins q_k343 2 = some (.aload_n 0, 0, 0) from rfl) (v := 0) rfl ?_
  refine zt_iload_n zy_343 (show q_ins q_k343 3 = some (.iload_n 1, 0, 0) from rfl) (v := Int32.ofInt v1) rfl ?_
  rcases zt_bxE h with ⟨a1, s2, hca1, h⟩ | ⟨E, s2, hca1, h⟩
  · refine zt_callV (d := 5) zy_343 (show q_ins q_k343 4 = some (.invokevirtual 97, 153, 1) from rfl) zy_153 (by decide) ⟨zq_lt (by decide), by decide⟩ rfl (by simp [Value.category]) (by simp [lg_sl, Value.category]) (zt_rcv zc_0) (zt_dm (by decide) (S_C_auto hca1)) ?_
    refine zt_i2l zy_343 (show q_ins q_k343 7 = some (.i2l, 0, 0) from rfl) ?_
    obtain ⟨s3, hs3, h⟩ := zt_letE h
    refine zt_lst zy_343 (show q_ins q_k343 8 = some (.lastore, 0, 0) from rfl) za_184 (by decide) (by decide) ?_
    rw [← hs3]
    refine zt_goto zy_343 (show q_ins q_k343 9 = some (.goto 6, 15, 0) from rfl) ?_
    refine zt_iconst zy_343 (show q_ins q_k343 15 = some (.iconst 0, 0, 0) from rfl) ?_
    cases h
    exact zt_iret zy_343 (show q_ins q_k343 16 = some (.ireturn, 0, 0) from rfl)
  · skip
    by_cases hE1 : E = 1
    · rw [if_pos hE1] at h
      subst hE1
      refine zt_callVH (d := 5) zy_343 (show q_ins q_k343 4 = some (.invokevirtual 97, 153, 1) from rfl) zy_153 (by decide) ⟨zq_lt (by decide), by decide⟩ rfl (by simp [Value.category]) (by simp [lg_sl, Value.category]) (zt_rcv zc_0) (zt_dm (by decide) (S_C_auto hca1)) (hp := 12) (k := 3) (n := 1) rfl rfl (by decide) ?_
      refine zt_iconst zy_343 (show q_ins q_k343 13 = some (.iconst 1, 0, 0) from rfl) ?_
      cases h
      exact zt_iret zy_343 (show q_ins q_k343 14 = some (.ireturn, 0, 0) from rfl)
    rw [if_neg hE1] at h
    cases h
theorem S_L_tell {X : q_X}   {v1 : Int} {v2 : Int} {σ : zt_S} {o : (Int × zt_S)} (h : F_L_tell  v1 v2 σ = some o) : zt_Ex X 4 344 0 (lv_args 0 [.ref 0, .int (Int32.ofInt v1), .int (Int32.ofInt v2), .ref 184]) [] (zt_M σ) (zo_I o) := by
  unfold F_L_tell at h
  refine zt_aload_n zy_344 (show q_ins q_k344 0 = some (.aload_n 3, 0, 0) from rfl) (v := 184) rfl ?_
  refine zt_iconst zy_344 (show q_ins q_k344 1 = some (.iconst 0, 0, 0) from rfl) ?_
  refine zt_aload_n zy_344 (show q_ins q_k344 2 = some (.aload_n 0, 0, 0) from rfl) (v := 0) rfl ?_
  refine zt_iload_n zy_344 (show q_ins q_k344 3 = some (.iload_n 1, 0, 0) from rfl) (v := Int32.ofInt v1) rfl ?_
  refine zt_iload_n zy_344 (show q_ins q_k344 4 = some (.iload_n 2, 0, 0) from rfl) (v := Int32.ofInt v2) rfl ?_
  rcases zt_bxE h with ⟨a1, s2, hca1, h⟩ | ⟨E, s2, hca1, h⟩
  · refine zt_callV (d := 3) zy_344 (show q_ins q_k344 5 = some (.invokevirtual 100, 154, 2) from rfl) zy_154 (by decide) ⟨zq_lt (by decide), by decide⟩ rfl (by simp [Value.category]) (by simp [lg_sl, Value.category]) (zt_rcv zc_0) (zt_dm (by decide) (S_C_tell hca1)) ?_
    refine zt_i2l zy_344 (show q_ins q_k344 8 = some (.i2l, 0, 0) from rfl) ?_
    obtain ⟨s3, hs3, h⟩ := zt_letE h
    refine zt_lst zy_344 (show q_ins q_k344 9 = some (.lastore, 0, 0) from rfl) za_184 (by decide) (by decide) ?_
    rw [← hs3]
    refine zt_goto zy_344 (show q_ins q_k344 10 = some (.goto 11, 21, 0) from rfl) ?_
    refine zt_iconst zy_344 (show q_ins q_k344 21 = some (.iconst 0, 0, 0) from rfl) ?_
    cases h
    exact zt_iret zy_344 (show q_ins q_k344 22 = some (.ireturn, 0, 0) from rfl)
  · skip
    by_cases hE0 : E = 0
    · rw [if_pos hE0] at h
      subst hE0
      refine zt_callVH (d := 3) zy_344 (show q_ins q_k344 5 = some (.invokevirtual 100, 154, 2) from rfl) zy_154 (by decide) ⟨zq_lt (by decide), by decide⟩ rfl (by simp [Value.category]) (by simp [lg_sl, Value.category]) (zt_rcv zc_0) (zt_dm (by decide) (S_C_tell hca1)) (hp := 13) (k := 4) (n := 2) rfl rfl (by decide) ?_
      refine zt_iconst zy_344 (show q_ins q_k344 15 = some (.iconst 1, 0, 0) from rfl) ?_
      cases h
      exact zt_iret zy_344 (show q_ins q_k344 16 = some (.ireturn, 0, 0) from rfl)
    rw [if_neg hE0] at h
    by_cases hE1 : E = 1
    · rw [if_pos hE1] at h
      subst hE1
      refine zt_callVH (d := 3) zy_344 (show q_ins q_k344 5 = some (.invokevirtual 100, 154, 2) from rfl) zy_154 (by decide) ⟨zq_lt (by decide), by decide⟩ rfl (by simp [Value.category]) (by simp [lg_sl, Value.category]) (zt_rcv zc_0) (zt_dm (by decide) (S_C_tell hca1)) (hp := 17) (k := 4) (n := 2) rfl rfl (by decide) ?_
      refine zt_iconst zy_344 (show q_ins q_k344 19 = some (.iconst 2, 0, 0) from rfl) ?_
      cases h
      exact zt_iret zy_344 (show q_ins q_k344 20 = some (.ireturn, 0, 0) from rfl)
    rw [if_neg hE1] at h
    cases h
theorem S_L_deal {X : q_X}   {v1 : Int} {σ : zt_S} {o : (Int × zt_S)} (h : F_L_deal  v1 σ = some o) : zt_Ex X 5 345 0 (lv_args 0 [.ref 0, .int (Int32.ofInt v1), .ref 184]) [] (zt_M σ) (zo_I o) := by
  unfold F_L_deal at h
  refine zt_aload_n zy_345 (show q_ins q_k345 0 = some (.aload_n 2, 0, 0) from rfl) (v := 184) rfl ?_
  refine zt_iconst zy_345 (show q_ins q_k345 1 = some (.iconst 0, 0, 0) from rfl) ?_
  refine zt_aload_n zy_345 (show q_ins q_k345 2 = some (.aload_n 0, 0, 0) from rfl) (v := 0) rfl ?_
  refine zt_iload_n zy_345 (show q_ins q_k345 3 = some (.iload_n 1, 0, 0) from rfl) (v := Int32.ofInt v1) rfl ?_
  rcases zt_bxE h with ⟨a1, s2, hca1, h⟩ | ⟨E, s2, hca1, h⟩
  · refine zt_callV (d := 4) zy_345 (show q_ins q_k345 4 = some (.invokevirtual 103, 155, 1) from rfl) zy_155 (by decide) ⟨zq_lt (by decide), by decide⟩ rfl (by simp [Value.category]) (by simp [lg_sl, Value.category]) (zt_rcv zc_0) (zt_dm (by decide) (S_C_deal hca1)) ?_
    refine zt_i2l zy_345 (show q_ins q_k345 7 = some (.i2l, 0, 0) from rfl) ?_
    obtain ⟨s3, hs3, h⟩ := zt_letE h
    refine zt_lst zy_345 (show q_ins q_k345 8 = some (.lastore, 0, 0) from rfl) za_184 (by decide) (by decide) ?_
    rw [← hs3]
    refine zt_goto zy_345 (show q_ins q_k345 9 = some (.goto 6, 15, 0) from rfl) ?_
    refine zt_iconst zy_345 (show q_ins q_k345 15 = some (.iconst 0, 0, 0) from rfl) ?_
    cases h
    exact zt_iret zy_345 (show q_ins q_k345 16 = some (.ireturn, 0, 0) from rfl)
  · skip
    by_cases hE1 : E = 1
    · rw [if_pos hE1] at h
      subst hE1
      refine zt_callVH (d := 4) zy_345 (show q_ins q_k345 4 = some (.invokevirtual 103, 155, 1) from rfl) zy_155 (by decide) ⟨zq_lt (by decide), by decide⟩ rfl (by simp [Value.category]) (by simp [lg_sl, Value.category]) (zt_rcv zc_0) (zt_dm (by decide) (S_C_deal hca1)) (hp := 12) (k := 3) (n := 1) rfl rfl (by decide) ?_
      refine zt_iconst zy_345 (show q_ins q_k345 13 = some (.iconst 1, 0, 0) from rfl) ?_
      cases h
      exact zt_iret zy_345 (show q_ins q_k345 14 = some (.ireturn, 0, 0) from rfl)
    rw [if_neg hE1] at h
    cases h
theorem S_L_setTrump {X : q_X}   {v1 : Int} {σ : zt_S} {o : (Int × zt_S)} (h : F_L_setTrump  v1 σ = some o) : zt_Ex X 4 346 0 (lv_args 0 [.ref 0, .int (Int32.ofInt v1), .ref 184]) [] (zt_M σ) (zo_I o) := by
  unfold F_L_setTrump at h
  refine zt_aload_n zy_346 (show q_ins q_k346 0 = some (.aload_n 2, 0, 0) from rfl) (v := 184) rfl ?_
  refine zt_iconst zy_346 (show q_ins q_k346 1 = some (.iconst 0, 0, 0) from rfl) ?_
  refine zt_aload_n zy_346 (show q_ins q_k346 2 = some (.aload_n 0, 0, 0) from rfl) (v := 0) rfl ?_
  refine zt_iload_n zy_346 (show q_ins q_k346 3 = some (.iload_n 1, 0, 0) from rfl) (v := Int32.ofInt v1) rfl ?_
  rcases zt_bxE h with ⟨a1, s2, hca1, h⟩ | ⟨E, s2, hca1, h⟩
  · refine zt_callV (d := 3) zy_346 (show q_ins q_k346 4 = some (.invokevirtual 106, 156, 1) from rfl) zy_156 (by decide) ⟨zq_lt (by decide), by decide⟩ rfl (by simp [Value.category]) (by simp [lg_sl, Value.category]) (zt_rcv zc_0) (zt_dm (by decide) (S_C_setTrump hca1)) ?_
    refine zt_i2l zy_346 (show q_ins q_k346 7 = some (.i2l, 0, 0) from rfl) ?_
    obtain ⟨s3, hs3, h⟩ := zt_letE h
    refine zt_lst zy_346 (show q_ins q_k346 8 = some (.lastore, 0, 0) from rfl) za_184 (by decide) (by decide) ?_
    rw [← hs3]
    refine zt_goto zy_346 (show q_ins q_k346 9 = some (.goto 6, 15, 0) from rfl) ?_
    refine zt_iconst zy_346 (show q_ins q_k346 15 = some (.iconst 0, 0, 0) from rfl) ?_
    cases h
    exact zt_iret zy_346 (show q_ins q_k346 16 = some (.ireturn, 0, 0) from rfl)
  · skip
    by_cases hE1 : E = 1
    · rw [if_pos hE1] at h
      subst hE1
      refine zt_callVH (d := 3) zy_346 (show q_ins q_k346 4 = some (.invokevirtual 106, 156, 1) from rfl) zy_156 (by decide) ⟨zq_lt (by decide), by decide⟩ rfl (by simp [Value.category]) (by simp [lg_sl, Value.category]) (zt_rcv zc_0) (zt_dm (by decide) (S_C_setTrump hca1)) (hp := 12) (k := 3) (n := 1) rfl rfl (by decide) ?_
      refine zt_iconst zy_346 (show q_ins q_k346 13 = some (.iconst 1, 0, 0) from rfl) ?_
      cases h
      exact zt_iret zy_346 (show q_ins q_k346 14 = some (.ireturn, 0, 0) from rfl)
    rw [if_neg hE1] at h
    cases h
theorem S_L_setRule {X : q_X}   {v1 : Int} {σ : zt_S} {o : (Int × zt_S)} (h : F_L_setRule  v1 σ = some o) : zt_Ex X 4 347 0 (lv_args 0 [.ref 0, .int (Int32.ofInt v1), .ref 184]) [] (zt_M σ) (zo_I o) := by
  unfold F_L_setRule at h
  refine zt_aload_n zy_347 (show q_ins q_k347 0 = some (.aload_n 2, 0, 0) from rfl) (v := 184) rfl ?_
  refine zt_iconst zy_347 (show q_ins q_k347 1 = some (.iconst 0, 0, 0) from rfl) ?_
  refine zt_aload_n zy_347 (show q_ins q_k347 2 = some (.aload_n 0, 0, 0) from rfl) (v := 0) rfl ?_
  refine zt_iload_n zy_347 (show q_ins q_k347 3 = some (.iload_n 1, 0, 0) from rfl) (v := Int32.ofInt v1) rfl ?_
  rcases zt_bxE h with ⟨a1, s2, hca1, h⟩ | ⟨E, s2, hca1, h⟩
  · refine zt_callV (d := 3) zy_347 (show q_ins q_k347 4 = some (.invokevirtual 109, 157, 1) from rfl) zy_157 (by decide) ⟨zq_lt (by decide), by decide⟩ rfl (by simp [Value.category]) (by simp [lg_sl, Value.category]) (zt_rcv zc_0) (zt_dm (by decide) (S_C_setRule hca1)) ?_
    refine zt_i2l zy_347 (show q_ins q_k347 7 = some (.i2l, 0, 0) from rfl) ?_
    obtain ⟨s3, hs3, h⟩ := zt_letE h
    refine zt_lst zy_347 (show q_ins q_k347 8 = some (.lastore, 0, 0) from rfl) za_184 (by decide) (by decide) ?_
    rw [← hs3]
    refine zt_goto zy_347 (show q_ins q_k347 9 = some (.goto 6, 15, 0) from rfl) ?_
    refine zt_iconst zy_347 (show q_ins q_k347 15 = some (.iconst 0, 0, 0) from rfl) ?_
    cases h
    exact zt_iret zy_347 (show q_ins q_k347 16 = some (.ireturn, 0, 0) from rfl)
  · skip
    by_cases hE1 : E = 1
    · rw [if_pos hE1] at h
      subst hE1
      refine zt_callVH (d := 3) zy_347 (show q_ins q_k347 4 = some (.invokevirtual 109, 157, 1) from rfl) zy_157 (by decide) ⟨zq_lt (by decide), by decide⟩ rfl (by simp [Value.category]) (by simp [lg_sl, Value.category]) (zt_rcv zc_0) (zt_dm (by decide) (S_C_setRule hca1)) (hp := 12) (k := 3) (n := 1) rfl rfl (by decide) ?_
      refine zt_iconst zy_347 (show q_ins q_k347 13 = some (.iconst 1, 0, 0) from rfl) ?_
      cases h
      exact zt_iret zy_347 (show q_ins q_k347 14 = some (.ireturn, 0, 0) from rfl)
    rw [if_neg hE1] at h
    cases h
theorem S_L_setFade {X : q_X}   {v1 : Int} {σ : zt_S} {o : (Int × zt_S)} (h : F_L_setFade  v1 σ = some o) : zt_Ex X 4 348 0 (lv_args 0 [.ref 0, .int (Int32.ofInt v1), .ref 184]) [] (zt_M σ) (zo_I o) := by
  unfold F_L_setFade at h
  refine zt_aload_n zy_348 (show q_ins q_k348 0 = some (.aload_n 2, 0, 0) from rfl) (v := 184) rfl ?_
  refine zt_iconst zy_348 (show q_ins q_k348 1 = some (.iconst 0, 0, 0) from rfl) ?_
  refine zt_aload_n zy_348 (show q_ins q_k348 2 = some (.aload_n 0, 0, 0) from rfl) (v := 0) rfl ?_
  refine zt_iload_n zy_348 (show q_ins q_k348 3 = some (.iload_n 1, 0, 0) from rfl) (v := Int32.ofInt v1) rfl ?_
  rcases zt_bxE h with ⟨a1, s2, hca1, h⟩ | ⟨E, s2, hca1, h⟩
  · refine zt_callV (d := 3) zy_348 (show q_ins q_k348 4 = some (.invokevirtual 112, 158, 1) from rfl) zy_158 (by decide) ⟨zq_lt (by decide), by decide⟩ rfl (by simp [Value.category]) (by simp [lg_sl, Value.category]) (zt_rcv zc_0) (zt_dm (by decide) (S_C_setFade hca1)) ?_
    refine zt_i2l zy_348 (show q_ins q_k348 7 = some (.i2l, 0, 0) from rfl) ?_
    obtain ⟨s3, hs3, h⟩ := zt_letE h
    refine zt_lst zy_348 (show q_ins q_k348 8 = some (.lastore, 0, 0) from rfl) za_184 (by decide) (by decide) ?_
    rw [← hs3]
    refine zt_goto zy_348 (show q_ins q_k348 9 = some (.goto 6, 15, 0) from rfl) ?_
    refine zt_iconst zy_348 (show q_ins q_k348 15 = some (.iconst 0, 0, 0) from rfl) ?_
    cases h
    exact zt_iret zy_348 (show q_ins q_k348 16 = some (.ireturn, 0, 0) from rfl)
  · skip
    by_cases hE1 : E = 1
    · rw [if_pos hE1] at h
      subst hE1
      refine zt_callVH (d := 3) zy_348 (show q_ins q_k348 4 = some (.invokevirtual 112, 158, 1) from rfl) zy_158 (by decide) ⟨zq_lt (by decide), by decide⟩ rfl (by simp [Value.category]) (by simp [lg_sl, Value.category]) (zt_rcv zc_0) (zt_dm (by decide) (S_C_setFade hca1)) (hp := 12) (k := 3) (n := 1) rfl rfl (by decide) ?_
      refine zt_iconst zy_348 (show q_ins q_k348 13 = some (.iconst 1, 0, 0) from rfl) ?_
      cases h
      exact zt_iret zy_348 (show q_ins q_k348 14 = some (.ireturn, 0, 0) from rfl)
    rw [if_neg hE1] at h
    cases h
theorem S_L_format {X : q_X}   {v1 : Int} {σ : zt_S} {o : (Int × zt_S)} (h : F_L_format  v1 σ = some o) : zt_Ex X 4 349 0 (lv_args 0 [.ref 0, .int (Int32.ofInt v1), .ref 184]) [] (zt_M σ) (zo_I o) := by
  unfold F_L_format at h
  refine zt_aload_n zy_349 (show q_ins q_k349 0 = some (.aload_n 2, 0, 0) from rfl) (v := 184) rfl ?_
  refine zt_iconst zy_349 (show q_ins q_k349 1 = some (.iconst 0, 0, 0) from rfl) ?_
  refine zt_aload_n zy_349 (show q_ins q_k349 2 = some (.aload_n 0, 0, 0) from rfl) (v := 0) rfl ?_
  refine zt_iload_n zy_349 (show q_ins q_k349 3 = some (.iload_n 1, 0, 0) from rfl) (v := Int32.ofInt v1) rfl ?_
  rcases zt_bxE h with ⟨a1, s2, hca1, h⟩ | ⟨E, s2, hca1, h⟩
  · refine zt_callV (d := 3) zy_349 (show q_ins q_k349 4 = some (.invokevirtual 115, 160, 1) from rfl) zy_160 (by decide) ⟨zq_lt (by decide), by decide⟩ rfl (by simp [Value.category]) (by simp [lg_sl, Value.category]) (zt_rcv zc_0) (zt_dm (by decide) (S_C_format hca1)) ?_
    refine zt_i2l zy_349 (show q_ins q_k349 7 = some (.i2l, 0, 0) from rfl) ?_
    obtain ⟨s3, hs3, h⟩ := zt_letE h
    refine zt_lst zy_349 (show q_ins q_k349 8 = some (.lastore, 0, 0) from rfl) za_184 (by decide) (by decide) ?_
    rw [← hs3]
    refine zt_goto zy_349 (show q_ins q_k349 9 = some (.goto 6, 15, 0) from rfl) ?_
    refine zt_iconst zy_349 (show q_ins q_k349 15 = some (.iconst 0, 0, 0) from rfl) ?_
    cases h
    exact zt_iret zy_349 (show q_ins q_k349 16 = some (.ireturn, 0, 0) from rfl)
  · skip
    by_cases hE0 : E = 0
    · rw [if_pos hE0] at h
      subst hE0
      refine zt_callVH (d := 3) zy_349 (show q_ins q_k349 4 = some (.invokevirtual 115, 160, 1) from rfl) zy_160 (by decide) ⟨zq_lt (by decide), by decide⟩ rfl (by simp [Value.category]) (by simp [lg_sl, Value.category]) (zt_rcv zc_0) (zt_dm (by decide) (S_C_format hca1)) (hp := 12) (k := 3) (n := 1) rfl rfl (by decide) ?_
      refine zt_iconst zy_349 (show q_ins q_k349 13 = some (.iconst 1, 0, 0) from rfl) ?_
      cases h
      exact zt_iret zy_349 (show q_ins q_k349 14 = some (.ireturn, 0, 0) from rfl)
    rw [if_neg hE0] at h
    cases h
theorem S_L_query {X : q_X}   {v1 : Int} {σ : zt_S} {o : (Int × zt_S)} (h : F_L_query  v1 σ = some o) : zt_Ex X 28 350 0 (lv_args 0 [.ref 0, .int (Int32.ofInt v1), .ref 184]) [] (zt_M σ) (zo_I o) := by
  unfold F_L_query at h
  refine zt_aload_n zy_350 (show q_ins q_k350 0 = some (.aload_n 2, 0, 0) from rfl) (v := 184) rfl ?_
  refine zt_iconst zy_350 (show q_ins q_k350 1 = some (.iconst 0, 0, 0) from rfl) ?_
  refine zt_aload_n zy_350 (show q_ins q_k350 2 = some (.aload_n 0, 0, 0) from rfl) (v := 0) rfl ?_
  refine zt_iload_n zy_350 (show q_ins q_k350 3 = some (.iload_n 1, 0, 0) from rfl) (v := Int32.ofInt v1) rfl ?_
  rcases zt_bxE h with ⟨a1, s2, hca1, h⟩ | ⟨E, s2, hca1, h⟩
  · refine zt_callV (d := 27) zy_350 (show q_ins q_k350 4 = some (.invokevirtual 118, 121, 1) from rfl) zy_121 (by decide) ⟨zq_lt (by decide), by decide⟩ rfl (by simp [Value.category]) (by simp [lg_sl, Value.category]) (zt_rcv zc_0) (zt_dm (by decide) (S_C_query hca1)) ?_
    refine zt_i2l zy_350 (show q_ins q_k350 7 = some (.i2l, 0, 0) from rfl) ?_
    obtain ⟨s3, hs3, h⟩ := zt_letE h
    refine zt_lst zy_350 (show q_ins q_k350 8 = some (.lastore, 0, 0) from rfl) za_184 (by decide) (by decide) ?_
    rw [← hs3]
    refine zt_goto zy_350 (show q_ins q_k350 9 = some (.goto 6, 15, 0) from rfl) ?_
    refine zt_iconst zy_350 (show q_ins q_k350 15 = some (.iconst 0, 0, 0) from rfl) ?_
    cases h
    exact zt_iret zy_350 (show q_ins q_k350 16 = some (.ireturn, 0, 0) from rfl)
  · skip
    by_cases hE1 : E = 1
    · rw [if_pos hE1] at h
      subst hE1
      refine zt_callVH (d := 27) zy_350 (show q_ins q_k350 4 = some (.invokevirtual 118, 121, 1) from rfl) zy_121 (by decide) ⟨zq_lt (by decide), by decide⟩ rfl (by simp [Value.category]) (by simp [lg_sl, Value.category]) (zt_rcv zc_0) (zt_dm (by decide) (S_C_query hca1)) (hp := 12) (k := 3) (n := 1) rfl rfl (by decide) ?_
      refine zt_iconst zy_350 (show q_ins q_k350 13 = some (.iconst 1, 0, 0) from rfl) ?_
      cases h
      exact zt_iret zy_350 (show q_ins q_k350 14 = some (.ireturn, 0, 0) from rfl)
    rw [if_neg hE1] at h
    cases h
