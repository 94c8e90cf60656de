/-! the mini-machine does what the functions say (by program) -/
theorem S_M_suit_27 {X : q_X}   : ∀ (x0 : Int) (σ : zt_S) (o : (Int × zt_S)), F_M_suit_27  x0 σ = some o → zt_Ex X 2 233 27 [] [.int (Int32.ofInt x0)] (zt_M σ) (zo_I o) := by
  intro x0 σ o  h
  unfold F_M_suit_27 at h
  cases h
  exact zt_iret zy_233 (show q_ins q_k233 27 = some (.ireturn, 0, 0) from rfl)
theorem S_M_suit {X : q_X}   {v1 : Int} {σ : zt_S} {o : (Int × zt_S)} (h : F_M_suit  v1 σ = some o) : zt_Ex X 2 233 0 (lv_args 0 [.ref 163, .int (Int32.ofInt v1)]) [] (zt_M σ) (zo_I o) := by
  unfold F_M_suit at h
  refine zt_aload_n zy_233 (show q_ins q_k233 0 = some (.aload_n 0, 0, 0) from rfl) (v := 163) rfl ?_
  refine zt_iconst zy_233 (show q_ins q_k233 1 = some (.iconst 0, 0, 0) from rfl) ?_
  obtain ⟨s1, hs1, h⟩ := zt_letE h
  refine zt_putI zy_233 (show q_ins q_k233 2 = some (.putfield 1, 11, 0) from rfl) (j := 0) zk_163_0 rfl rfl rfl ?_
  rw [← hs1]
  refine zt_aload_n zy_233 (show q_ins q_k233 5 = some (.aload_n 0, 0, 0) from rfl) (v := 163) rfl ?_
  refine zt_aload_n zy_233 (show q_ins q_k233 6 = some (.aload_n 0, 0, 0) from rfl) (v := 163) rfl ?_
  refine zt_iload_n zy_233 (show q_ins q_k233 7 = some (.iload_n 1, 0, 0) from rfl) (v := Int32.ofInt v1) rfl ?_
  obtain ⟨a2, s3, hca2, h⟩ := zt_bdE h
  refine zt_callV (d := 1) zy_233 (show q_ins q_k233 8 = some (.invokevirtual 314, 208, 1) from rfl) zy_208 (by decide) ⟨zq_lt (by decide), by decide⟩ rfl (by simp [Value.category]) (by simp [lg_sl, Value.category]) (zt_rcv zc_163) (zt_dm (by decide) (S_M_isCard hca2)) ?_
  refine zt_iconst zy_233 (show q_ins q_k233 11 = some (.iconst 1, 0, 0) from rfl) ?_
  obtain ⟨a4, s5, hca4, h⟩ := zt_bdE h
  refine zt_callV (d := 1) zy_233 (show q_ins q_k233 12 = some (.invokevirtual 227, 174, 2) from rfl) zy_174 (by decide) ⟨zq_lt (by decide), by decide⟩ rfl (by simp [Value.category]) (by simp [lg_sl, Value.category]) (zt_rcv zc_163) (zt_dm (by decide) (S_M_fails hca4)) ?_
  obtain ⟨hg, h⟩ := zt_ckE h
  refine zt_if_eq zy_233 (show q_ins q_k233 15 = some (.ifCond .eq 7, 22, 0) from rfl) (hg) (fun hc => ?_) (fun hc => ?_)
  · rw [if_pos hc] at h
    refine zt_aload_n zy_233 (show q_ins q_k233 22 = some (.aload_n 0, 0, 0) from rfl) (v := 163) rfl ?_
    refine zt_iload_n zy_233 (show q_ins q_k233 23 = some (.iload_n 1, 0, 0) from rfl) (v := Int32.ofInt v1) rfl ?_
    obtain ⟨a6, s7, hca6, h⟩ := zt_bdE h
    refine zt_callV (d := 1) zy_233 (show q_ins q_k233 24 = some (.invokevirtual 257, 209, 1) from rfl) zy_209 (by decide) ⟨zq_lt (by decide), by decide⟩ rfl (by simp [Value.category]) (by simp [lg_sl, Value.category]) (zt_rcv zc_163) (zt_dm (by decide) (S_M_suitOf hca6)) ?_
    exact zt_wk (zt_cov_nil) (S_M_suit_27  _ _ _ h)
  · rw [if_neg hc] at h
    refine zt_iconst zy_233 (show q_ins q_k233 18 = some (.iconst 0, 0, 0) from rfl) ?_
    refine zt_goto zy_233 (show q_ins q_k233 19 = some (.goto 8, 27, 0) from rfl) ?_
    exact zt_wk (zt_cov_nil) (S_M_suit_27  _ _ _ h)
theorem S_M_rank_27 {X : q_X}   : ∀ (x0 : Int) (σ : zt_S) (o : (Int × zt_S)), F_M_rank_27  x0 σ = some o → zt_Ex X 2 234 27 [] [.int (Int32.ofInt x0)] (zt_M σ) (zo_I o) := by
  intro x0 σ o  h
  unfold F_M_rank_27 at h
  cases h
  exact zt_iret zy_234 (show q_ins q_k234 27 = some (.ireturn, 0, 0) from rfl)
theorem S_M_rank {X : q_X}   {v1 : Int} {σ : zt_S} {o : (Int × zt_S)} (h : F_M_rank  v1 σ = some o) : zt_Ex X 2 234 0 (lv_args 0 [.ref 163, .int (Int32.ofInt v1)]) [] (zt_M σ) (zo_I o) := by
  unfold F_M_rank at h
  refine zt_aload_n zy_234 (show q_ins q_k234 0 = some (.aload_n 0, 0, 0) from rfl) (v := 163) rfl ?_
  refine zt_iconst zy_234 (show q_ins q_k234 1 = some (.iconst 0, 0, 0) from rfl) ?_
  obtain ⟨s1, hs1, h⟩ := zt_letE h
  refine zt_putI zy_234 (show q_ins q_k234 2 = some (.putfield 1, 11, 0) from rfl) (j := 0) zk_163_0 rfl rfl rfl ?_
  rw [← hs1]
  refine zt_aload_n zy_234 (show q_ins q_k234 5 = some (.aload_n 0, 0, 0) from rfl) (v := 163) rfl ?_
  refine zt_aload_n zy_234 (show q_ins q_k234 6 = some (.aload_n 0, 0, 0) from rfl) (v := 163) rfl ?_
  refine zt_iload_n zy_234 (show q_ins q_k234 7 = some (.iload_n 1, 0, 0) from rfl) (v := Int32.ofInt v1) rfl ?_
  obtain ⟨a2, s3, hca2, h⟩ := zt_bdE h
  refine zt_callV (d := 1) zy_234 (show q_ins q_k234 8 = some (.invokevirtual 314, 208, 1) from rfl) zy_208 (by decide) ⟨zq_lt (by decide), by decide⟩ rfl (by simp [Value.category]) (by simp [lg_sl, Value.category]) (zt_rcv zc_163) (zt_dm (by decide) (S_M_isCard hca2)) ?_
  refine zt_iconst zy_234 (show q_ins q_k234 11 = some (.iconst 1, 0, 0) from rfl) ?_
  obtain ⟨a4, s5, hca4, h⟩ := zt_bdE h
  refine zt_callV (d := 1) zy_234 (show q_ins q_k234 12 = some (.invokevirtual 227, 174, 2) from rfl) zy_174 (by decide) ⟨zq_lt (by decide), by decide⟩ rfl (by simp [Value.category]) (by simp [lg_sl, Value.category]) (zt_rcv zc_163) (zt_dm (by decide) (S_M_fails hca4)) ?_
  obtain ⟨hg, h⟩ := zt_ckE h
  refine zt_if_eq zy_234 (show q_ins q_k234 15 = some (.ifCond .eq 7, 22, 0) from rfl) (hg) (fun hc => ?_) (fun hc => ?_)
  · rw [if_pos hc] at h
    refine zt_aload_n zy_234 (show q_ins q_k234 22 = some (.aload_n 0, 0, 0) from rfl) (v := 163) rfl ?_
    refine zt_iload_n zy_234 (show q_ins q_k234 23 = some (.iload_n 1, 0, 0) from rfl) (v := Int32.ofInt v1) rfl ?_
    obtain ⟨a6, s7, hca6, h⟩ := zt_bdE h
    refine zt_callV (d := 1) zy_234 (show q_ins q_k234 24 = some (.invokevirtual 260, 210, 1) from rfl) zy_210 (by decide) ⟨zq_lt (by decide), by decide⟩ rfl (by simp [Value.category]) (by simp [lg_sl, Value.category]) (zt_rcv zc_163) (zt_dm (by decide) (S_M_rankOf hca6)) ?_
    exact zt_wk (zt_cov_nil) (S_M_rank_27  _ _ _ h)
  · rw [if_neg hc] at h
    refine zt_iconst zy_234 (show q_ins q_k234 18 = some (.iconst 0, 0, 0) from rfl) ?_
    refine zt_goto zy_234 (show q_ins q_k234 19 = some (.goto 8, 27, 0) from rfl) ?_
    exact zt_wk (zt_cov_nil) (S_M_rank_27  _ _ _ h)
theorem S_M_holder_27 {X : q_X}   : ∀ (x0 : Int) (σ : zt_S) (o : (Int × zt_S)), F_M_holder_27  x0 σ = some o → zt_Ex X 2 235 27 [] [.int (Int32.ofInt x0)] (zt_M σ) (zo_I o) := by
  intro x0 σ o  h
  unfold F_M_holder_27 at h
  cases h
  exact zt_iret zy_235 (show q_ins q_k235 27 = some (.ireturn, 0, 0) from rfl)
theorem S_M_holder {X : q_X}   {v1 : Int} {σ : zt_S} {o : (Int × zt_S)} (h : F_M_holder  v1 σ = some o) : zt_Ex X 2 235 0 (lv_args 0 [.ref 163, .int (Int32.ofInt v1)]) [] (zt_M σ) (zo_I o) := by
  unfold F_M_holder at h
  refine zt_aload_n zy_235 (show q_ins q_k235 0 = some (.aload_n 0, 0, 0) from rfl) (v := 163) rfl ?_
  refine zt_iconst zy_235 (show q_ins q_k235 1 = some (.iconst 0, 0, 0) from rfl) ?_
  obtain ⟨s1, hs1, h⟩ := zt_letE h
  refine zt_putI zy_235 (show q_ins q_k235 2 = some (.putfield 1, 11, 0) from rfl) (j := 0) zk_163_0 rfl rfl rfl ?_
  rw [← hs1]
  refine zt_aload_n zy_235 (show q_ins q_k235 5 = some (.aload_n 0, 0, 0) from rfl) (v := 163) rfl ?_
  refine zt_aload_n zy_235 (show q_ins q_k235 6 = some (.aload_n 0, 0, 0) from rfl) (v := 163) rfl ?_
  refine zt_iload_n zy_235 (show q_ins q_k235 7 = some (.iload_n 1, 0, 0) from rfl) (v := Int32.ofInt v1) rfl ?_
  obtain ⟨a2, s3, hca2, h⟩ := zt_bdE h
  refine zt_callV (d := 1) zy_235 (show q_ins q_k235 8 = some (.invokevirtual 314, 208, 1) from rfl) zy_208 (by decide) ⟨zq_lt (by decide), by decide⟩ rfl (by simp [Value.category]) (by simp [lg_sl, Value.category]) (zt_rcv zc_163) (zt_dm (by decide) (S_M_isCard hca2)) ?_
  refine zt_iconst zy_235 (show q_ins q_k235 11 = some (.iconst 1, 0, 0) from rfl) ?_
  obtain ⟨a4, s5, hca4, h⟩ := zt_bdE h
  refine zt_callV (d := 1) zy_235 (show q_ins q_k235 12 = some (.invokevirtual 227, 174, 2) from rfl) zy_174 (by decide) ⟨zq_lt (by decide), by decide⟩ rfl (by simp [Value.category]) (by simp [lg_sl, Value.category]) (zt_rcv zc_163) (zt_dm (by decide) (S_M_fails hca4)) ?_
  obtain ⟨hg, h⟩ := zt_ckE h
  refine zt_if_eq zy_235 (show q_ins q_k235 15 = some (.ifCond .eq 7, 22, 0) from rfl) (hg) (fun hc => ?_) (fun hc => ?_)
  · rw [if_pos hc] at h
    refine zt_aload_n zy_235 (show q_ins q_k235 22 = some (.aload_n 0, 0, 0) from rfl) (v := 163) rfl ?_
    refine zt_iload_n zy_235 (show q_ins q_k235 23 = some (.iload_n 1, 0, 0) from rfl) (v := Int32.ofInt v1) rfl ?_
    obtain ⟨a6, s7, hca6, h⟩ := zt_bdE h
    refine zt_callV (d := 1) zy_235 (show q_ins q_k235 24 = some (.invokevirtual 275, 220, 1) from rfl) zy_220 (by decide) ⟨zq_lt (by decide), by decide⟩ rfl (by simp [Value.category]) (by simp [lg_sl, Value.category]) (zt_rcv zc_163) (zt_dm (by decide) (S_M_holderOf hca6)) ?_
    exact zt_wk (zt_cov_nil) (S_M_holder_27  _ _ _ h)
  · rw [if_neg hc] at h
    refine zt_iconst zy_235 (show q_ins q_k235 18 = some (.iconst 0, 0, 0) from rfl) ?_
    refine zt_goto zy_235 (show q_ins q_k235 19 = some (.goto 8, 27, 0) from rfl) ?_
    exact zt_wk (zt_cov_nil) (S_M_holder_27  _ _ _ h)
theorem S_M_isPlayer {X : q_X}   {v1 : Int} {σ : zt_S} {o : (Int × zt_S)} (h : F_M_isPlayer  v1 σ = some o) : zt_Ex X 1 236 0 (lv_args 0 [.ref 163, .int (Int32.ofInt v1)]) [] (zt_M σ) (zo_I o) := by
  unfold F_M_isPlayer at h
  refine zt_iload_n zy_236 (show q_ins q_k236 0 = some (.iload_n 1, 0, 0) from rfl) (v := Int32.ofInt v1) rfl ?_
  refine zt_i2l zy_236 (show q_ins q_k236 1 = some (.i2l, 0, 0) from rfl) ?_
  refine zt_lconst zy_236 (show q_ins q_k236 2 = some (.lconst 0, 0, 0) from rfl) (v := (0 : Int64)) (by decide) ?_
  refine zt_aload_n zy_236 (show q_ins q_k236 3 = some (.aload_n 0, 0, 0) from rfl) (v := 163) rfl ?_
  refine zt_getR zy_236 (show q_ins q_k236 4 = some (.getfield 13, 11, 1) from rfl) (r := 164) zk_163_1 ?_
  refine zt_iconst zy_236 (show q_ins q_k236 7 = some (.iconst 1, 0, 0) from rfl) ?_
  refine zt_ald zy_236 (show q_ins q_k236 8 = some (.iaload, 0, 0) from rfl) za_164 (by decide) (by decide) ?_
  refine zt_iconst zy_236 (show q_ins q_k236 9 = some (.iconst 1, 0, 0) from rfl) ?_
  refine zt_isub zy_236 (show q_ins q_k236 10 = some (.isub, 0, 0) from rfl) ?_
  refine zt_i2l zy_236 (show q_ins q_k236 11 = some (.i2l, 0, 0) from rfl) ?_
  obtain ⟨a1, s2, hca1, h⟩ := zt_bdE h
  refine zt_callS (d := 0) zy_236 (show q_ins q_k236 12 = some (.invokestatic 170, 171, 3) from rfl) zy_171 (by decide) ⟨zq_lt (by decide), by decide⟩ rfl (by simp [Value.category]) (by simp [lg_sl, Value.category]) rfl (zt_dm (by decide) (S_M_in hca1)) ?_
  obtain ⟨hg, h⟩ := zt_ckE h
  cases h
  exact zt_zret zy_236 (show q_ins q_k236 15 = some (.ireturn, 0, 0) from rfl) hg
theorem S_M_isSuit {X : q_X}   {v0 : Int} {σ : zt_S} {o : (Int × zt_S)} (h : F_M_isSuit  v0 σ = some o) : zt_Ex X 1 237 0 (lv_args 0 [.int (Int32.ofInt v0)]) [] (zt_M σ) (zo_I o) := by
  unfold F_M_isSuit at h
  refine zt_iload_n zy_237 (show q_ins q_k237 0 = some (.iload_n 0, 0, 0) from rfl) (v := Int32.ofInt v0) rfl ?_
  refine zt_i2l zy_237 (show q_ins q_k237 1 = some (.i2l, 0, 0) from rfl) ?_
  refine zt_lconst zy_237 (show q_ins q_k237 2 = some (.lconst 0, 0, 0) from rfl) (v := (0 : Int64)) (by decide) ?_
  refine zt_ldc2 zy_237 (show q_ins q_k237 3 = some (.ldc2_w 317, 0, 3) from rfl) (v := (3 : Int64)) (by decide) ?_
  obtain ⟨a1, s2, hca1, h⟩ := zt_bdE h
  refine zt_callS (d := 0) zy_237 (show q_ins q_k237 6 = some (.invokestatic 170, 171, 3) from rfl) zy_171 (by decide) ⟨zq_lt (by decide), by decide⟩ rfl (by simp [Value.category]) (by simp [lg_sl, Value.category]) rfl (zt_dm (by decide) (S_M_in hca1)) ?_
  obtain ⟨hg, h⟩ := zt_ckE h
  cases h
  exact zt_zret zy_237 (show q_ins q_k237 9 = some (.ireturn, 0, 0) from rfl) hg
theorem S_M_held_31 {X : q_X}   : ∀ (x0 : Int) (σ : zt_S) (o : (Int × zt_S)), F_M_held_31  x0 σ = some o → zt_Ex X 2 238 31 [] [.int (Int32.ofInt x0)] (zt_M σ) (zo_I o) := by
  intro x0 σ o  h
  unfold F_M_held_31 at h
  cases h
  exact zt_iret zy_238 (show q_ins q_k238 31 = some (.ireturn, 0, 0) from rfl)
theorem S_M_held {X : q_X}   {v1 : Int} {σ : zt_S} {o : (Int × zt_S)} (h : F_M_held  v1 σ = some o) : zt_Ex X 2 238 0 (lv_args 0 [.ref 163, .int (Int32.ofInt v1)]) [] (zt_M σ) (zo_I o) := by
  unfold F_M_held at h
  refine zt_aload_n zy_238 (show q_ins q_k238 0 = some (.aload_n 0, 0, 0) from rfl) (v := 163) rfl ?_
  refine zt_iconst zy_238 (show q_ins q_k238 1 = some (.iconst 0, 0, 0) from rfl) ?_
  obtain ⟨s1, hs1, h⟩ := zt_letE h
  refine zt_putI zy_238 (show q_ins q_k238 2 = some (.putfield 1, 11, 0) from rfl) (j := 0) zk_163_0 rfl rfl rfl ?_
  rw [← hs1]
  refine zt_aload_n zy_238 (show q_ins q_k238 5 = some (.aload_n 0, 0, 0) from rfl) (v := 163) rfl ?_
  refine zt_aload_n zy_238 (show q_ins q_k238 6 = some (.aload_n 0, 0, 0) from rfl) (v := 163) rfl ?_
  refine zt_iload_n zy_238 (show q_ins q_k238 7 = some (.iload_n 1, 0, 0) from rfl) (v := Int32.ofInt v1) rfl ?_
  obtain ⟨a2, s3, hca2, h⟩ := zt_bdE h
  refine zt_callV (d := 1) zy_238 (show q_ins q_k238 8 = some (.invokevirtual 319, 236, 1) from rfl) zy_236 (by decide) ⟨zq_lt (by decide), by decide⟩ rfl (by simp [Value.category]) (by simp [lg_sl, Value.category]) (zt_rcv zc_163) (zt_dm (by decide) (S_M_isPlayer hca2)) ?_
  refine zt_iconst zy_238 (show q_ins q_k238 11 = some (.iconst 1, 0, 0) from rfl) ?_
  obtain ⟨a4, s5, hca4, h⟩ := zt_bdE h
  refine zt_callV (d := 1) zy_238 (show q_ins q_k238 12 = some (.invokevirtual 227, 174, 2) from rfl) zy_174 (by decide) ⟨zq_lt (by decide), by decide⟩ rfl (by simp [Value.category]) (by simp [lg_sl, Value.category]) (zt_rcv zc_163) (zt_dm (by decide) (S_M_fails hca4)) ?_
  obtain ⟨hg, h⟩ := zt_ckE h
  refine zt_if_eq zy_238 (show q_ins q_k238 15 = some (.ifCond .eq 7, 22, 0) from rfl) (hg) (fun hc => ?_) (fun hc => ?_)
  · rw [if_pos hc] at h
    refine zt_aload_n zy_238 (show q_ins q_k238 22 = some (.aload_n 0, 0, 0) from rfl) (v := 163) rfl ?_
    refine zt_aload_n zy_238 (show q_ins q_k238 23 = some (.aload_n 0, 0, 0) from rfl) (v := 163) rfl ?_
    refine zt_getR zy_238 (show q_ins q_k238 24 = some (.getfield 13, 11, 1) from rfl) (r := 164) zk_163_1 ?_
    refine zt_iload_n zy_238 (show q_ins q_k238 27 = some (.iload_n 1, 0, 0) from rfl) (v := Int32.ofInt v1) rfl ?_
    obtain ⟨a6, s7, hca6, h⟩ := zt_bdE h
    refine zt_callV (d := 1) zy_238 (show q_ins q_k238 28 = some (.invokevirtual 178, 199, 2) from rfl) zy_199 (by decide) ⟨zq_lt (by decide), by decide⟩ rfl (by simp [Value.category]) (by simp [lg_sl, Value.category]) (zt_rcv zc_163) (zt_dm (by decide) (S_M_heldBy za_164 (by decide) hca6)) ?_
    exact zt_wk (zt_cov_nil) (S_M_held_31  _ _ _ h)
  · rw [if_neg hc] at h
    refine zt_iconst zy_238 (show q_ins q_k238 18 = some (.iconst 0, 0, 0) from rfl) ?_
    refine zt_goto zy_238 (show q_ins q_k238 19 = some (.goto 12, 31, 0) from rfl) ?_
    exact zt_wk (zt_cov_nil) (S_M_held_31  _ _ _ h)
theorem S_M_inHand_57 {X : q_X}   {r25 : Int → Int → Int → zt_S → Option (Int × zt_S)} (hr25 : ∀ (v1 : Int) (v3 : Int) (v4 : Int) (σ : zt_S) (o : (Int × zt_S)), r25 v1 v3 v4 σ = some o → zt_Ex X 2 239 25 [(0, .ref 163), (1, .int (Int32.ofInt v1)), (3, .int (Int32.ofInt v3)), (4, .int (Int32.ofInt v4))] [] (zt_M σ) (zo_I o)) : ∀ (v1 : Int) (v3 : Int) (v4 : Int) (σ : zt_S) (o : (Int × zt_S)), F_M_inHand_57  r25 v1 v3 v4 σ = some o → zt_Ex X 2 239 57 [(0, .ref 163), (1, .int (Int32.ofInt v1)), (3, .int (Int32.ofInt v3)), (4, .int (Int32.ofInt v4))] [] (zt_M σ) (zo_I o) := by
  intro v1 v3 v4 σ o  h
  unfold F_M_inHand_57 at h
  refine zt_iinc zy_239 (show q_ins q_k239 57 = some (.iinc 4 1, 0, 0) from rfl) (v := v4) (by decide) rfl ?_
  refine zt_goto zy_239 (show q_ins q_k239 60 = some (.goto (-35), 25, 0) from rfl) ?_
  exact zt_wk (zt_cov_cons rfl (zt_cov_cons rfl (zt_cov_cons rfl (zt_cov_cons rfl (zt_cov_nil))))) (hr25 _ _ _ _ _ h)
theorem S_M_inHand_63 {X : q_X}   : ∀  (σ : zt_S) (o : (Int × zt_S)), F_M_inHand_63   σ = some o → zt_Ex X 2 239 63 [(0, .ref 163)] [] (zt_M σ) (zo_I o) := by
  intro  σ o  h
  unfold F_M_inHand_63 at h
  refine zt_aload_n zy_239 (show q_ins q_k239 63 = some (.aload_n 0, 0, 0) from rfl) (v := 163) rfl ?_
  refine zt_iconst zy_239 (show q_ins q_k239 64 = some (.iconst 1, 0, 0) from rfl) ?_
  obtain ⟨s10, hs10, h⟩ := zt_letE h
  refine zt_putI zy_239 (show q_ins q_k239 65 = some (.putfield 1, 11, 0) from rfl) (j := 0) zk_163_0 rfl rfl rfl ?_
  rw [← hs10]
  refine zt_iconst zy_239 (show q_ins q_k239 68 = some (.iconst 0, 0, 0) from rfl) ?_
  cases h
  exact zt_iret zy_239 (show q_ins q_k239 69 = some (.ireturn, 0, 0) from rfl)
theorem S_M_inHand_25 {X : q_X}   : ∀ (n : Nat) (v1 : Int) (v3 : Int) (v4 : Int) (σ : zt_S) (o : (Int × zt_S)), F_M_inHand_25  n v1 v3 v4 σ = some o → zt_Ex X 2 239 25 [(0, .ref 163), (1, .int (Int32.ofInt v1)), (3, .int (Int32.ofInt v3)), (4, .int (Int32.ofInt v4))] [] (zt_M σ) (zo_I o) := by
  intro n
  induction n with
  | zero => intro v1 v3 v4 σ o  h; cases h
  | succ n ih =>
  intro v1 v3 v4 σ o  h
  rw [F_M_inHand_25] at h
  refine zt_iload zy_239 (show q_ins q_k239 25 = some (.iload 4, 0, 0) from rfl) (v := Int32.ofInt v4) rfl ?_
  refine zt_aload_n zy_239 (show q_ins q_k239 27 = some (.aload_n 0, 0, 0) from rfl) (v := 163) rfl ?_
  obtain ⟨a6, s7, hca6, h⟩ := zt_bdE h
  refine zt_callV (d := 1) zy_239 (show q_ins q_k239 28 = some (.invokevirtual 244, 207, 0) from rfl) zy_207 (by decide) ⟨zq_lt (by decide), by decide⟩ rfl (by simp [Value.category]) (by simp [lg_sl, Value.category]) (zt_rcv zc_163) (zt_dm (by decide) (S_M_cards hca6)) ?_
  obtain ⟨hg, h⟩ := zt_ckE h
  refine zt_icmp_ge zy_239 (show q_ins q_k239 31 = some (.if_icmp .ge 32, 63, 0) from rfl) (⟨hg.1, hg.2⟩) (fun hc => ?_) (fun hc => ?_)
  · rw [if_pos hc] at h
    refine zt_aload_n zy_239 (show q_ins q_k239 34 = some (.aload_n 0, 0, 0) from rfl) (v := 163) rfl ?_
    refine zt_iload zy_239 (show q_ins q_k239 35 = some (.iload 4, 0, 0) from rfl) (v := Int32.ofInt v4) rfl ?_
    obtain ⟨a8, s9, hca8, h⟩ := zt_bdE h
    refine zt_callV (d := 1) zy_239 (show q_ins q_k239 37 = some (.invokevirtual 275, 220, 1) from rfl) zy_220 (by decide) ⟨zq_lt (by decide), by decide⟩ rfl (by simp [Value.category]) (by simp [lg_sl, Value.category]) (zt_rcv zc_163) (zt_dm (by decide) (S_M_holderOf hca8)) ?_
    refine zt_iload_n zy_239 (show q_ins q_k239 40 = some (.iload_n 1, 0, 0) from rfl) (v := Int32.ofInt v1) rfl ?_
    obtain ⟨hg, h⟩ := zt_ckE h
    refine zt_icmp_eq zy_239 (show q_ins q_k239 41 = some (.if_icmp .eq 6, 47, 0) from rfl) (⟨hg.1, hg.2⟩) (fun hc => ?_) (fun hc => ?_)
    · rw [if_pos hc] at h
      refine zt_iload_n zy_239 (show q_ins q_k239 47 = some (.iload_n 3, 0, 0) from rfl) (v := Int32.ofInt v3) rfl ?_
      obtain ⟨hg, h⟩ := zt_ckE h
      refine zt_if_ne zy_239 (show q_ins q_k239 48 = some (.ifCond .ne 6, 54, 0) from rfl) (hg) (fun hc => ?_) (fun hc => ?_)
      · rw [if_pos hc] at h
        refine zt_iload zy_239 (show q_ins q_k239 51 = some (.iload 4, 0, 0) from rfl) (v := Int32.ofInt v4) rfl ?_
        cases h
        exact zt_iret zy_239 (show q_ins q_k239 53 = some (.ireturn, 0, 0) from rfl)
      · rw [if_neg hc] at h
        refine zt_iinc zy_239 (show q_ins q_k239 54 = some (.iinc 3 (-1), 0, 0) from rfl) (v := v3) (by decide) rfl ?_
        rw [← zt_w_eq (v3 + -1)]
        exact zt_wk (zt_cov_cons rfl (zt_cov_cons rfl (zt_cov_cons rfl (zt_cov_cons rfl (zt_cov_nil))))) (S_M_inHand_57  ih _ _ _ _ _ h)
    · rw [if_neg hc] at h
      refine zt_goto zy_239 (show q_ins q_k239 44 = some (.goto 13, 57, 0) from rfl) ?_
      exact zt_wk (zt_cov_cons rfl (zt_cov_cons rfl (zt_cov_cons rfl (zt_cov_cons rfl (zt_cov_nil))))) (S_M_inHand_57  ih _ _ _ _ _ h)
  · rw [if_neg hc] at h
    exact zt_wk (zt_cov_cons rfl (zt_cov_nil)) (S_M_inHand_63  _ _ h)
theorem S_M_inHand {X : q_X}   {v1 : Int} {v2 : Int} {σ : zt_S} {o : (Int × zt_S)} (h : F_M_inHand  v1 v2 σ = some o) : zt_Ex X 2 239 0 (lv_args 0 [.ref 163, .int (Int32.ofInt v1), .int (Int32.ofInt v2)]) [] (zt_M σ) (zo_I o) := by
  unfold F_M_inHand at h
  refine zt_aload_n zy_239 (show q_ins q_k239 0 = some (.aload_n 0, 0, 0) from rfl) (v := 163) rfl ?_
  refine zt_iconst zy_239 (show q_ins q_k239 1 = some (.iconst 0, 0, 0) from rfl) ?_
  obtain ⟨s1, hs1, h⟩ := zt_letE h
  refine zt_putI zy_239 (show q_ins q_k239 2 = some (.putfield 1, 11, 0) from rfl) (j := 0) zk_163_0 rfl rfl rfl ?_
  rw [← hs1]
  refine zt_aload_n zy_239 (show q_ins q_k239 5 = some (.aload_n 0, 0, 0) from rfl) (v := 163) rfl ?_
  refine zt_aload_n zy_239 (show q_ins q_k239 6 = some (.aload_n 0, 0, 0) from rfl) (v := 163) rfl ?_
  refine zt_iload_n zy_239 (show q_ins q_k239 7 = some (.iload_n 1, 0, 0) from rfl) (v := Int32.ofInt v1) rfl ?_
  obtain ⟨a2, s3, hca2, h⟩ := zt_bdE h
  refine zt_callV (d := 1) zy_239 (show q_ins q_k239 8 = some (.invokevirtual 319, 236, 1) from rfl) zy_236 (by decide) ⟨zq_lt (by decide), by decide⟩ rfl (by simp [Value.category]) (by simp [lg_sl, Value.category]) (zt_rcv zc_163) (zt_dm (by decide) (S_M_isPlayer hca2)) ?_
  refine zt_iconst zy_239 (show q_ins q_k239 11 = some (.iconst 1, 0, 0) from rfl) ?_
  obtain ⟨a4, s5, hca4, h⟩ := zt_bdE h
  refine zt_callV (d := 1) zy_239 (show q_ins q_k239 12 = some (.invokevirtual 227, 174, 2) from rfl) zy_174 (by decide) ⟨zq_lt (by decide), by decide⟩ rfl (by simp [Value.category]) (by simp [lg_sl, Value.category]) (zt_rcv zc_163) (zt_dm (by decide) (S_M_fails hca4)) ?_
  obtain ⟨hg, h⟩ := zt_ckE h
  refine zt_if_eq zy_239 (show q_ins q_k239 15 = some (.ifCond .eq 5, 20, 0) from rfl) (hg) (fun hc => ?_) (fun hc => ?_)
  · rw [if_pos hc] at h
    refine zt_iload_n zy_239 (show q_ins q_k239 20 = some (.iload_n 2, 0, 0) from rfl) (v := Int32.ofInt v2) rfl ?_
    refine zt_istore_n zy_239 (show q_ins q_k239 21 = some (.istore_n 3, 0, 0) from rfl) (by decide) ?_
    refine zt_iconst zy_239 (show q_ins q_k239 22 = some (.iconst 0, 0, 0) from rfl) ?_
    refine zt_istore zy_239 (show q_ins q_k239 23 = some (.istore 4, 0, 0) from rfl) (by decide) ?_
    exact zt_wk (zt_cov_cons rfl (zt_cov_cons rfl (zt_cov_cons rfl (zt_cov_cons rfl (zt_cov_nil))))) (S_M_inHand_25  _ _ _ _ _ _ h)
  · rw [if_neg hc] at h
    refine zt_iconst zy_239 (show q_ins q_k239 18 = some (.iconst 0, 0, 0) from rfl) ?_
    cases h
    exact zt_iret zy_239 (show q_ins q_k239 19 = some (.ireturn, 0, 0) from rfl)
theorem S_M_ofSuit_43 {X : q_X}   : ∀ (x0 : Int) (σ : zt_S) (o : (Int × zt_S)), F_M_ofSuit_43  x0 σ = some o → zt_Ex X 2 240 43 [] [.int (Int32.ofInt x0)] (zt_M σ) (zo_I o) := by
  intro x0 σ o  h
  unfold F_M_ofSuit_43 at h
  cases h
  exact zt_iret zy_240 (show q_ins q_k240 43 = some (.ireturn, 0, 0) from rfl)
theorem S_M_ofSuit_26 {X : q_X}   : ∀ (v1 : Int) (v2 : Int) (x0 : Int) (σ : zt_S) (o : (Int × zt_S)), F_M_ofSuit_26  v1 v2 x0 σ = some o → zt_Ex X 2 240 26 [(0, .ref 163), (1, .int (Int32.ofInt v1)), (2, .int (Int32.ofInt v2))] [.int (Int32.ofInt x0), .ref 163] (zt_M σ) (zo_I o) := by
  intro v1 v2 x0 σ o  h
  unfold F_M_ofSuit_26 at h
  refine zt_iconst zy_240 (show q_ins q_k240 26 = some (.iconst 1, 0, 0) from rfl) ?_
  obtain ⟨a4, s5, hca4, h⟩ := zt_bdE h
  refine zt_callV (d := 1) zy_240 (show q_ins q_k240 27 = some (.invokevirtual 227, 174, 2) from rfl) zy_174 (by decide) ⟨zq_lt (by decide), by decide⟩ rfl (by simp [Value.category]) (by simp [lg_sl, Value.category]) (zt_rcv zc_163) (zt_dm (by decide) (S_M_fails hca4)) ?_
  obtain ⟨hg, h⟩ := zt_ckE h
  refine zt_if_eq zy_240 (show q_ins q_k240 30 = some (.ifCond .eq 7, 37, 0) from rfl) (hg) (fun hc => ?_) (fun hc => ?_)
  · rw [if_pos hc] at h
    refine zt_aload_n zy_240 (show q_ins q_k240 37 = some (.aload_n 0, 0, 0) from rfl) (v := 163) rfl ?_
    refine zt_iload_n zy_240 (show q_ins q_k240 38 = some (.iload_n 1, 0, 0) from rfl) (v := Int32.ofInt v1) rfl ?_
    refine zt_iload_n zy_240 (show q_ins q_k240 39 = some (.iload_n 2, 0, 0) from rfl) (v := Int32.ofInt v2) rfl ?_
    obtain ⟨a6, s7, hca6, h⟩ := zt_bdE h
    refine zt_callV (d := 1) zy_240 (show q_ins q_k240 40 = some (.invokevirtual 281, 221, 2) from rfl) zy_221 (by decide) ⟨zq_lt (by decide), by decide⟩ rfl (by simp [Value.category]) (by simp [lg_sl, Value.category]) (zt_rcv zc_163) (zt_dm (by decide) (S_M_suitOfPlayer hca6)) ?_
    exact zt_wk (zt_cov_nil) (S_M_ofSuit_43  _ _ _ h)
  · rw [if_neg hc] at h
    refine zt_iconst zy_240 (show q_ins q_k240 33 = some (.iconst 0, 0, 0) from rfl) ?_
    refine zt_goto zy_240 (show q_ins q_k240 34 = some (.goto 9, 43, 0) from rfl) ?_
    exact zt_wk (zt_cov_nil) (S_M_ofSuit_43  _ _ _ h)
theorem S_M_ofSuit_25 {X : q_X}   : ∀ (v1 : Int) (v2 : Int) (σ : zt_S) (o : (Int × zt_S)), F_M_ofSuit_25  v1 v2 σ = some o → zt_Ex X 2 240 25 [(0, .ref 163), (1, .int (Int32.ofInt v1)), (2, .int (Int32.ofInt v2))] [.ref 163] (zt_M σ) (zo_I o) := by
  intro v1 v2 σ o  h
  unfold F_M_ofSuit_25 at h
  refine zt_iconst zy_240 (show q_ins q_k240 25 = some (.iconst 0, 0, 0) from rfl) ?_
  exact zt_wk (zt_cov_cons rfl (zt_cov_cons rfl (zt_cov_cons rfl (zt_cov_nil)))) (S_M_ofSuit_26  _ _ _ _ _ h)
theorem S_M_ofSuit {X : q_X}   {v1 : Int} {v2 : Int} {σ : zt_S} {o : (Int × zt_S)} (h : F_M_ofSuit  v1 v2 σ = some o) : zt_Ex X 2 240 0 (lv_args 0 [.ref 163, .int (Int32.ofInt v1), .int (Int32.ofInt v2)]) [] (zt_M σ) (zo_I o) := by
  unfold F_M_ofSuit at h
  refine zt_aload_n zy_240 (show q_ins q_k240 0 = some (.aload_n 0, 0, 0) from rfl) (v := 163) rfl ?_
  refine zt_iconst zy_240 (show q_ins q_k240 1 = some (.iconst 0, 0, 0) from rfl) ?_
  obtain ⟨s1, hs1, h⟩ := zt_letE h
  refine zt_putI zy_240 (show q_ins q_k240 2 = some (.putfield 1, 11, 0) from rfl) (j := 0) zk_163_0 rfl rfl rfl ?_
  rw [← hs1]
  refine zt_aload_n zy_240 (show q_ins q_k240 5 = some (.aload_n 0, 0, 0) from rfl) (v := 163) rfl ?_
  refine zt_aload_n zy_240 (show q_ins q_k240 6 = some (.aload_n 0, 0, 0) from rfl) (v := 163) rfl ?_
  refine zt_iload_n zy_240 (show q_ins q_k240 7 = some (.iload_n 1, 0, 0) from rfl) (v := Int32.ofInt v1) rfl ?_
  obtain ⟨a2, s3, hca2, h⟩ := zt_bdE h
  refine zt_callV (d := 1) zy_240 (show q_ins q_k240 8 = some (.invokevirtual 319, 236, 1) from rfl) zy_236 (by decide) ⟨zq_lt (by decide), by decide⟩ rfl (by simp [Value.category]) (by simp [lg_sl, Value.category]) (zt_rcv zc_163) (zt_dm (by decide) (S_M_isPlayer hca2)) ?_
  obtain ⟨hg, h⟩ := zt_ckE h
  refine zt_if_eq zy_240 (show q_ins q_k240 11 = some (.ifCond .eq 14, 25, 0) from rfl) (hg) (fun hc => ?_) (fun hc => ?_)
  · rw [if_pos hc] at h
    exact zt_wk (zt_cov_cons rfl (zt_cov_cons rfl (zt_cov_cons rfl (zt_cov_nil)))) (S_M_ofSuit_25  _ _ _ _ h)
  · rw [if_neg hc] at h
    refine zt_iload_n zy_240 (show q_ins q_k240 14 = some (.iload_n 2, 0, 0) from rfl) (v := Int32.ofInt v2) rfl ?_
    obtain ⟨a8, s9, hca8, h⟩ := zt_bdE h
    refine zt_callS (d := 1) zy_240 (show q_ins q_k240 15 = some (.invokestatic 322, 237, 1) from rfl) zy_237 (by decide) ⟨zq_lt (by decide), by decide⟩ rfl (by simp [Value.category]) (by simp [lg_sl, Value.category]) rfl (zt_dm (by decide) (S_M_isSuit hca8)) ?_
    obtain ⟨hg, h⟩ := zt_ckE h
    refine zt_if_eq zy_240 (show q_ins q_k240 18 = some (.ifCond .eq 7, 25, 0) from rfl) (hg) (fun hc => ?_) (fun hc => ?_)
    · rw [if_pos hc] at h
      exact zt_wk (zt_cov_cons rfl (zt_cov_cons rfl (zt_cov_cons rfl (zt_cov_nil)))) (S_M_ofSuit_25  _ _ _ _ h)
    · rw [if_neg hc] at h
      refine zt_iconst zy_240 (show q_ins q_k240 21 = some (.iconst 1, 0, 0) from rfl) ?_
      refine zt_goto zy_240 (show q_ins q_k240 22 = some (.goto 4, 26, 0) from rfl) ?_
      exact zt_wk (zt_cov_cons rfl (zt_cov_cons rfl (zt_cov_cons rfl (zt_cov_nil)))) (S_M_ofSuit_26  _ _ _ _ _ h)
theorem S_M_isLegal_31 {X : q_X}   : ∀ (x0 : Int) (σ : zt_S) (o : (Int × zt_S)), F_M_isLegal_31  x0 σ = some o → zt_Ex X 8 241 31 [] [.int (Int32.ofInt x0)] (zt_M σ) (zo_I o) := by
  intro x0 σ o  h
  unfold F_M_isLegal_31 at h
  obtain ⟨hg, h⟩ := zt_ckE h
  cases h
  exact zt_zret zy_241 (show q_ins q_k241 31 = some (.ireturn, 0, 0) from rfl) hg
theorem S_M_isLegal_30 {X : q_X}   : ∀  (σ : zt_S) (o : (Int × zt_S)), F_M_isLegal_30   σ = some o → zt_Ex X 8 241 30 [] [] (zt_M σ) (zo_I o) := by
  intro  σ o  h
  unfold F_M_isLegal_30 at h
  refine zt_iconst zy_241 (show q_ins q_k241 30 = some (.iconst 0, 0, 0) from rfl) ?_
  exact zt_wk (zt_cov_nil) (S_M_isLegal_31  _ _ _ h)
theorem S_M_isLegal {X : q_X}   {v1 : Int} {σ : zt_S} {o : (Int × zt_S)} (h : F_M_isLegal  v1 σ = some o) : zt_Ex X 8 241 0 (lv_args 0 [.ref 163, .int (Int32.ofInt v1)]) [] (zt_M σ) (zo_I o) := by
  unfold F_M_isLegal at h
  refine zt_aload_n zy_241 (show q_ins q_k241 0 = some (.aload_n 0, 0, 0) from rfl) (v := 163) rfl ?_
  refine zt_iconst zy_241 (show q_ins q_k241 1 = some (.iconst 0, 0, 0) from rfl) ?_
  obtain ⟨s1, hs1, h⟩ := zt_letE h
  refine zt_putI zy_241 (show q_ins q_k241 2 = some (.putfield 1, 11, 0) from rfl) (j := 0) zk_163_0 rfl rfl rfl ?_
  rw [← hs1]
  refine zt_aload_n zy_241 (show q_ins q_k241 5 = some (.aload_n 0, 0, 0) from rfl) (v := 163) rfl ?_
  refine zt_aload_n zy_241 (show q_ins q_k241 6 = some (.aload_n 0, 0, 0) from rfl) (v := 163) rfl ?_
  refine zt_iload_n zy_241 (show q_ins q_k241 7 = some (.iload_n 1, 0, 0) from rfl) (v := Int32.ofInt v1) rfl ?_
  obtain ⟨a2, s3, hca2, h⟩ := zt_bdE h
  refine zt_callV (d := 7) zy_241 (show q_ins q_k241 8 = some (.invokevirtual 314, 208, 1) from rfl) zy_208 (by decide) ⟨zq_lt (by decide), by decide⟩ rfl (by simp [Value.category]) (by simp [lg_sl, Value.category]) (zt_rcv zc_163) (zt_dm (by decide) (S_M_isCard hca2)) ?_
  refine zt_iconst zy_241 (show q_ins q_k241 11 = some (.iconst 1, 0, 0) from rfl) ?_
  obtain ⟨a4, s5, hca4, h⟩ := zt_bdE h
  refine zt_callV (d := 7) zy_241 (show q_ins q_k241 12 = some (.invokevirtual 227, 174, 2) from rfl) zy_174 (by decide) ⟨zq_lt (by decide), by decide⟩ rfl (by simp [Value.category]) (by simp [lg_sl, Value.category]) (zt_rcv zc_163) (zt_dm (by decide) (S_M_fails hca4)) ?_
  obtain ⟨hg, h⟩ := zt_ckE h
  refine zt_if_ne zy_241 (show q_ins q_k241 15 = some (.ifCond .ne 15, 30, 0) from rfl) (hg) (fun hc => ?_) (fun hc => ?_)
  · rw [if_pos hc] at h
    refine zt_aload_n zy_241 (show q_ins q_k241 18 = some (.aload_n 0, 0, 0) from rfl) (v := 163) rfl ?_
    refine zt_iload_n zy_241 (show q_ins q_k241 19 = some (.iload_n 1, 0, 0) from rfl) (v := Int32.ofInt v1) rfl ?_
    obtain ⟨a6, s7, hca6, h⟩ := zt_bdE h
    refine zt_callV (d := 7) zy_241 (show q_ins q_k241 20 = some (.invokevirtual 325, 224, 1) from rfl) zy_224 (by decide) ⟨zq_lt (by decide), by decide⟩ rfl (by simp [Value.category]) (by simp [lg_sl, Value.category]) (zt_rcv zc_163) (zt_dm (by decide) (S_M_isLegalNow hca6)) ?_
    obtain ⟨hg, h⟩ := zt_ckE h
    refine zt_if_eq zy_241 (show q_ins q_k241 23 = some (.ifCond .eq 7, 30, 0) from rfl) (hg) (fun hc => ?_) (fun hc => ?_)
    · rw [if_pos hc] at h
      exact zt_wk (zt_cov_nil) (S_M_isLegal_30  _ _ h)
    · rw [if_neg hc] at h
      refine zt_iconst zy_241 (show q_ins q_k241 26 = some (.iconst 1, 0, 0) from rfl) ?_
      refine zt_goto zy_241 (show q_ins q_k241 27 = some (.goto 4, 31, 0) from rfl) ?_
      exact zt_wk (zt_cov_nil) (S_M_isLegal_31  _ _ _ h)
  · rw [if_neg hc] at h
    exact zt_wk (zt_cov_nil) (S_M_isLegal_30  _ _ h)
theorem S_M_legal_31 {X : q_X}   {r9 : Int → Int → zt_S → Option (Int × zt_S)} (hr9 : ∀ (v1 : Int) (v2 : Int) (σ : zt_S) (o : (Int × zt_S)), r9 v1 v2 σ = some o → zt_Ex X 8 242 9 [(0, .ref 163), (1, .int (Int32.ofInt v1)), (2, .int (Int32.ofInt v2))] [] (zt_M σ) (zo_I o)) : ∀ (v2 : Int) (x0 : Int) (x1 : Int) (σ : zt_S) (o : (Int × zt_S)), F_M_legal_31  r9 v2 x0 x1 σ = some o → zt_Ex X 8 242 31 [(0, .ref 163), (2, .int (Int32.ofInt v2))] [.int (Int32.ofInt x0), .int (Int32.ofInt x1)] (zt_M σ) (zo_I o) := by
  intro v2 x0 x1 σ o  h
  unfold F_M_legal_31 at h
  refine zt_iadd zy_242 (show q_ins q_k242 31 = some (.iadd, 0, 0) from rfl) ?_
  refine zt_istore_n zy_242 (show q_ins q_k242 32 = some (.istore_n 1, 0, 0) from rfl) (by decide) ?_
  refine zt_iinc zy_242 (show q_ins q_k242 33 = some (.iinc 2 1, 0, 0) from rfl) (v := v2) (by decide) rfl ?_
  refine zt_goto zy_242 (show q_ins q_k242 36 = some (.goto (-27), 9, 0) from rfl) ?_
  exact zt_wk (zt_cov_cons rfl (zt_cov_cons rfl (zt_cov_cons rfl (zt_cov_nil)))) (hr9 _ _ _ _ h)
theorem S_M_legal_9 {X : q_X}   : ∀ (n : Nat) (v1 : Int) (v2 : Int) (σ : zt_S) (o : (Int × zt_S)), F_M_legal_9  n v1 v2 σ = some o → zt_Ex X 8 242 9 [(0, .ref 163), (1, .int (Int32.ofInt v1)), (2, .int (Int32.ofInt v2))] [] (zt_M σ) (zo_I o) := by
  intro n
  induction n with
  | zero => intro v1 v2 σ o  h; cases h
  | succ n ih =>
  intro v1 v2 σ o  h
  rw [F_M_legal_9] at h
  refine zt_iload_n zy_242 (show q_ins q_k242 9 = some (.iload_n 2, 0, 0) from rfl) (v := Int32.ofInt v2) rfl ?_
  refine zt_aload_n zy_242 (show q_ins q_k242 10 = some (.aload_n 0, 0, 0) from rfl) (v := 163) rfl ?_
  obtain ⟨a2, s3, hca2, h⟩ := zt_bdE h
  refine zt_callV (d := 7) zy_242 (show q_ins q_k242 11 = some (.invokevirtual 244, 207, 0) from rfl) zy_207 (by decide) ⟨zq_lt (by decide), by decide⟩ rfl (by simp [Value.category]) (by simp [lg_sl, Value.category]) (zt_rcv zc_163) (zt_dm (by decide) (S_M_cards hca2)) ?_
  obtain ⟨hg, h⟩ := zt_ckE h
  refine zt_icmp_ge zy_242 (show q_ins q_k242 14 = some (.if_icmp .ge 25, 39, 0) from rfl) (⟨hg.1, hg.2⟩) (fun hc => ?_) (fun hc => ?_)
  · rw [if_pos hc] at h
    refine zt_iload_n zy_242 (show q_ins q_k242 17 = some (.iload_n 1, 0, 0) from rfl) (v := Int32.ofInt v1) rfl ?_
    refine zt_aload_n zy_242 (show q_ins q_k242 18 = some (.aload_n 0, 0, 0) from rfl) (v := 163) rfl ?_
    refine zt_iload_n zy_242 (show q_ins q_k242 19 = some (.iload_n 2, 0, 0) from rfl) (v := Int32.ofInt v2) rfl ?_
    obtain ⟨a4, s5, hca4, h⟩ := zt_bdE h
    refine zt_callV (d := 7) zy_242 (show q_ins q_k242 20 = some (.invokevirtual 325, 224, 1) from rfl) zy_224 (by decide) ⟨zq_lt (by decide), by decide⟩ rfl (by simp [Value.category]) (by simp [lg_sl, Value.category]) (zt_rcv zc_163) (zt_dm (by decide) (S_M_isLegalNow hca4)) ?_
    obtain ⟨hg, h⟩ := zt_ckE h
    refine zt_if_eq zy_242 (show q_ins q_k242 23 = some (.ifCond .eq 7, 30, 0) from rfl) (hg) (fun hc => ?_) (fun hc => ?_)
    · rw [if_pos hc] at h
      refine zt_iconst zy_242 (show q_ins q_k242 30 = some (.iconst 0, 0, 0) from rfl) ?_
      exact zt_wk (zt_cov_cons rfl (zt_cov_cons rfl (zt_cov_nil))) (S_M_legal_31  ih _ _ _ _ _ h)
    · rw [if_neg hc] at h
      refine zt_iconst zy_242 (show q_ins q_k242 26 = some (.iconst 1, 0, 0) from rfl) ?_
      refine zt_goto zy_242 (show q_ins q_k242 27 = some (.goto 4, 31, 0) from rfl) ?_
      exact zt_wk (zt_cov_cons rfl (zt_cov_cons rfl (zt_cov_nil))) (S_M_legal_31  ih _ _ _ _ _ h)
  · rw [if_neg hc] at h
    refine zt_iload_n zy_242 (show q_ins q_k242 39 = some (.iload_n 1, 0, 0) from rfl) (v := Int32.ofInt v1) rfl ?_
    cases h
    exact zt_iret zy_242 (show q_ins q_k242 40 = some (.ireturn, 0, 0) from rfl)
theorem S_M_legal {X : q_X}    {σ : zt_S} {o : (Int × zt_S)} (h : F_M_legal   σ = some o) : zt_Ex X 8 242 0 (lv_args 0 [.ref 163]) [] (zt_M σ) (zo_I o) := by
  unfold F_M_legal at h
  refine zt_aload_n zy_242 (show q_ins q_k242 0 = some (.aload_n 0, 0, 0) from rfl) (v := 163) rfl ?_
  refine zt_iconst zy_242 (show q_ins q_k242 1 = some (.iconst 0, 0, 0) from rfl) ?_
  obtain ⟨s1, hs1, h⟩ := zt_letE h
  refine zt_putI zy_242 (show q_ins q_k242 2 = some (.putfield 1, 11, 0) from rfl) (j := 0) zk_163_0 rfl rfl rfl ?_
  rw [← hs1]
  refine zt_iconst zy_242 (show q_ins q_k242 5 = some (.iconst 0, 0, 0) from rfl) ?_
  refine zt_istore_n zy_242 (show q_ins q_k242 6 = some (.istore_n 1, 0, 0) from rfl) (by decide) ?_
  refine zt_iconst zy_242 (show q_ins q_k242 7 = some (.iconst 0, 0, 0) from rfl) ?_
  refine zt_istore_n zy_242 (show q_ins q_k242 8 = some (.istore_n 2, 0, 0) from rfl) (by decide) ?_
  exact zt_wk (zt_cov_cons rfl (zt_cov_cons rfl (zt_cov_cons rfl (zt_cov_nil)))) (S_M_legal_9  _ _ _ _ _ h)
theorem S_M_power_27 {X : q_X}   : ∀ (x0 : Int) (σ : zt_S) (o : (Int × zt_S)), F_M_power_27  x0 σ = some o → zt_Ex X 3 243 27 [] [.int (Int32.ofInt x0)] (zt_M σ) (zo_I o) := by
  intro x0 σ o  h
  unfold F_M_power_27 at h
  cases h
  exact zt_iret zy_243 (show q_ins q_k243 27 = some (.ireturn, 0, 0) from rfl)
theorem S_M_power {X : q_X}   {v1 : Int} {σ : zt_S} {o : (Int × zt_S)} (h : F_M_power  v1 σ = some o) : zt_Ex X 3 243 0 (lv_args 0 [.ref 163, .int (Int32.ofInt v1)]) [] (zt_M σ) (zo_I o) := by
  unfold F_M_power at h
  refine zt_aload_n zy_243 (show q_ins q_k243 0 = some (.aload_n 0, 0, 0) from rfl) (v := 163) rfl ?_
  refine zt_iconst zy_243 (show q_ins q_k243 1 = some (.iconst 0, 0, 0) from rfl) ?_
  obtain ⟨s1, hs1, h⟩ := zt_letE h
  refine zt_putI zy_243 (show q_ins q_k243 2 = some (.putfield 1, 11, 0) from rfl) (j := 0) zk_163_0 rfl rfl rfl ?_
  rw [← hs1]
  refine zt_aload_n zy_243 (show q_ins q_k243 5 = some (.aload_n 0, 0, 0) from rfl) (v := 163) rfl ?_
  refine zt_aload_n zy_243 (show q_ins q_k243 6 = some (.aload_n 0, 0, 0) from rfl) (v := 163) rfl ?_
  refine zt_iload_n zy_243 (show q_ins q_k243 7 = some (.iload_n 1, 0, 0) from rfl) (v := Int32.ofInt v1) rfl ?_
  obtain ⟨a2, s3, hca2, h⟩ := zt_bdE h
  refine zt_callV (d := 2) zy_243 (show q_ins q_k243 8 = some (.invokevirtual 314, 208, 1) from rfl) zy_208 (by decide) ⟨zq_lt (by decide), by decide⟩ rfl (by simp [Value.category]) (by simp [lg_sl, Value.category]) (zt_rcv zc_163) (zt_dm (by decide) (S_M_isCard hca2)) ?_
  refine zt_iconst zy_243 (show q_ins q_k243 11 = some (.iconst 1, 0, 0) from rfl) ?_
  obtain ⟨a4, s5, hca4, h⟩ := zt_bdE h
  refine zt_callV (d := 2) zy_243 (show q_ins q_k243 12 = some (.invokevirtual 227, 174, 2) from rfl) zy_174 (by decide) ⟨zq_lt (by decide), by decide⟩ rfl (by simp [Value.category]) (by simp [lg_sl, Value.category]) (zt_rcv zc_163) (zt_dm (by decide) (S_M_fails hca4)) ?_
  obtain ⟨hg, h⟩ := zt_ckE h
  refine zt_if_eq zy_243 (show q_ins q_k243 15 = some (.ifCond .eq 7, 22, 0) from rfl) (hg) (fun hc => ?_) (fun hc => ?_)
  · rw [if_pos hc] at h
    refine zt_aload_n zy_243 (show q_ins q_k243 22 = some (.aload_n 0, 0, 0) from rfl) (v := 163) rfl ?_
    refine zt_iload_n zy_243 (show q_ins q_k243 23 = some (.iload_n 1, 0, 0) from rfl) (v := Int32.ofInt v1) rfl ?_
    obtain ⟨a6, s7, hca6, h⟩ := zt_bdE h
    refine zt_callV (d := 2) zy_243 (show q_ins q_k243 24 = some (.invokevirtual 269, 217, 1) from rfl) zy_217 (by decide) ⟨zq_lt (by decide), by decide⟩ rfl (by simp [Value.category]) (by simp [lg_sl, Value.category]) (zt_rcv zc_163) (zt_dm (by decide) (S_M_powerNow hca6)) ?_
    exact zt_wk (zt_cov_nil) (S_M_power_27  _ _ _ h)
  · rw [if_neg hc] at h
    refine zt_iconst zy_243 (show q_ins q_k243 18 = some (.iconst 0, 0, 0) from rfl) ?_
    refine zt_goto zy_243 (show q_ins q_k243 19 = some (.goto 8, 27, 0) from rfl) ?_
    exact zt_wk (zt_cov_nil) (S_M_power_27  _ _ _ h)
theorem S_M_led {X : q_X}    {σ : zt_S} {o : (Int × zt_S)} (h : F_M_led   σ = some o) : zt_Ex X 2 244 0 (lv_args 0 [.ref 163]) [] (zt_M σ) (zo_I o) := by
  unfold F_M_led at h
  refine zt_aload_n zy_244 (show q_ins q_k244 0 = some (.aload_n 0, 0, 0) from rfl) (v := 163) rfl ?_
  refine zt_iconst zy_244 (show q_ins q_k244 1 = some (.iconst 0, 0, 0) from rfl) ?_
  obtain ⟨s1, hs1, h⟩ := zt_letE h
  refine zt_putI zy_244 (show q_ins q_k244 2 = some (.putfield 1, 11, 0) from rfl) (j := 0) zk_163_0 rfl rfl rfl ?_
  rw [← hs1]
  refine zt_aload_n zy_244 (show q_ins q_k244 5 = some (.aload_n 0, 0, 0) from rfl) (v := 163) rfl ?_
  obtain ⟨a2, s3, hca2, h⟩ := zt_bdE h
  refine zt_callV (d := 1) zy_244 (show q_ins q_k244 6 = some (.invokevirtual 263, 215, 0) from rfl) zy_215 (by decide) ⟨zq_lt (by decide), by decide⟩ rfl (by simp [Value.category]) (by simp [lg_sl, Value.category]) (zt_rcv zc_163) (zt_dm (by decide) (S_M_ledSuit hca2)) ?_
  cases h
  exact zt_iret zy_244 (show q_ins q_k244 9 = some (.ireturn, 0, 0) from rfl)
theorem S_M_winning_35 {X : q_X}   : ∀ (x0 : Int) (σ : zt_S) (o : (Int × zt_S)), F_M_winning_35  x0 σ = some o → zt_Ex X 4 245 35 [] [.int (Int32.ofInt x0)] (zt_M σ) (zo_I o) := by
  intro x0 σ o  h
  unfold F_M_winning_35 at h
  cases h
  exact zt_iret zy_245 (show q_ins q_k245 35 = some (.ireturn, 0, 0) from rfl)
theorem S_M_winning {X : q_X}    {σ : zt_S} {o : (Int × zt_S)} (h : F_M_winning   σ = some o) : zt_Ex X 4 245 0 (lv_args 0 [.ref 163]) [] (zt_M σ) (zo_I o) := by
  unfold F_M_winning at h
  refine zt_aload_n zy_245 (show q_ins q_k245 0 = some (.aload_n 0, 0, 0) from rfl) (v := 163) rfl ?_
  refine zt_iconst zy_245 (show q_ins q_k245 1 = some (.iconst 0, 0, 0) from rfl) ?_
  obtain ⟨s1, hs1, h⟩ := zt_letE h
  refine zt_putI zy_245 (show q_ins q_k245 2 = some (.putfield 1, 11, 0) from rfl) (j := 0) zk_163_0 rfl rfl rfl ?_
  rw [← hs1]
  refine zt_aload_n zy_245 (show q_ins q_k245 5 = some (.aload_n 0, 0, 0) from rfl) (v := 163) rfl ?_
  obtain ⟨a2, s3, hca2, h⟩ := zt_bdE h
  refine zt_callV (d := 3) zy_245 (show q_ins q_k245 6 = some (.invokevirtual 272, 218, 0) from rfl) zy_218 (by decide) ⟨zq_lt (by decide), by decide⟩ rfl (by simp [Value.category]) (by simp [lg_sl, Value.category]) (zt_rcv zc_163) (zt_dm (by decide) (S_M_bestPlace hca2)) ?_
  refine zt_istore_n zy_245 (show q_ins q_k245 9 = some (.istore_n 1, 0, 0) from rfl) (by decide) ?_
  refine zt_iload_n zy_245 (show q_ins q_k245 10 = some (.iload_n 1, 0, 0) from rfl) (v := Int32.ofInt a2) rfl ?_
  refine zt_iconst zy_245 (show q_ins q_k245 11 = some (.iconst (-1), 0, 0) from rfl) ?_
  obtain ⟨hg, h⟩ := zt_ckE h
  refine zt_icmp_ne zy_245 (show q_ins q_k245 12 = some (.if_icmp .ne 7, 19, 0) from rfl) (⟨hg, by decide⟩) (fun hc => ?_) (fun hc => ?_)
  · rw [if_pos hc] at h
    refine zt_iconst zy_245 (show q_ins q_k245 15 = some (.iconst (-1), 0, 0) from rfl) ?_
    refine zt_goto zy_245 (show q_ins q_k245 16 = some (.goto 19, 35, 0) from rfl) ?_
    exact zt_wk (zt_cov_nil) (S_M_winning_35  _ _ _ h)
  · rw [if_neg hc] at h
    refine zt_aload_n zy_245 (show q_ins q_k245 19 = some (.aload_n 0, 0, 0) from rfl) (v := 163) rfl ?_
    refine zt_getR zy_245 (show q_ins q_k245 20 = some (.getfield 13, 11, 1) from rfl) (r := 164) zk_163_1 ?_
    refine zt_bipush zy_245 (show q_ins q_k245 23 = some (.bipush 9, 0, 0) from rfl) (by decide) ?_
    refine zt_ald zy_245 (show q_ins q_k245 25 = some (.iaload, 0, 0) from rfl) za_164 (by decide) (by decide) ?_
    refine zt_iload_n zy_245 (show q_ins q_k245 26 = some (.iload_n 1, 0, 0) from rfl) (v := Int32.ofInt a2) rfl ?_
    refine zt_iadd zy_245 (show q_ins q_k245 27 = some (.iadd, 0, 0) from rfl) ?_
    refine zt_aload_n zy_245 (show q_ins q_k245 28 = some (.aload_n 0, 0, 0) from rfl) (v := 163) rfl ?_
    refine zt_getR zy_245 (show q_ins q_k245 29 = some (.getfield 13, 11, 1) from rfl) (r := 164) zk_163_1 ?_
    refine zt_iconst zy_245 (show q_ins q_k245 32 = some (.iconst 1, 0, 0) from rfl) ?_
    refine zt_ald zy_245 (show q_ins q_k245 33 = some (.iaload, 0, 0) from rfl) za_164 (by decide) (by decide) ?_
    obtain ⟨hg, h⟩ := zt_ckE h
    refine zt_irem zy_245 (show q_ins q_k245 34 = some (.irem, 0, 0) from rfl) hg.1 hg.2 ?_
    exact zt_wk (zt_cov_nil) (S_M_winning_35  _ _ _ h)
theorem S_M_wouldLead_31 {X : q_X}   : ∀ (x0 : Int) (σ : zt_S) (o : (Int × zt_S)), F_M_wouldLead_31  x0 σ = some o → zt_Ex X 5 246 31 [] [.int (Int32.ofInt x0)] (zt_M σ) (zo_I o) := by
  intro x0 σ o  h
  unfold F_M_wouldLead_31 at h
  obtain ⟨hg, h⟩ := zt_ckE h
  cases h
  exact zt_zret zy_246 (show q_ins q_k246 31 = some (.ireturn, 0, 0) from rfl) hg
theorem S_M_wouldLead_30 {X : q_X}   : ∀  (σ : zt_S) (o : (Int × zt_S)), F_M_wouldLead_30   σ = some o → zt_Ex X 5 246 30 [] [] (zt_M σ) (zo_I o) := by
  intro  σ o  h
  unfold F_M_wouldLead_30 at h
  refine zt_iconst zy_246 (show q_ins q_k246 30 = some (.iconst 0, 0, 0) from rfl) ?_
  exact zt_wk (zt_cov_nil) (S_M_wouldLead_31  _ _ _ h)
theorem S_M_wouldLead {X : q_X}   {v1 : Int} {σ : zt_S} {o : (Int × zt_S)} (h : F_M_wouldLead  v1 σ = some o) : zt_Ex X 5 246 0 (lv_args 0 [.ref 163, .int (Int32.ofInt v1)]) [] (zt_M σ) (zo_I o) := by
  unfold F_M_wouldLead at h
  refine zt_aload_n zy_246 (show q_ins q_k246 0 = some (.aload_n 0, 0, 0) from rfl) (v := 163) rfl ?_
  refine zt_iconst zy_246 (show q_ins q_k246 1 = some (.iconst 0, 0, 0) from rfl) ?_
  obtain ⟨s1, hs1, h⟩ := zt_letE h
  refine zt_putI zy_246 (show q_ins q_k246 2 = some (.putfield 1, 11, 0) from rfl) (j := 0) zk_163_0 rfl rfl rfl ?_
  rw [← hs1]
  refine zt_aload_n zy_246 (show q_ins q_k246 5 = some (.aload_n 0, 0, 0) from rfl) (v := 163) rfl ?_
  refine zt_aload_n zy_246 (show q_ins q_k246 6 = some (.aload_n 0, 0, 0) from rfl) (v := 163) rfl ?_
  refine zt_iload_n zy_246 (show q_ins q_k246 7 = some (.iload_n 1, 0, 0) from rfl) (v := Int32.ofInt v1) rfl ?_
  obtain ⟨a2, s3, hca2, h⟩ := zt_bdE h
  refine zt_callV (d := 4) zy_246 (show q_ins q_k246 8 = some (.invokevirtual 314, 208, 1) from rfl) zy_208 (by decide) ⟨zq_lt (by decide), by decide⟩ rfl (by simp [Value.category]) (by simp [lg_sl, Value.category]) (zt_rcv zc_163) (zt_dm (by decide) (S_M_isCard hca2)) ?_
  refine zt_iconst zy_246 (show q_ins q_k246 11 = some (.iconst 1, 0, 0) from rfl) ?_
  obtain ⟨a4, s5, hca4, h⟩ := zt_bdE h
  refine zt_callV (d := 4) zy_246 (show q_ins q_k246 12 = some (.invokevirtual 227, 174, 2) from rfl) zy_174 (by decide) ⟨zq_lt (by decide), by decide⟩ rfl (by simp [Value.category]) (by simp [lg_sl, Value.category]) (zt_rcv zc_163) (zt_dm (by decide) (S_M_fails hca4)) ?_
  obtain ⟨hg, h⟩ := zt_ckE h
  refine zt_if_ne zy_246 (show q_ins q_k246 15 = some (.ifCond .ne 15, 30, 0) from rfl) (hg) (fun hc => ?_) (fun hc => ?_)
  · rw [if_pos hc] at h
    refine zt_aload_n zy_246 (show q_ins q_k246 18 = some (.aload_n 0, 0, 0) from rfl) (v := 163) rfl ?_
    refine zt_iload_n zy_246 (show q_ins q_k246 19 = some (.iload_n 1, 0, 0) from rfl) (v := Int32.ofInt v1) rfl ?_
    obtain ⟨a6, s7, hca6, h⟩ := zt_bdE h
    refine zt_callV (d := 4) zy_246 (show q_ins q_k246 20 = some (.invokevirtual 278, 219, 1) from rfl) zy_219 (by decide) ⟨zq_lt (by decide), by decide⟩ rfl (by simp [Value.category]) (by simp [lg_sl, Value.category]) (zt_rcv zc_163) (zt_dm (by decide) (S_M_isBetter hca6)) ?_
    obtain ⟨hg, h⟩ := zt_ckE h
    refine zt_if_eq zy_246 (show q_ins q_k246 23 = some (.ifCond .eq 7, 30, 0) from rfl) (hg) (fun hc => ?_) (fun hc => ?_)
    · rw [if_pos hc] at h
      exact zt_wk (zt_cov_nil) (S_M_wouldLead_30  _ _ h)
    · rw [if_neg hc] at h
      refine zt_iconst zy_246 (show q_ins q_k246 26 = some (.iconst 1, 0, 0) from rfl) ?_
      refine zt_goto zy_246 (show q_ins q_k246 27 = some (.goto 4, 31, 0) from rfl) ?_
      exact zt_wk (zt_cov_nil) (S_M_wouldLead_31  _ _ _ h)
  · rw [if_neg hc] at h
    exact zt_wk (zt_cov_nil) (S_M_wouldLead_30  _ _ h)
theorem S_M_played_93 {X : q_X}   : ∀ (x0 : Int) (σ : zt_S) (o : (Int × zt_S)), F_M_played_93  x0 σ = some o → zt_Ex X 1 247 93 [] [.int (Int32.ofInt x0)] (zt_M σ) (zo_I o) := by
  intro x0 σ o  h
  unfold F_M_played_93 at h
  cases h
  exact zt_iret zy_247 (show q_ins q_k247 93 = some (.ireturn, 0, 0) from rfl)
theorem S_M_played_42 {X : q_X}   : ∀ (v1 : Int) (v2 : Int) (x0 : Int) (σ : zt_S) (o : (Int × zt_S)), F_M_played_42  v1 v2 x0 σ = some o → zt_Ex X 1 247 42 [(0, .ref 163), (1, .int (Int32.ofInt v1)), (2, .int (Int32.ofInt v2))] [.int (Int32.ofInt x0), .ref 163] (zt_M σ) (zo_I o) := by
  intro v1 v2 x0 σ o  h
  unfold F_M_played_42 at h
  refine zt_iconst zy_247 (show q_ins q_k247 42 = some (.iconst 1, 0, 0) from rfl) ?_
  obtain ⟨a4, s5, hca4, h⟩ := zt_bdE h
  refine zt_callV (d := 0) zy_247 (show q_ins q_k247 43 = some (.invokevirtual 227, 174, 2) from rfl) zy_174 (by decide) ⟨zq_lt (by decide), by decide⟩ rfl (by simp [Value.category]) (by simp [lg_sl, Value.category]) (zt_rcv zc_163) (zt_dm (by decide) (S_M_fails hca4)) ?_
  obtain ⟨hg, h⟩ := zt_ckE h
  refine zt_if_eq zy_247 (show q_ins q_k247 46 = some (.ifCond .eq 5, 51, 0) from rfl) (hg) (fun hc => ?_) (fun hc => ?_)
  · rw [if_pos hc] at h
    refine zt_iload_n zy_247 (show q_ins q_k247 51 = some (.iload_n 2, 0, 0) from rfl) (v := Int32.ofInt v2) rfl ?_
    obtain ⟨hg, h⟩ := zt_ckE h
    refine zt_if_ne zy_247 (show q_ins q_k247 52 = some (.ifCond .ne 15, 67, 0) from rfl) (hg) (fun hc => ?_) (fun hc => ?_)
    · rw [if_pos hc] at h
      refine zt_aload_n zy_247 (show q_ins q_k247 55 = some (.aload_n 0, 0, 0) from rfl) (v := 163) rfl ?_
      refine zt_getR zy_247 (show q_ins q_k247 56 = some (.getfield 13, 11, 1) from rfl) (r := 164) zk_163_1 ?_
      refine zt_bipush zy_247 (show q_ins q_k247 59 = some (.bipush 92, 0, 0) from rfl) (by decide) ?_
      refine zt_iload_n zy_247 (show q_ins q_k247 61 = some (.iload_n 1, 0, 0) from rfl) (v := Int32.ofInt v1) rfl ?_
      refine zt_iadd zy_247 (show q_ins q_k247 62 = some (.iadd, 0, 0) from rfl) ?_
      obtain ⟨hg, h⟩ := zt_ckE h
      refine zt_ald zy_247 (show q_ins q_k247 63 = some (.iaload, 0, 0) from rfl) za_164 (by decide) hg ?_
      refine zt_goto zy_247 (show q_ins q_k247 64 = some (.goto 29, 93, 0) from rfl) ?_
      exact zt_wk (zt_cov_nil) (S_M_played_93  _ _ _ h)
    · rw [if_neg hc] at h
      refine zt_iload_n zy_247 (show q_ins q_k247 67 = some (.iload_n 2, 0, 0) from rfl) (v := Int32.ofInt v2) rfl ?_
      refine zt_iconst zy_247 (show q_ins q_k247 68 = some (.iconst 1, 0, 0) from rfl) ?_
      obtain ⟨hg, h⟩ := zt_ckE h
      refine zt_icmp_ne zy_247 (show q_ins q_k247 69 = some (.if_icmp .ne 16, 85, 0) from rfl) (⟨hg, by decide⟩) (fun hc => ?_) (fun hc => ?_)
      · rw [if_pos hc] at h
        refine zt_aload_n zy_247 (show q_ins q_k247 72 = some (.aload_n 0, 0, 0) from rfl) (v := 163) rfl ?_
        refine zt_getR zy_247 (show q_ins q_k247 73 = some (.getfield 13, 11, 1) from rfl) (r := 164) zk_163_1 ?_
        refine zt_sipush zy_247 (show q_ins q_k247 76 = some (.sipush 144, 0, 0) from rfl) (by decide) ?_
        refine zt_iload_n zy_247 (show q_ins q_k247 79 = some (.iload_n 1, 0, 0) from rfl) (v := Int32.ofInt v1) rfl ?_
        refine zt_iadd zy_247 (show q_ins q_k247 80 = some (.iadd, 0, 0) from rfl) ?_
        obtain ⟨hg, h⟩ := zt_ckE h
        refine zt_ald zy_247 (show q_ins q_k247 81 = some (.iaload, 0, 0) from rfl) za_164 (by decide) hg ?_
        refine zt_goto zy_247 (show q_ins q_k247 82 = some (.goto 11, 93, 0) from rfl) ?_
        exact zt_wk (zt_cov_nil) (S_M_played_93  _ _ _ h)
      · rw [if_neg hc] at h
        refine zt_iload_n zy_247 (show q_ins q_k247 85 = some (.iload_n 1, 0, 0) from rfl) (v := Int32.ofInt v1) rfl ?_
        refine zt_aload_n zy_247 (show q_ins q_k247 86 = some (.aload_n 0, 0, 0) from rfl) (v := 163) rfl ?_
        refine zt_getR zy_247 (show q_ins q_k247 87 = some (.getfield 13, 11, 1) from rfl) (r := 164) zk_163_1 ?_
        refine zt_iconst zy_247 (show q_ins q_k247 90 = some (.iconst 1, 0, 0) from rfl) ?_
        refine zt_ald zy_247 (show q_ins q_k247 91 = some (.iaload, 0, 0) from rfl) za_164 (by decide) (by decide) ?_
        obtain ⟨hg, h⟩ := zt_ckE h
        refine zt_idiv zy_247 (show q_ins q_k247 92 = some (.idiv, 0, 0) from rfl) hg.1 hg.2 ?_
        exact zt_wk (zt_cov_nil) (S_M_played_93  _ _ _ h)
  · rw [if_neg hc] at h
    refine zt_iconst zy_247 (show q_ins q_k247 49 = some (.iconst 0, 0, 0) from rfl) ?_
    cases h
    exact zt_iret zy_247 (show q_ins q_k247 50 = some (.ireturn, 0, 0) from rfl)
theorem S_M_played_41 {X : q_X}   : ∀ (v1 : Int) (v2 : Int) (σ : zt_S) (o : (Int × zt_S)), F_M_played_41  v1 v2 σ = some o → zt_Ex X 1 247 41 [(0, .ref 163), (1, .int (Int32.ofInt v1)), (2, .int (Int32.ofInt v2))] [.ref 163] (zt_M σ) (zo_I o) := by
  intro v1 v2 σ o  h
  unfold F_M_played_41 at h
  refine zt_iconst zy_247 (show q_ins q_k247 41 = some (.iconst 0, 0, 0) from rfl) ?_
  exact zt_wk (zt_cov_cons rfl (zt_cov_cons rfl (zt_cov_cons rfl (zt_cov_nil)))) (S_M_played_42  _ _ _ _ _ h)
theorem S_M_played {X : q_X}   {v1 : Int} {v2 : Int} {σ : zt_S} {o : (Int × zt_S)} (h : F_M_played  v1 v2 σ = some o) : zt_Ex X 1 247 0 (lv_args 0 [.ref 163, .int (Int32.ofInt v1), .int (Int32.ofInt v2)]) [] (zt_M σ) (zo_I o) := by
  unfold F_M_played at h
  refine zt_aload_n zy_247 (show q_ins q_k247 0 = some (.aload_n 0, 0, 0) from rfl) (v := 163) rfl ?_
  refine zt_iconst zy_247 (show q_ins q_k247 1 = some (.iconst 0, 0, 0) from rfl) ?_
  obtain ⟨s1, hs1, h⟩ := zt_letE h
  refine zt_putI zy_247 (show q_ins q_k247 2 = some (.putfield 1, 11, 0) from rfl) (j := 0) zk_163_0 rfl rfl rfl ?_
  rw [← hs1]
  refine zt_aload_n zy_247 (show q_ins q_k247 5 = some (.aload_n 0, 0, 0) from rfl) (v := 163) rfl ?_
  refine zt_iload_n zy_247 (show q_ins q_k247 6 = some (.iload_n 1, 0, 0) from rfl) (v := Int32.ofInt v1) rfl ?_
  refine zt_i2l zy_247 (show q_ins q_k247 7 = some (.i2l, 0, 0) from rfl) ?_
  refine zt_lconst zy_247 (show q_ins q_k247 8 = some (.lconst 0, 0, 0) from rfl) (v := (0 : Int64)) (by decide) ?_
  refine zt_aload_n zy_247 (show q_ins q_k247 9 = some (.aload_n 0, 0, 0) from rfl) (v := 163) rfl ?_
  refine zt_getR zy_247 (show q_ins q_k247 10 = some (.getfield 13, 11, 1) from rfl) (r := 164) zk_163_1 ?_
  refine zt_bipush zy_247 (show q_ins q_k247 13 = some (.bipush 12, 0, 0) from rfl) (by decide) ?_
  refine zt_ald zy_247 (show q_ins q_k247 15 = some (.iaload, 0, 0) from rfl) za_164 (by decide) (by decide) ?_
  refine zt_iconst zy_247 (show q_ins q_k247 16 = some (.iconst 1, 0, 0) from rfl) ?_
  refine zt_isub zy_247 (show q_ins q_k247 17 = some (.isub, 0, 0) from rfl) ?_
  refine zt_i2l zy_247 (show q_ins q_k247 18 = some (.i2l, 0, 0) from rfl) ?_
  obtain ⟨a2, s3, hca2, h⟩ := zt_bdE h
  refine zt_callS (d := 0) zy_247 (show q_ins q_k247 19 = some (.invokestatic 170, 171, 3) from rfl) zy_171 (by decide) ⟨zq_lt (by decide), by decide⟩ rfl (by simp [Value.category]) (by simp [lg_sl, Value.category]) rfl (zt_dm (by decide) (S_M_in hca2)) ?_
  obtain ⟨hg, h⟩ := zt_ckE h
  refine zt_if_eq zy_247 (show q_ins q_k247 22 = some (.ifCond .eq 19, 41, 0) from rfl) (hg) (fun hc => ?_) (fun hc => ?_)
  · rw [if_pos hc] at h
    exact zt_wk (zt_cov_cons rfl (zt_cov_cons rfl (zt_cov_cons rfl (zt_cov_nil)))) (S_M_played_41  _ _ _ _ h)
  · rw [if_neg hc] at h
    refine zt_iload_n zy_247 (show q_ins q_k247 25 = some (.iload_n 2, 0, 0) from rfl) (v := Int32.ofInt v2) rfl ?_
    refine zt_i2l zy_247 (show q_ins q_k247 26 = some (.i2l, 0, 0) from rfl) ?_
    refine zt_lconst zy_247 (show q_ins q_k247 27 = some (.lconst 0, 0, 0) from rfl) (v := (0 : Int64)) (by decide) ?_
    refine zt_ldc2 zy_247 (show q_ins q_k247 28 = some (.ldc2_w 328, 0, 2) from rfl) (v := (2 : Int64)) (by decide) ?_
    obtain ⟨a6, s7, hca6, h⟩ := zt_bdE h
    refine zt_callS (d := 0) zy_247 (show q_ins q_k247 31 = some (.invokestatic 170, 171, 3) from rfl) zy_171 (by decide) ⟨zq_lt (by decide), by decide⟩ rfl (by simp [Value.category]) (by simp [lg_sl, Value.category]) rfl (zt_dm (by decide) (S_M_in hca6)) ?_
    obtain ⟨hg, h⟩ := zt_ckE h
    refine zt_if_eq zy_247 (show q_ins q_k247 34 = some (.ifCond .eq 7, 41, 0) from rfl) (hg) (fun hc => ?_) (fun hc => ?_)
    · rw [if_pos hc] at h
      exact zt_wk (zt_cov_cons rfl (zt_cov_cons rfl (zt_cov_cons rfl (zt_cov_nil)))) (S_M_played_41  _ _ _ _ h)
    · rw [if_neg hc] at h
      refine zt_iconst zy_247 (show q_ins q_k247 37 = some (.iconst 1, 0, 0) from rfl) ?_
      refine zt_goto zy_247 (show q_ins q_k247 38 = some (.goto 4, 42, 0) from rfl) ?_
      exact zt_wk (zt_cov_cons rfl (zt_cov_cons rfl (zt_cov_cons rfl (zt_cov_nil)))) (S_M_played_42  _ _ _ _ _ h)
theorem S_M_trick_64 {X : q_X}   : ∀ (x0 : Int) (σ : zt_S) (o : (Int × zt_S)), F_M_trick_64  x0 σ = some o → zt_Ex X 1 248 64 [] [.int (Int32.ofInt x0)] (zt_M σ) (zo_I o) := by
  intro x0 σ o  h
  unfold F_M_trick_64 at h
  cases h
  exact zt_iret zy_248 (show q_ins q_k248 64 = some (.ireturn, 0, 0) from rfl)
theorem S_M_trick_42 {X : q_X}   : ∀ (v1 : Int) (v2 : Int) (x0 : Int) (σ : zt_S) (o : (Int × zt_S)), F_M_trick_42  v1 v2 x0 σ = some o → zt_Ex X 1 248 42 [(0, .ref 163), (1, .int (Int32.ofInt v1)), (2, .int (Int32.ofInt v2))] [.int (Int32.ofInt x0), .ref 163] (zt_M σ) (zo_I o) := by
  intro v1 v2 x0 σ o  h
  unfold F_M_trick_42 at h
  refine zt_iconst zy_248 (show q_ins q_k248 42 = some (.iconst 1, 0, 0) from rfl) ?_
  obtain ⟨a4, s5, hca4, h⟩ := zt_bdE h
  refine zt_callV (d := 0) zy_248 (show q_ins q_k248 43 = some (.invokevirtual 227, 174, 2) from rfl) zy_174 (by decide) ⟨zq_lt (by decide), by decide⟩ rfl (by simp [Value.category]) (by simp [lg_sl, Value.category]) (zt_rcv zc_163) (zt_dm (by decide) (S_M_fails hca4)) ?_
  obtain ⟨hg, h⟩ := zt_ckE h
  refine zt_if_eq zy_248 (show q_ins q_k248 46 = some (.ifCond .eq 7, 53, 0) from rfl) (hg) (fun hc => ?_) (fun hc => ?_)
  · rw [if_pos hc] at h
    refine zt_aload_n zy_248 (show q_ins q_k248 53 = some (.aload_n 0, 0, 0) from rfl) (v := 163) rfl ?_
    refine zt_getR zy_248 (show q_ins q_k248 54 = some (.getfield 13, 11, 1) from rfl) (r := 164) zk_163_1 ?_
    refine zt_aload_n zy_248 (show q_ins q_k248 57 = some (.aload_n 0, 0, 0) from rfl) (v := 163) rfl ?_
    refine zt_iload_n zy_248 (show q_ins q_k248 58 = some (.iload_n 1, 0, 0) from rfl) (v := Int32.ofInt v1) rfl ?_
    refine zt_iload_n zy_248 (show q_ins q_k248 59 = some (.iload_n 2, 0, 0) from rfl) (v := Int32.ofInt v2) rfl ?_
    obtain ⟨a6, s7, hca6, h⟩ := zt_bdE h
    refine zt_callV (d := 0) zy_248 (show q_ins q_k248 60 = some (.invokevirtual 297, 225, 2) from rfl) zy_225 (by decide) ⟨zq_lt (by decide), by decide⟩ rfl (by simp [Value.category]) (by simp [lg_sl, Value.category]) (zt_rcv zc_163) (zt_dm (by decide) (S_M_trickCell hca6)) ?_
    obtain ⟨hg, h⟩ := zt_ckE h
    refine zt_ald zy_248 (show q_ins q_k248 63 = some (.iaload, 0, 0) from rfl) za_164 (by decide) hg ?_
    exact zt_wk (zt_cov_nil) (S_M_trick_64  _ _ _ h)
  · rw [if_neg hc] at h
    refine zt_iconst zy_248 (show q_ins q_k248 49 = some (.iconst 0, 0, 0) from rfl) ?_
    refine zt_goto zy_248 (show q_ins q_k248 50 = some (.goto 14, 64, 0) from rfl) ?_
    exact zt_wk (zt_cov_nil) (S_M_trick_64  _ _ _ h)
theorem S_M_trick_41 {X : q_X}   : ∀ (v1 : Int) (v2 : Int) (σ : zt_S) (o : (Int × zt_S)), F_M_trick_41  v1 v2 σ = some o → zt_Ex X 1 248 41 [(0, .ref 163), (1, .int (Int32.ofInt v1)), (2, .int (Int32.ofInt v2))] [.ref 163] (zt_M σ) (zo_I o) := by
  intro v1 v2 σ o  h
  unfold F_M_trick_41 at h
  refine zt_iconst zy_248 (show q_ins q_k248 41 = some (.iconst 0, 0, 0) from rfl) ?_
  exact zt_wk (zt_cov_cons rfl (zt_cov_cons rfl (zt_cov_cons rfl (zt_cov_nil)))) (S_M_trick_42  _ _ _ _ _ h)
theorem S_M_trick {X : q_X}   {v1 : Int} {v2 : Int} {σ : zt_S} {o : (Int × zt_S)} (h : F_M_trick  v1 v2 σ = some o) : zt_Ex X 1 248 0 (lv_args 0 [.ref 163, .int (Int32.ofInt v1), .int (Int32.ofInt v2)]) [] (zt_M σ) (zo_I o) := by
  unfold F_M_trick at h
  refine zt_aload_n zy_248 (show q_ins q_k248 0 = some (.aload_n 0, 0, 0) from rfl) (v := 163) rfl ?_
  refine zt_iconst zy_248 (show q_ins q_k248 1 = some (.iconst 0, 0, 0) from rfl) ?_
  obtain ⟨s1, hs1, h⟩ := zt_letE h
  refine zt_putI zy_248 (show q_ins q_k248 2 = some (.putfield 1, 11, 0) from rfl) (j := 0) zk_163_0 rfl rfl rfl ?_
  rw [← hs1]
  refine zt_aload_n zy_248 (show q_ins q_k248 5 = some (.aload_n 0, 0, 0) from rfl) (v := 163) rfl ?_
  refine zt_iload_n zy_248 (show q_ins q_k248 6 = some (.iload_n 1, 0, 0) from rfl) (v := Int32.ofInt v1) rfl ?_
  refine zt_i2l zy_248 (show q_ins q_k248 7 = some (.i2l, 0, 0) from rfl) ?_
  refine zt_lconst zy_248 (show q_ins q_k248 8 = some (.lconst 0, 0, 0) from rfl) (v := (0 : Int64)) (by decide) ?_
  refine zt_aload_n zy_248 (show q_ins q_k248 9 = some (.aload_n 0, 0, 0) from rfl) (v := 163) rfl ?_
  refine zt_getR zy_248 (show q_ins q_k248 10 = some (.getfield 13, 11, 1) from rfl) (r := 164) zk_163_1 ?_
  refine zt_bipush zy_248 (show q_ins q_k248 13 = some (.bipush 13, 0, 0) from rfl) (by decide) ?_
  refine zt_ald zy_248 (show q_ins q_k248 15 = some (.iaload, 0, 0) from rfl) za_164 (by decide) (by decide) ?_
  refine zt_iconst zy_248 (show q_ins q_k248 16 = some (.iconst 1, 0, 0) from rfl) ?_
  refine zt_isub zy_248 (show q_ins q_k248 17 = some (.isub, 0, 0) from rfl) ?_
  refine zt_i2l zy_248 (show q_ins q_k248 18 = some (.i2l, 0, 0) from rfl) ?_
  obtain ⟨a2, s3, hca2, h⟩ := zt_bdE h
  refine zt_callS (d := 0) zy_248 (show q_ins q_k248 19 = some (.invokestatic 170, 171, 3) from rfl) zy_171 (by decide) ⟨zq_lt (by decide), by decide⟩ rfl (by simp [Value.category]) (by simp [lg_sl, Value.category]) rfl (zt_dm (by decide) (S_M_in hca2)) ?_
  obtain ⟨hg, h⟩ := zt_ckE h
  refine zt_if_eq zy_248 (show q_ins q_k248 22 = some (.ifCond .eq 19, 41, 0) from rfl) (hg) (fun hc => ?_) (fun hc => ?_)
  · rw [if_pos hc] at h
    exact zt_wk (zt_cov_cons rfl (zt_cov_cons rfl (zt_cov_cons rfl (zt_cov_nil)))) (S_M_trick_41  _ _ _ _ h)
  · rw [if_neg hc] at h
    refine zt_iload_n zy_248 (show q_ins q_k248 25 = some (.iload_n 2, 0, 0) from rfl) (v := Int32.ofInt v2) rfl ?_
    refine zt_i2l zy_248 (show q_ins q_k248 26 = some (.i2l, 0, 0) from rfl) ?_
    refine zt_lconst zy_248 (show q_ins q_k248 27 = some (.lconst 0, 0, 0) from rfl) (v := (0 : Int64)) (by decide) ?_
    refine zt_ldc2 zy_248 (show q_ins q_k248 28 = some (.ldc2_w 330, 0, 5) from rfl) (v := (5 : Int64)) (by decide) ?_
    obtain ⟨a8, s9, hca8, h⟩ := zt_bdE h
    refine zt_callS (d := 0) zy_248 (show q_ins q_k248 31 = some (.invokestatic 170, 171, 3) from rfl) zy_171 (by decide) ⟨zq_lt (by decide), by decide⟩ rfl (by simp [Value.category]) (by simp [lg_sl, Value.category]) rfl (zt_dm (by decide) (S_M_in hca8)) ?_
    obtain ⟨hg, h⟩ := zt_ckE h
    refine zt_if_eq zy_248 (show q_ins q_k248 34 = some (.ifCond .eq 7, 41, 0) from rfl) (hg) (fun hc => ?_) (fun hc => ?_)
    · rw [if_pos hc] at h
      exact zt_wk (zt_cov_cons rfl (zt_cov_cons rfl (zt_cov_cons rfl (zt_cov_nil)))) (S_M_trick_41  _ _ _ _ h)
    · rw [if_neg hc] at h
      refine zt_iconst zy_248 (show q_ins q_k248 37 = some (.iconst 1, 0, 0) from rfl) ?_
      refine zt_goto zy_248 (show q_ins q_k248 38 = some (.goto 4, 42, 0) from rfl) ?_
      exact zt_wk (zt_cov_cons rfl (zt_cov_cons rfl (zt_cov_cons rfl (zt_cov_nil)))) (S_M_trick_42  _ _ _ _ _ h)
theorem S_M_tricks_27 {X : q_X}   : ∀ (x0 : Int) (σ : zt_S) (o : (Int × zt_S)), F_M_tricks_27  x0 σ = some o → zt_Ex X 2 249 27 [] [.int (Int32.ofInt x0)] (zt_M σ) (zo_I o) := by
  intro x0 σ o  h
  unfold F_M_tricks_27 at h
  cases h
  exact zt_iret zy_249 (show q_ins q_k249 27 = some (.ireturn, 0, 0) from rfl)
theorem S_M_tricks {X : q_X}   {v1 : Int} {σ : zt_S} {o : (Int × zt_S)} (h : F_M_tricks  v1 σ = some o) : zt_Ex X 2 249 0 (lv_args 0 [.ref 163, .int (Int32.ofInt v1)]) [] (zt_M σ) (zo_I o) := by
  unfold F_M_tricks at h
  refine zt_aload_n zy_249 (show q_ins q_k249 0 = some (.aload_n 0, 0, 0) from rfl) (v := 163) rfl ?_
  refine zt_iconst zy_249 (show q_ins q_k249 1 = some (.iconst 0, 0, 0) from rfl) ?_
  obtain ⟨s1, hs1, h⟩ := zt_letE h
  refine zt_putI zy_249 (show q_ins q_k249 2 = some (.putfield 1, 11, 0) from rfl) (j := 0) zk_163_0 rfl rfl rfl ?_
  rw [← hs1]
  refine zt_aload_n zy_249 (show q_ins q_k249 5 = some (.aload_n 0, 0, 0) from rfl) (v := 163) rfl ?_
  refine zt_aload_n zy_249 (show q_ins q_k249 6 = some (.aload_n 0, 0, 0) from rfl) (v := 163) rfl ?_
  refine zt_iload_n zy_249 (show q_ins q_k249 7 = some (.iload_n 1, 0, 0) from rfl) (v := Int32.ofInt v1) rfl ?_
  obtain ⟨a2, s3, hca2, h⟩ := zt_bdE h
  refine zt_callV (d := 1) zy_249 (show q_ins q_k249 8 = some (.invokevirtual 319, 236, 1) from rfl) zy_236 (by decide) ⟨zq_lt (by decide), by decide⟩ rfl (by simp [Value.category]) (by simp [lg_sl, Value.category]) (zt_rcv zc_163) (zt_dm (by decide) (S_M_isPlayer hca2)) ?_
  refine zt_iconst zy_249 (show q_ins q_k249 11 = some (.iconst 1, 0, 0) from rfl) ?_
  obtain ⟨a4, s5, hca4, h⟩ := zt_bdE h
  refine zt_callV (d := 1) zy_249 (show q_ins q_k249 12 = some (.invokevirtual 227, 174, 2) from rfl) zy_174 (by decide) ⟨zq_lt (by decide), by decide⟩ rfl (by simp [Value.category]) (by simp [lg_sl, Value.category]) (zt_rcv zc_163) (zt_dm (by decide) (S_M_fails hca4)) ?_
  obtain ⟨hg, h⟩ := zt_ckE h
  refine zt_if_eq zy_249 (show q_ins q_k249 15 = some (.ifCond .eq 7, 22, 0) from rfl) (hg) (fun hc => ?_) (fun hc => ?_)
  · rw [if_pos hc] at h
    refine zt_aload_n zy_249 (show q_ins q_k249 22 = some (.aload_n 0, 0, 0) from rfl) (v := 163) rfl ?_
    refine zt_iload_n zy_249 (show q_ins q_k249 23 = some (.iload_n 1, 0, 0) from rfl) (v := Int32.ofInt v1) rfl ?_
    obtain ⟨a6, s7, hca6, h⟩ := zt_bdE h
    refine zt_callV (d := 1) zy_249 (show q_ins q_k249 24 = some (.invokevirtual 306, 229, 1) from rfl) zy_229 (by decide) ⟨zq_lt (by decide), by decide⟩ rfl (by simp [Value.category]) (by simp [lg_sl, Value.category]) (zt_rcv zc_163) (zt_dm (by decide) (S_M_tricksOf hca6)) ?_
    exact zt_wk (zt_cov_nil) (S_M_tricks_27  _ _ _ h)
  · rw [if_neg hc] at h
    refine zt_iconst zy_249 (show q_ins q_k249 18 = some (.iconst 0, 0, 0) from rfl) ?_
    refine zt_goto zy_249 (show q_ins q_k249 19 = some (.goto 8, 27, 0) from rfl) ?_
    exact zt_wk (zt_cov_nil) (S_M_tricks_27  _ _ _ h)
theorem S_M_told_31 {X : q_X}   : ∀ (x0 : Int) (σ : zt_S) (o : (Int × zt_S)), F_M_told_31  x0 σ = some o → zt_Ex X 2 250 31 [] [.int (Int32.ofInt x0)] (zt_M σ) (zo_I o) := by
  intro x0 σ o  h
  unfold F_M_told_31 at h
  cases h
  exact zt_iret zy_250 (show q_ins q_k250 31 = some (.ireturn, 0, 0) from rfl)
theorem S_M_told {X : q_X}   {v1 : Int} {σ : zt_S} {o : (Int × zt_S)} (h : F_M_told  v1 σ = some o) : zt_Ex X 2 250 0 (lv_args 0 [.ref 163, .int (Int32.ofInt v1)]) [] (zt_M σ) (zo_I o) := by
  unfold F_M_told at h
  refine zt_aload_n zy_250 (show q_ins q_k250 0 = some (.aload_n 0, 0, 0) from rfl) (v := 163) rfl ?_
  refine zt_iconst zy_250 (show q_ins q_k250 1 = some (.iconst 0, 0, 0) from rfl) ?_
  obtain ⟨s1, hs1, h⟩ := zt_letE h
  refine zt_putI zy_250 (show q_ins q_k250 2 = some (.putfield 1, 11, 0) from rfl) (j := 0) zk_163_0 rfl rfl rfl ?_
  rw [← hs1]
  refine zt_aload_n zy_250 (show q_ins q_k250 5 = some (.aload_n 0, 0, 0) from rfl) (v := 163) rfl ?_
  refine zt_aload_n zy_250 (show q_ins q_k250 6 = some (.aload_n 0, 0, 0) from rfl) (v := 163) rfl ?_
  refine zt_iload_n zy_250 (show q_ins q_k250 7 = some (.iload_n 1, 0, 0) from rfl) (v := Int32.ofInt v1) rfl ?_
  obtain ⟨a2, s3, hca2, h⟩ := zt_bdE h
  refine zt_callV (d := 1) zy_250 (show q_ins q_k250 8 = some (.invokevirtual 319, 236, 1) from rfl) zy_236 (by decide) ⟨zq_lt (by decide), by decide⟩ rfl (by simp [Value.category]) (by simp [lg_sl, Value.category]) (zt_rcv zc_163) (zt_dm (by decide) (S_M_isPlayer hca2)) ?_
  refine zt_iconst zy_250 (show q_ins q_k250 11 = some (.iconst 1, 0, 0) from rfl) ?_
  obtain ⟨a4, s5, hca4, h⟩ := zt_bdE h
  refine zt_callV (d := 1) zy_250 (show q_ins q_k250 12 = some (.invokevirtual 227, 174, 2) from rfl) zy_174 (by decide) ⟨zq_lt (by decide), by decide⟩ rfl (by simp [Value.category]) (by simp [lg_sl, Value.category]) (zt_rcv zc_163) (zt_dm (by decide) (S_M_fails hca4)) ?_
  obtain ⟨hg, h⟩ := zt_ckE h
  refine zt_if_eq zy_250 (show q_ins q_k250 15 = some (.ifCond .eq 7, 22, 0) from rfl) (hg) (fun hc => ?_) (fun hc => ?_)
  · rw [if_pos hc] at h
    refine zt_aload_n zy_250 (show q_ins q_k250 22 = some (.aload_n 0, 0, 0) from rfl) (v := 163) rfl ?_
    refine zt_getR zy_250 (show q_ins q_k250 23 = some (.getfield 13, 11, 1) from rfl) (r := 164) zk_163_1 ?_
    refine zt_bipush zy_250 (show q_ins q_k250 26 = some (.bipush 16, 0, 0) from rfl) (by decide) ?_
    refine zt_iload_n zy_250 (show q_ins q_k250 28 = some (.iload_n 1, 0, 0) from rfl) (v := Int32.ofInt v1) rfl ?_
    refine zt_iadd zy_250 (show q_ins q_k250 29 = some (.iadd, 0, 0) from rfl) ?_
    obtain ⟨hg, h⟩ := zt_ckE h
    refine zt_ald zy_250 (show q_ins q_k250 30 = some (.iaload, 0, 0) from rfl) za_164 (by decide) hg ?_
    exact zt_wk (zt_cov_nil) (S_M_told_31  _ _ _ h)
  · rw [if_neg hc] at h
    refine zt_iconst zy_250 (show q_ins q_k250 18 = some (.iconst 0, 0, 0) from rfl) ?_
    refine zt_goto zy_250 (show q_ins q_k250 19 = some (.goto 12, 31, 0) from rfl) ?_
    exact zt_wk (zt_cov_nil) (S_M_told_31  _ _ _ h)
theorem S_M_result_27 {X : q_X}   : ∀ (x0 : Int) (σ : zt_S) (o : (Int × zt_S)), F_M_result_27  x0 σ = some o → zt_Ex X 3 251 27 [] [.int (Int32.ofInt x0)] (zt_M σ) (zo_I o) := by
  intro x0 σ o  h
  unfold F_M_result_27 at h
  cases h
  exact zt_iret zy_251 (show q_ins q_k251 27 = some (.ireturn, 0, 0) from rfl)
theorem S_M_result {X : q_X}   {v1 : Int} {σ : zt_S} {o : (Int × zt_S)} (h : F_M_result  v1 σ = some o) : zt_Ex X 3 251 0 (lv_args 0 [.ref 163, .int (Int32.ofInt v1)]) [] (zt_M σ) (zo_I o) := by
  unfold F_M_result at h
  refine zt_aload_n zy_251 (show q_ins q_k251 0 = some (.aload_n 0, 0, 0) from rfl) (v := 163) rfl ?_
  refine zt_iconst zy_251 (show q_ins q_k251 1 = some (.iconst 0, 0, 0) from rfl) ?_
  obtain ⟨s1, hs1, h⟩ := zt_letE h
  refine zt_putI zy_251 (show q_ins q_k251 2 = some (.putfield 1, 11, 0) from rfl) (j := 0) zk_163_0 rfl rfl rfl ?_
  rw [← hs1]
  refine zt_aload_n zy_251 (show q_ins q_k251 5 = some (.aload_n 0, 0, 0) from rfl) (v := 163) rfl ?_
  refine zt_aload_n zy_251 (show q_ins q_k251 6 = some (.aload_n 0, 0, 0) from rfl) (v := 163) rfl ?_
  refine zt_iload_n zy_251 (show q_ins q_k251 7 = some (.iload_n 1, 0, 0) from rfl) (v := Int32.ofInt v1) rfl ?_
  obtain ⟨a2, s3, hca2, h⟩ := zt_bdE h
  refine zt_callV (d := 2) zy_251 (show q_ins q_k251 8 = some (.invokevirtual 319, 236, 1) from rfl) zy_236 (by decide) ⟨zq_lt (by decide), by decide⟩ rfl (by simp [Value.category]) (by simp [lg_sl, Value.category]) (zt_rcv zc_163) (zt_dm (by decide) (S_M_isPlayer hca2)) ?_
  refine zt_iconst zy_251 (show q_ins q_k251 11 = some (.iconst 1, 0, 0) from rfl) ?_
  obtain ⟨a4, s5, hca4, h⟩ := zt_bdE h
  refine zt_callV (d := 2) zy_251 (show q_ins q_k251 12 = some (.invokevirtual 227, 174, 2) from rfl) zy_174 (by decide) ⟨zq_lt (by decide), by decide⟩ rfl (by simp [Value.category]) (by simp [lg_sl, Value.category]) (zt_rcv zc_163) (zt_dm (by decide) (S_M_fails hca4)) ?_
  obtain ⟨hg, h⟩ := zt_ckE h
  refine zt_if_eq zy_251 (show q_ins q_k251 15 = some (.ifCond .eq 7, 22, 0) from rfl) (hg) (fun hc => ?_) (fun hc => ?_)
  · rw [if_pos hc] at h
    refine zt_aload_n zy_251 (show q_ins q_k251 22 = some (.aload_n 0, 0, 0) from rfl) (v := 163) rfl ?_
    refine zt_iload_n zy_251 (show q_ins q_k251 23 = some (.iload_n 1, 0, 0) from rfl) (v := Int32.ofInt v1) rfl ?_
    obtain ⟨a6, s7, hca6, h⟩ := zt_bdE h
    refine zt_callV (d := 2) zy_251 (show q_ins q_k251 24 = some (.invokevirtual 309, 230, 1) from rfl) zy_230 (by decide) ⟨zq_lt (by decide), by decide⟩ rfl (by simp [Value.category]) (by simp [lg_sl, Value.category]) (zt_rcv zc_163) (zt_dm (by decide) (S_M_resultOf hca6)) ?_
    exact zt_wk (zt_cov_nil) (S_M_result_27  _ _ _ h)
  · rw [if_neg hc] at h
    refine zt_iconst zy_251 (show q_ins q_k251 18 = some (.iconst 0, 0, 0) from rfl) ?_
    refine zt_goto zy_251 (show q_ins q_k251 19 = some (.goto 8, 27, 0) from rfl) ?_
    exact zt_wk (zt_cov_nil) (S_M_result_27  _ _ _ h)
theorem S_M_points_31 {X : q_X}   : ∀ (x0 : Int) (σ : zt_S) (o : (Int × zt_S)), F_M_points_31  x0 σ = some o → zt_Ex X 2 252 31 [] [.int (Int32.ofInt x0)] (zt_M σ) (zo_I o) := by
  intro x0 σ o  h
  unfold F_M_points_31 at h
  cases h
  exact zt_iret zy_252 (show q_ins q_k252 31 = some (.ireturn, 0, 0) from rfl)
theorem S_M_points {X : q_X}   {v1 : Int} {σ : zt_S} {o : (Int × zt_S)} (h : F_M_points  v1 σ = some o) : zt_Ex X 2 252 0 (lv_args 0 [.ref 163, .int (Int32.ofInt v1)]) [] (zt_M σ) (zo_I o) := by
  unfold F_M_points at h
  refine zt_aload_n zy_252 (show q_ins q_k252 0 = some (.aload_n 0, 0, 0) from rfl) (v := 163) rfl ?_
  refine zt_iconst zy_252 (show q_ins q_k252 1 = some (.iconst 0, 0, 0) from rfl) ?_
  obtain ⟨s1, hs1, h⟩ := zt_letE h
  refine zt_putI zy_252 (show q_ins q_k252 2 = some (.putfield 1, 11, 0) from rfl) (j := 0) zk_163_0 rfl rfl rfl ?_
  rw [← hs1]
  refine zt_aload_n zy_252 (show q_ins q_k252 5 = some (.aload_n 0, 0, 0) from rfl) (v := 163) rfl ?_
  refine zt_aload_n zy_252 (show q_ins q_k252 6 = some (.aload_n 0, 0, 0) from rfl) (v := 163) rfl ?_
  refine zt_iload_n zy_252 (show q_ins q_k252 7 = some (.iload_n 1, 0, 0) from rfl) (v := Int32.ofInt v1) rfl ?_
  obtain ⟨a2, s3, hca2, h⟩ := zt_bdE h
  refine zt_callV (d := 1) zy_252 (show q_ins q_k252 8 = some (.invokevirtual 319, 236, 1) from rfl) zy_236 (by decide) ⟨zq_lt (by decide), by decide⟩ rfl (by simp [Value.category]) (by simp [lg_sl, Value.category]) (zt_rcv zc_163) (zt_dm (by decide) (S_M_isPlayer hca2)) ?_
  refine zt_iconst zy_252 (show q_ins q_k252 11 = some (.iconst 1, 0, 0) from rfl) ?_
  obtain ⟨a4, s5, hca4, h⟩ := zt_bdE h
  refine zt_callV (d := 1) zy_252 (show q_ins q_k252 12 = some (.invokevirtual 227, 174, 2) from rfl) zy_174 (by decide) ⟨zq_lt (by decide), by decide⟩ rfl (by simp [Value.category]) (by simp [lg_sl, Value.category]) (zt_rcv zc_163) (zt_dm (by decide) (S_M_fails hca4)) ?_
  obtain ⟨hg, h⟩ := zt_ckE h
  refine zt_if_eq zy_252 (show q_ins q_k252 15 = some (.ifCond .eq 7, 22, 0) from rfl) (hg) (fun hc => ?_) (fun hc => ?_)
  · rw [if_pos hc] at h
    refine zt_aload_n zy_252 (show q_ins q_k252 22 = some (.aload_n 0, 0, 0) from rfl) (v := 163) rfl ?_
    refine zt_getR zy_252 (show q_ins q_k252 23 = some (.getfield 13, 11, 1) from rfl) (r := 164) zk_163_1 ?_
    refine zt_bipush zy_252 (show q_ins q_k252 26 = some (.bipush 20, 0, 0) from rfl) (by decide) ?_
    refine zt_iload_n zy_252 (show q_ins q_k252 28 = some (.iload_n 1, 0, 0) from rfl) (v := Int32.ofInt v1) rfl ?_
    refine zt_iadd zy_252 (show q_ins q_k252 29 = some (.iadd, 0, 0) from rfl) ?_
    obtain ⟨hg, h⟩ := zt_ckE h
    refine zt_ald zy_252 (show q_ins q_k252 30 = some (.iaload, 0, 0) from rfl) za_164 (by decide) hg ?_
    exact zt_wk (zt_cov_nil) (S_M_points_31  _ _ _ h)
  · rw [if_neg hc] at h
    refine zt_iconst zy_252 (show q_ins q_k252 18 = some (.iconst 0, 0, 0) from rfl) ?_
    refine zt_goto zy_252 (show q_ins q_k252 19 = some (.goto 12, 31, 0) from rfl) ?_
    exact zt_wk (zt_cov_nil) (S_M_points_31  _ _ _ h)
theorem S_M_ranking_104 {X : q_X}   {r22 : Int → Int → zt_S → Option (Int × zt_S)} (hr22 : ∀ (v1 : Int) (v2 : Int) (σ : zt_S) (o : (Int × zt_S)), r22 v1 v2 σ = some o → zt_Ex X 2 253 22 [(0, .ref 163), (1, .int (Int32.ofInt v1)), (2, .int (Int32.ofInt v2))] [] (zt_M σ) (zo_I o)) {r37 : Int → Int → Int → Int → zt_S → Option (Int × zt_S)} (hr37 : ∀ (v1 : Int) (v2 : Int) (v3 : Int) (v4 : Int) (σ : zt_S) (o : (Int × zt_S)), r37 v1 v2 v3 v4 σ = some o → zt_Ex X 2 253 37 [(0, .ref 163), (1, .int (Int32.ofInt v1)), (2, .int (Int32.ofInt v2)), (3, .int (Int32.ofInt v3)), (4, .int (Int32.ofInt v4))] [] (zt_M σ) (zo_I o)) : ∀ (v1 : Int) (v2 : Int) (v4 : Int) (x0 : Int) (x1 : Int) (σ : zt_S) (o : (Int × zt_S)), F_M_ranking_104  r22 r37 v1 v2 v4 x0 x1 σ = some o → zt_Ex X 2 253 104 [(0, .ref 163), (1, .int (Int32.ofInt v1)), (2, .int (Int32.ofInt v2)), (4, .int (Int32.ofInt v4))] [.int (Int32.ofInt x0), .int (Int32.ofInt x1)] (zt_M σ) (zo_I o) := by
  intro v1 v2 v4 x0 x1 σ o  h
  unfold F_M_ranking_104 at h
  refine zt_iadd zy_253 (show q_ins q_k253 104 = some (.iadd, 0, 0) from rfl) ?_
  refine zt_istore_n zy_253 (show q_ins q_k253 105 = some (.istore_n 3, 0, 0) from rfl) (by decide) ?_
  refine zt_iinc zy_253 (show q_ins q_k253 106 = some (.iinc 4 1, 0, 0) from rfl) (v := v4) (by decide) rfl ?_
  refine zt_goto zy_253 (show q_ins q_k253 109 = some (.goto (-72), 37, 0) from rfl) ?_
  exact zt_wk (zt_cov_cons rfl (zt_cov_cons rfl (zt_cov_cons rfl (zt_cov_cons rfl (zt_cov_cons rfl (zt_cov_nil)))))) (hr37 _ _ _ _ _ _ h)
theorem S_M_ranking_99 {X : q_X}   {r22 : Int → Int → zt_S → Option (Int × zt_S)} (hr22 : ∀ (v1 : Int) (v2 : Int) (σ : zt_S) (o : (Int × zt_S)), r22 v1 v2 σ = some o → zt_Ex X 2 253 22 [(0, .ref 163), (1, .int (Int32.ofInt v1)), (2, .int (Int32.ofInt v2))] [] (zt_M σ) (zo_I o)) {r37 : Int → Int → Int → Int → zt_S → Option (Int × zt_S)} (hr37 : ∀ (v1 : Int) (v2 : Int) (v3 : Int) (v4 : Int) (σ : zt_S) (o : (Int × zt_S)), r37 v1 v2 v3 v4 σ = some o → zt_Ex X 2 253 37 [(0, .ref 163), (1, .int (Int32.ofInt v1)), (2, .int (Int32.ofInt v2)), (3, .int (Int32.ofInt v3)), (4, .int (Int32.ofInt v4))] [] (zt_M σ) (zo_I o)) : ∀ (v1 : Int) (v2 : Int) (v4 : Int) (x0 : Int) (σ : zt_S) (o : (Int × zt_S)), F_M_ranking_99  r22 r37 v1 v2 v4 x0 σ = some o → zt_Ex X 2 253 99 [(0, .ref 163), (1, .int (Int32.ofInt v1)), (2, .int (Int32.ofInt v2)), (4, .int (Int32.ofInt v4))] [.int (Int32.ofInt x0)] (zt_M σ) (zo_I o) := by
  intro v1 v2 v4 x0 σ o  h
  unfold F_M_ranking_99 at h
  refine zt_iconst zy_253 (show q_ins q_k253 99 = some (.iconst 1, 0, 0) from rfl) ?_
  refine zt_goto zy_253 (show q_ins q_k253 100 = some (.goto 4, 104, 0) from rfl) ?_
  exact zt_wk (zt_cov_cons rfl (zt_cov_cons rfl (zt_cov_cons rfl (zt_cov_cons rfl (zt_cov_nil))))) (S_M_ranking_104  hr22 hr37 _ _ _ _ _ _ _ h)
theorem S_M_ranking_103 {X : q_X}   {r22 : Int → Int → zt_S → Option (Int × zt_S)} (hr22 : ∀ (v1 : Int) (v2 : Int) (σ : zt_S) (o : (Int × zt_S)), r22 v1 v2 σ = some o → zt_Ex X 2 253 22 [(0, .ref 163), (1, .int (Int32.ofInt v1)), (2, .int (Int32.ofInt v2))] [] (zt_M σ) (zo_I o)) {r37 : Int → Int → Int → Int → zt_S → Option (Int × zt_S)} (hr37 : ∀ (v1 : Int) (v2 : Int) (v3 : Int) (v4 : Int) (σ : zt_S) (o : (Int × zt_S)), r37 v1 v2 v3 v4 σ = some o → zt_Ex X 2 253 37 [(0, .ref 163), (1, .int (Int32.ofInt v1)), (2, .int (Int32.ofInt v2)), (3, .int (Int32.ofInt v3)), (4, .int (Int32.ofInt v4))] [] (zt_M σ) (zo_I o)) : ∀ (v1 : Int) (v2 : Int) (v4 : Int) (x0 : Int) (σ : zt_S) (o : (Int × zt_S)), F_M_ranking_103  r22 r37 v1 v2 v4 x0 σ = some o → zt_Ex X 2 253 103 [(0, .ref 163), (1, .int (Int32.ofInt v1)), (2, .int (Int32.ofInt v2)), (4, .int (Int32.ofInt v4))] [.int (Int32.ofInt x0)] (zt_M σ) (zo_I o) := by
  intro v1 v2 v4 x0 σ o  h
  unfold F_M_ranking_103 at h
  refine zt_iconst zy_253 (show q_ins q_k253 103 = some (.iconst 0, 0, 0) from rfl) ?_
  exact zt_wk (zt_cov_cons rfl (zt_cov_cons rfl (zt_cov_cons rfl (zt_cov_cons rfl (zt_cov_nil))))) (S_M_ranking_104  hr22 hr37 _ _ _ _ _ _ _ h)
theorem S_M_ranking_112 {X : q_X}   {r22 : Int → Int → zt_S → Option (Int × zt_S)} (hr22 : ∀ (v1 : Int) (v2 : Int) (σ : zt_S) (o : (Int × zt_S)), r22 v1 v2 σ = some o → zt_Ex X 2 253 22 [(0, .ref 163), (1, .int (Int32.ofInt v1)), (2, .int (Int32.ofInt v2))] [] (zt_M σ) (zo_I o)) : ∀ (v1 : Int) (v2 : Int) (v3 : Int) (σ : zt_S) (o : (Int × zt_S)), F_M_ranking_112  r22 v1 v2 v3 σ = some o → zt_Ex X 2 253 112 [(0, .ref 163), (1, .int (Int32.ofInt v1)), (2, .int (Int32.ofInt v2)), (3, .int (Int32.ofInt v3))] [] (zt_M σ) (zo_I o) := by
  intro v1 v2 v3 σ o  h
  unfold F_M_ranking_112 at h
  refine zt_iload_n zy_253 (show q_ins q_k253 112 = some (.iload_n 3, 0, 0) from rfl) (v := Int32.ofInt v3) rfl ?_
  refine zt_iload_n zy_253 (show q_ins q_k253 113 = some (.iload_n 1, 0, 0) from rfl) (v := Int32.ofInt v1) rfl ?_
  obtain ⟨hg, h⟩ := zt_ckE h
  refine zt_icmp_ne zy_253 (show q_ins q_k253 114 = some (.if_icmp .ne 5, 119, 0) from rfl) (⟨hg.1, hg.2⟩) (fun hc => ?_) (fun hc => ?_)
  · rw [if_pos hc] at h
    refine zt_iload_n zy_253 (show q_ins q_k253 117 = some (.iload_n 2, 0, 0) from rfl) (v := Int32.ofInt v2) rfl ?_
    cases h
    exact zt_iret zy_253 (show q_ins q_k253 118 = some (.ireturn, 0, 0) from rfl)
  · rw [if_neg hc] at h
    refine zt_iinc zy_253 (show q_ins q_k253 119 = some (.iinc 2 1, 0, 0) from rfl) (v := v2) (by decide) rfl ?_
    refine zt_goto zy_253 (show q_ins q_k253 122 = some (.goto (-100), 22, 0) from rfl) ?_
    exact zt_wk (zt_cov_cons rfl (zt_cov_cons rfl (zt_cov_cons rfl (zt_cov_nil)))) (hr22 _ _ _ _ h)
theorem S_M_ranking_37 {X : q_X}   {r22 : Int → Int → zt_S → Option (Int × zt_S)} (hr22 : ∀ (v1 : Int) (v2 : Int) (σ : zt_S) (o : (Int × zt_S)), r22 v1 v2 σ = some o → zt_Ex X 2 253 22 [(0, .ref 163), (1, .int (Int32.ofInt v1)), (2, .int (Int32.ofInt v2))] [] (zt_M σ) (zo_I o)) : ∀ (n : Nat) (v1 : Int) (v2 : Int) (v3 : Int) (v4 : Int) (σ : zt_S) (o : (Int × zt_S)), F_M_ranking_37  r22 n v1 v2 v3 v4 σ = some o → zt_Ex X 2 253 37 [(0, .ref 163), (1, .int (Int32.ofInt v1)), (2, .int (Int32.ofInt v2)), (3, .int (Int32.ofInt v3)), (4, .int (Int32.ofInt v4))] [] (zt_M σ) (zo_I o) := by
  intro n
  induction n with
  | zero => intro v1 v2 v3 v4 σ o  h; cases h
  | succ n ih =>
  intro v1 v2 v3 v4 σ o  h
  rw [F_M_ranking_37] at h
  refine zt_iload zy_253 (show q_ins q_k253 37 = some (.iload 4, 0, 0) from rfl) (v := Int32.ofInt v4) rfl ?_
  refine zt_aload_n zy_253 (show q_ins q_k253 39 = some (.aload_n 0, 0, 0) from rfl) (v := 163) rfl ?_
  refine zt_getR zy_253 (show q_ins q_k253 40 = some (.getfield 13, 11, 1) from rfl) (r := 164) zk_163_1 ?_
  refine zt_iconst zy_253 (show q_ins q_k253 43 = some (.iconst 1, 0, 0) from rfl) ?_
  refine zt_ald zy_253 (show q_ins q_k253 44 = some (.iaload, 0, 0) from rfl) za_164 (by decide) (by decide) ?_
  obtain ⟨hg, h⟩ := zt_ckE h
  refine zt_icmp_ge zy_253 (show q_ins q_k253 45 = some (.if_icmp .ge 67, 112, 0) from rfl) (⟨hg.1, hg.2⟩) (fun hc => ?_) (fun hc => ?_)
  · rw [if_pos hc] at h
    refine zt_iload_n zy_253 (show q_ins q_k253 48 = some (.iload_n 3, 0, 0) from rfl) (v := Int32.ofInt v3) rfl ?_
    refine zt_aload_n zy_253 (show q_ins q_k253 49 = some (.aload_n 0, 0, 0) from rfl) (v := 163) rfl ?_
    refine zt_getR zy_253 (show q_ins q_k253 50 = some (.getfield 13, 11, 1) from rfl) (r := 164) zk_163_1 ?_
    refine zt_bipush zy_253 (show q_ins q_k253 53 = some (.bipush 20, 0, 0) from rfl) (by decide) ?_
    refine zt_iload zy_253 (show q_ins q_k253 55 = some (.iload 4, 0, 0) from rfl) (v := Int32.ofInt v4) rfl ?_
    refine zt_iadd zy_253 (show q_ins q_k253 57 = some (.iadd, 0, 0) from rfl) ?_
    obtain ⟨hg, h⟩ := zt_ckE h
    refine zt_ald zy_253 (show q_ins q_k253 58 = some (.iaload, 0, 0) from rfl) za_164 (by decide) hg ?_
    refine zt_aload_n zy_253 (show q_ins q_k253 59 = some (.aload_n 0, 0, 0) from rfl) (v := 163) rfl ?_
    refine zt_getR zy_253 (show q_ins q_k253 60 = some (.getfield 13, 11, 1) from rfl) (r := 164) zk_163_1 ?_
    refine zt_bipush zy_253 (show q_ins q_k253 63 = some (.bipush 20, 0, 0) from rfl) (by decide) ?_
    refine zt_iload_n zy_253 (show q_ins q_k253 65 = some (.iload_n 2, 0, 0) from rfl) (v := Int32.ofInt v2) rfl ?_
    refine zt_iadd zy_253 (show q_ins q_k253 66 = some (.iadd, 0, 0) from rfl) ?_
    obtain ⟨hg, h⟩ := zt_ckE h
    refine zt_ald zy_253 (show q_ins q_k253 67 = some (.iaload, 0, 0) from rfl) za_164 (by decide) hg ?_
    obtain ⟨hg, h⟩ := zt_ckE h
    refine zt_icmp_gt zy_253 (show q_ins q_k253 68 = some (.if_icmp .gt 31, 99, 0) from rfl) (⟨hg.1, hg.2⟩) (fun hc => ?_) (fun hc => ?_)
    · rw [if_pos hc] at h
      exact zt_wk (zt_cov_cons rfl (zt_cov_cons rfl (zt_cov_cons rfl (zt_cov_cons rfl (zt_cov_nil))))) (S_M_ranking_99  hr22 ih _ _ _ _ _ _ h)
    · rw [if_neg hc] at h
      refine zt_aload_n zy_253 (show q_ins q_k253 71 = some (.aload_n 0, 0, 0) from rfl) (v := 163) rfl ?_
      refine zt_getR zy_253 (show q_ins q_k253 72 = some (.getfield 13, 11, 1) from rfl) (r := 164) zk_163_1 ?_
      refine zt_bipush zy_253 (show q_ins q_k253 75 = some (.bipush 20, 0, 0) from rfl) (by decide) ?_
      refine zt_iload zy_253 (show q_ins q_k253 77 = some (.iload 4, 0, 0) from rfl) (v := Int32.ofInt v4) rfl ?_
      refine zt_iadd zy_253 (show q_ins q_k253 79 = some (.iadd, 0, 0) from rfl) ?_
      obtain ⟨hg, h⟩ := zt_ckE h
      refine zt_ald zy_253 (show q_ins q_k253 80 = some (.iaload, 0, 0) from rfl) za_164 (by decide) hg ?_
      refine zt_aload_n zy_253 (show q_ins q_k253 81 = some (.aload_n 0, 0, 0) from rfl) (v := 163) rfl ?_
      refine zt_getR zy_253 (show q_ins q_k253 82 = some (.getfield 13, 11, 1) from rfl) (r := 164) zk_163_1 ?_
      refine zt_bipush zy_253 (show q_ins q_k253 85 = some (.bipush 20, 0, 0) from rfl) (by decide) ?_
      refine zt_iload_n zy_253 (show q_ins q_k253 87 = some (.iload_n 2, 0, 0) from rfl) (v := Int32.ofInt v2) rfl ?_
      refine zt_iadd zy_253 (show q_ins q_k253 88 = some (.iadd, 0, 0) from rfl) ?_
      obtain ⟨hg, h⟩ := zt_ckE h
      refine zt_ald zy_253 (show q_ins q_k253 89 = some (.iaload, 0, 0) from rfl) za_164 (by decide) hg ?_
      obtain ⟨hg, h⟩ := zt_ckE h
      refine zt_icmp_ne zy_253 (show q_ins q_k253 90 = some (.if_icmp .ne 13, 103, 0) from rfl) (⟨hg.1, hg.2⟩) (fun hc => ?_) (fun hc => ?_)
      · rw [if_pos hc] at h
        refine zt_iload zy_253 (show q_ins q_k253 93 = some (.iload 4, 0, 0) from rfl) (v := Int32.ofInt v4) rfl ?_
        refine zt_iload_n zy_253 (show q_ins q_k253 95 = some (.iload_n 2, 0, 0) from rfl) (v := Int32.ofInt v2) rfl ?_
        obtain ⟨hg, h⟩ := zt_ckE h
        refine zt_icmp_ge zy_253 (show q_ins q_k253 96 = some (.if_icmp .ge 7, 103, 0) from rfl) (⟨hg.1, hg.2⟩) (fun hc => ?_) (fun hc => ?_)
        · rw [if_pos hc] at h
          exact zt_wk (zt_cov_cons rfl (zt_cov_cons rfl (zt_cov_cons rfl (zt_cov_cons rfl (zt_cov_nil))))) (S_M_ranking_99  hr22 ih _ _ _ _ _ _ h)
        · rw [if_neg hc] at h
          exact zt_wk (zt_cov_cons rfl (zt_cov_cons rfl (zt_cov_cons rfl (zt_cov_cons rfl (zt_cov_nil))))) (S_M_ranking_103  hr22 ih _ _ _ _ _ _ h)
      · rw [if_neg hc] at h
        exact zt_wk (zt_cov_cons rfl (zt_cov_cons rfl (zt_cov_cons rfl (zt_cov_cons rfl (zt_cov_nil))))) (S_M_ranking_103  hr22 ih _ _ _ _ _ _ h)
  · rw [if_neg hc] at h
    exact zt_wk (zt_cov_cons rfl (zt_cov_cons rfl (zt_cov_cons rfl (zt_cov_cons rfl (zt_cov_nil))))) (S_M_ranking_112  hr22 _ _ _ _ _ h)
theorem S_M_ranking_22 {X : q_X}   : ∀ (n : Nat) (v1 : Int) (v2 : Int) (σ : zt_S) (o : (Int × zt_S)), F_M_ranking_22  n v1 v2 σ = some o → zt_Ex X 2 253 22 [(0, .ref 163), (1, .int (Int32.ofInt v1)), (2, .int (Int32.ofInt v2))] [] (zt_M σ) (zo_I o) := by
  intro n
  induction n with
  | zero => intro v1 v2 σ o  h; cases h
  | succ n ih =>
  intro v1 v2 σ o  h
  rw [F_M_ranking_22] at h
  refine zt_iload_n zy_253 (show q_ins q_k253 22 = some (.iload_n 2, 0, 0) from rfl) (v := Int32.ofInt v2) rfl ?_
  refine zt_aload_n zy_253 (show q_ins q_k253 23 = some (.aload_n 0, 0, 0) from rfl) (v := 163) rfl ?_
  refine zt_getR zy_253 (show q_ins q_k253 24 = some (.getfield 13, 11, 1) from rfl) (r := 164) zk_163_1 ?_
  refine zt_iconst zy_253 (show q_ins q_k253 27 = some (.iconst 1, 0, 0) from rfl) ?_
  refine zt_ald zy_253 (show q_ins q_k253 28 = some (.iaload, 0, 0) from rfl) za_164 (by decide) (by decide) ?_
  obtain ⟨hg, h⟩ := zt_ckE h
  refine zt_icmp_ge zy_253 (show q_ins q_k253 29 = some (.if_icmp .ge 96, 125, 0) from rfl) (⟨hg.1, hg.2⟩) (fun hc => ?_) (fun hc => ?_)
  · rw [if_pos hc] at h
    refine zt_iconst zy_253 (show q_ins q_k253 32 = some (.iconst 0, 0, 0) from rfl) ?_
    refine zt_istore_n zy_253 (show q_ins q_k253 33 = some (.istore_n 3, 0, 0) from rfl) (by decide) ?_
    refine zt_iconst zy_253 (show q_ins q_k253 34 = some (.iconst 0, 0, 0) from rfl) ?_
    refine zt_istore zy_253 (show q_ins q_k253 35 = some (.istore 4, 0, 0) from rfl) (by decide) ?_
    exact zt_wk (zt_cov_cons rfl (zt_cov_cons rfl (zt_cov_cons rfl (zt_cov_cons rfl (zt_cov_cons rfl (zt_cov_nil)))))) (S_M_ranking_37  ih _ _ _ _ _ _ _ h)
  · rw [if_neg hc] at h
    refine zt_iconst zy_253 (show q_ins q_k253 125 = some (.iconst (-1), 0, 0) from rfl) ?_
    cases h
    exact zt_iret zy_253 (show q_ins q_k253 126 = some (.ireturn, 0, 0) from rfl)
theorem S_M_ranking {X : q_X}   {v1 : Int} {σ : zt_S} {o : (Int × zt_S)} (h : F_M_ranking  v1 σ = some o) : zt_Ex X 2 253 0 (lv_args 0 [.ref 163, .int (Int32.ofInt v1)]) [] (zt_M σ) (zo_I o) := by
  unfold F_M_ranking at h
  refine zt_aload_n zy_253 (show q_ins q_k253 0 = some (.aload_n 0, 0, 0) from rfl) (v := 163) rfl ?_
  refine zt_iconst zy_253 (show q_ins q_k253 1 = some (.iconst 0, 0, 0) from rfl) ?_
  obtain ⟨s1, hs1, h⟩ := zt_letE h
  refine zt_putI zy_253 (show q_ins q_k253 2 = some (.putfield 1, 11, 0) from rfl) (j := 0) zk_163_0 rfl rfl rfl ?_
  rw [← hs1]
  refine zt_aload_n zy_253 (show q_ins q_k253 5 = some (.aload_n 0, 0, 0) from rfl) (v := 163) rfl ?_
  refine zt_aload_n zy_253 (show q_ins q_k253 6 = some (.aload_n 0, 0, 0) from rfl) (v := 163) rfl ?_
  refine zt_iload_n zy_253 (show q_ins q_k253 7 = some (.iload_n 1, 0, 0) from rfl) (v := Int32.ofInt v1) rfl ?_
  obtain ⟨a2, s3, hca2, h⟩ := zt_bdE h
  refine zt_callV (d := 1) zy_253 (show q_ins q_k253 8 = some (.invokevirtual 319, 236, 1) from rfl) zy_236 (by decide) ⟨zq_lt (by decide), by decide⟩ rfl (by simp [Value.category]) (by simp [lg_sl, Value.category]) (zt_rcv zc_163) (zt_dm (by decide) (S_M_isPlayer hca2)) ?_
  refine zt_iconst zy_253 (show q_ins q_k253 11 = some (.iconst 1, 0, 0) from rfl) ?_
  obtain ⟨a4, s5, hca4, h⟩ := zt_bdE h
  refine zt_callV (d := 1) zy_253 (show q_ins q_k253 12 = some (.invokevirtual 227, 174, 2) from rfl) zy_174 (by decide) ⟨zq_lt (by decide), by decide⟩ rfl (by simp [Value.category]) (by simp [lg_sl, Value.category]) (zt_rcv zc_163) (zt_dm (by decide) (S_M_fails hca4)) ?_
  obtain ⟨hg, h⟩ := zt_ckE h
  refine zt_if_eq zy_253 (show q_ins q_k253 15 = some (.ifCond .eq 5, 20, 0) from rfl) (hg) (fun hc => ?_) (fun hc => ?_)
  · rw [if_pos hc] at h
    refine zt_iconst zy_253 (show q_ins q_k253 20 = some (.iconst 0, 0, 0) from rfl) ?_
    refine zt_istore_n zy_253 (show q_ins q_k253 21 = some (.istore_n 2, 0, 0) from rfl) (by decide) ?_
    exact zt_wk (zt_cov_cons rfl (zt_cov_cons rfl (zt_cov_cons rfl (zt_cov_nil)))) (S_M_ranking_22  _ _ _ _ _ h)
  · rw [if_neg hc] at h
    refine zt_iconst zy_253 (show q_ins q_k253 18 = some (.iconst 0, 0, 0) from rfl) ?_
    cases h
    exact zt_iret zy_253 (show q_ins q_k253 19 = some (.ireturn, 0, 0) from rfl)
theorem S_M_lacks_55 {X : q_X}   : ∀ (x0 : Int) (σ : zt_S) (o : (Int × zt_S)), F_M_lacks_55  x0 σ = some o → zt_Ex X 2 254 55 [] [.int (Int32.ofInt x0)] (zt_M σ) (zo_I o) := by
  intro x0 σ o  h
  unfold F_M_lacks_55 at h
  obtain ⟨hg, h⟩ := zt_ckE h
  cases h
  exact zt_zret zy_254 (show q_ins q_k254 55 = some (.ireturn, 0, 0) from rfl) hg
theorem S_M_lacks_54 {X : q_X}   : ∀  (σ : zt_S) (o : (Int × zt_S)), F_M_lacks_54   σ = some o → zt_Ex X 2 254 54 [] [] (zt_M σ) (zo_I o) := by
  intro  σ o  h
  unfold F_M_lacks_54 at h
  refine zt_iconst zy_254 (show q_ins q_k254 54 = some (.iconst 0, 0, 0) from rfl) ?_
  exact zt_wk (zt_cov_nil) (S_M_lacks_55  _ _ _ h)
theorem S_M_lacks_26 {X : q_X}   : ∀ (v1 : Int) (v2 : Int) (x0 : Int) (σ : zt_S) (o : (Int × zt_S)), F_M_lacks_26  v1 v2 x0 σ = some o → zt_Ex X 2 254 26 [(0, .ref 163), (1, .int (Int32.ofInt v1)), (2, .int (Int32.ofInt v2))] [.int (Int32.ofInt x0), .ref 163] (zt_M σ) (zo_I o) := by
  intro v1 v2 x0 σ o  h
  unfold F_M_lacks_26 at h
  refine zt_iconst zy_254 (show q_ins q_k254 26 = some (.iconst 1, 0, 0) from rfl) ?_
  obtain ⟨a4, s5, hca4, h⟩ := zt_bdE h
  refine zt_callV (d := 1) zy_254 (show q_ins q_k254 27 = some (.invokevirtual 227, 174, 2) from rfl) zy_174 (by decide) ⟨zq_lt (by decide), by decide⟩ rfl (by simp [Value.category]) (by simp [lg_sl, Value.category]) (zt_rcv zc_163) (zt_dm (by decide) (S_M_fails hca4)) ?_
  obtain ⟨hg, h⟩ := zt_ckE h
  refine zt_if_ne zy_254 (show q_ins q_k254 30 = some (.ifCond .ne 24, 54, 0) from rfl) (hg) (fun hc => ?_) (fun hc => ?_)
  · rw [if_pos hc] at h
    refine zt_aload_n zy_254 (show q_ins q_k254 33 = some (.aload_n 0, 0, 0) from rfl) (v := 163) rfl ?_
    refine zt_getR zy_254 (show q_ins q_k254 34 = some (.getfield 13, 11, 1) from rfl) (r := 164) zk_163_1 ?_
    refine zt_bipush zy_254 (show q_ins q_k254 37 = some (.bipush 24, 0, 0) from rfl) (by decide) ?_
    refine zt_iconst zy_254 (show q_ins q_k254 39 = some (.iconst 4, 0, 0) from rfl) ?_
    refine zt_iload_n zy_254 (show q_ins q_k254 40 = some (.iload_n 1, 0, 0) from rfl) (v := Int32.ofInt v1) rfl ?_
    refine zt_imul zy_254 (show q_ins q_k254 41 = some (.imul, 0, 0) from rfl) ?_
    refine zt_iadd zy_254 (show q_ins q_k254 42 = some (.iadd, 0, 0) from rfl) ?_
    refine zt_iload_n zy_254 (show q_ins q_k254 43 = some (.iload_n 2, 0, 0) from rfl) (v := Int32.ofInt v2) rfl ?_
    refine zt_iadd zy_254 (show q_ins q_k254 44 = some (.iadd, 0, 0) from rfl) ?_
    obtain ⟨hg, h⟩ := zt_ckE h
    refine zt_ald zy_254 (show q_ins q_k254 45 = some (.iaload, 0, 0) from rfl) za_164 (by decide) hg ?_
    refine zt_iconst zy_254 (show q_ins q_k254 46 = some (.iconst 1, 0, 0) from rfl) ?_
    obtain ⟨hg, h⟩ := zt_ckE h
    refine zt_icmp_ne zy_254 (show q_ins q_k254 47 = some (.if_icmp .ne 7, 54, 0) from rfl) (⟨hg, by decide⟩) (fun hc => ?_) (fun hc => ?_)
    · rw [if_pos hc] at h
      refine zt_iconst zy_254 (show q_ins q_k254 50 = some (.iconst 1, 0, 0) from rfl) ?_
      refine zt_goto zy_254 (show q_ins q_k254 51 = some (.goto 4, 55, 0) from rfl) ?_
      exact zt_wk (zt_cov_nil) (S_M_lacks_55  _ _ _ h)
    · rw [if_neg hc] at h
      exact zt_wk (zt_cov_nil) (S_M_lacks_54  _ _ h)
  · rw [if_neg hc] at h
    exact zt_wk (zt_cov_nil) (S_M_lacks_54  _ _ h)
theorem S_M_lacks_25 {X : q_X}   : ∀ (v1 : Int) (v2 : Int) (σ : zt_S) (o : (Int × zt_S)), F_M_lacks_25  v1 v2 σ = some o → zt_Ex X 2 254 25 [(0, .ref 163), (1, .int (Int32.ofInt v1)), (2, .int (Int32.ofInt v2))] [.ref 163] (zt_M σ) (zo_I o) := by
  intro v1 v2 σ o  h
  unfold F_M_lacks_25 at h
  refine zt_iconst zy_254 (show q_ins q_k254 25 = some (.iconst 0, 0, 0) from rfl) ?_
  exact zt_wk (zt_cov_cons rfl (zt_cov_cons rfl (zt_cov_cons rfl (zt_cov_nil)))) (S_M_lacks_26  _ _ _ _ _ h)
theorem S_M_lacks {X : q_X}   {v1 : Int} {v2 : Int} {σ : zt_S} {o : (Int × zt_S)} (h : F_M_lacks  v1 v2 σ = some o) : zt_Ex X 2 254 0 (lv_args 0 [.ref 163, .int (Int32.ofInt v1), .int (Int32.ofInt v2)]) [] (zt_M σ) (zo_I o) := by
  unfold F_M_lacks at h
  refine zt_aload_n zy_254 (show q_ins q_k254 0 = some (.aload_n 0, 0, 0) from rfl) (v := 163) rfl ?_
  refine zt_iconst zy_254 (show q_ins q_k254 1 = some (.iconst 0, 0, 0) from rfl) ?_
  obtain ⟨s1, hs1, h⟩ := zt_letE h
  refine zt_putI zy_254 (show q_ins q_k254 2 = some (.putfield 1, 11, 0) from rfl) (j := 0) zk_163_0 rfl rfl rfl ?_
  rw [← hs1]
  refine zt_aload_n zy_254 (show q_ins q_k254 5 = some (.aload_n 0, 0, 0) from rfl) (v := 163) rfl ?_
  refine zt_aload_n zy_254 (show q_ins q_k254 6 = some (.aload_n 0, 0, 0) from rfl) (v := 163) rfl ?_
  refine zt_iload_n zy_254 (show q_ins q_k254 7 = some (.iload_n 1, 0, 0) from rfl) (v := Int32.ofInt v1) rfl ?_
  obtain ⟨a2, s3, hca2, h⟩ := zt_bdE h
  refine zt_callV (d := 1) zy_254 (show q_ins q_k254 8 = some (.invokevirtual 319, 236, 1) from rfl) zy_236 (by decide) ⟨zq_lt (by decide), by decide⟩ rfl (by simp [Value.category]) (by simp [lg_sl, Value.category]) (zt_rcv zc_163) (zt_dm (by decide) (S_M_isPlayer hca2)) ?_
  obtain ⟨hg, h⟩ := zt_ckE h
  refine zt_if_eq zy_254 (show q_ins q_k254 11 = some (.ifCond .eq 14, 25, 0) from rfl) (hg) (fun hc => ?_) (fun hc => ?_)
  · rw [if_pos hc] at h
    exact zt_wk (zt_cov_cons rfl (zt_cov_cons rfl (zt_cov_cons rfl (zt_cov_nil)))) (S_M_lacks_25  _ _ _ _ h)
  · rw [if_neg hc] at h
    refine zt_iload_n zy_254 (show q_ins q_k254 14 = some (.iload_n 2, 0, 0) from rfl) (v := Int32.ofInt v2) rfl ?_
    obtain ⟨a6, s7, hca6, h⟩ := zt_bdE h
    refine zt_callS (d := 1) zy_254 (show q_ins q_k254 15 = some (.invokestatic 322, 237, 1) from rfl) zy_237 (by decide) ⟨zq_lt (by decide), by decide⟩ rfl (by simp [Value.category]) (by simp [lg_sl, Value.category]) rfl (zt_dm (by decide) (S_M_isSuit hca6)) ?_
    obtain ⟨hg, h⟩ := zt_ckE h
    refine zt_if_eq zy_254 (show q_ins q_k254 18 = some (.ifCond .eq 7, 25, 0) from rfl) (hg) (fun hc => ?_) (fun hc => ?_)
    · rw [if_pos hc] at h
      exact zt_wk (zt_cov_cons rfl (zt_cov_cons rfl (zt_cov_cons rfl (zt_cov_nil)))) (S_M_lacks_25  _ _ _ _ h)
    · rw [if_neg hc] at h
      refine zt_iconst zy_254 (show q_ins q_k254 21 = some (.iconst 1, 0, 0) from rfl) ?_
      refine zt_goto zy_254 (show q_ins q_k254 22 = some (.goto 4, 26, 0) from rfl) ?_
      exact zt_wk (zt_cov_cons rfl (zt_cov_cons rfl (zt_cov_cons rfl (zt_cov_nil)))) (S_M_lacks_26  _ _ _ _ _ h)
theorem S_M_wasPlayed_2 {X : q_X}   : ∀ (n : Nat) (v1 : Int) (v2 : Int) (σ : zt_S) (o : (Int × zt_S)), F_M_wasPlayed_2  n v1 v2 σ = some o → zt_Ex X 0 255 2 [(0, .ref 163), (1, .int (Int32.ofInt v1)), (2, .int (Int32.ofInt v2))] [] (zt_M σ) (zo_I o) := by
  intro n
  induction n with
  | zero => intro v1 v2 σ o  h; cases h
  | succ n ih =>
  intro v1 v2 σ o  h
  rw [F_M_wasPlayed_2] at h
  refine zt_iload_n zy_255 (show q_ins q_k255 2 = some (.iload_n 2, 0, 0) from rfl) (v := Int32.ofInt v2) rfl ?_
  refine zt_aload_n zy_255 (show q_ins q_k255 3 = some (.aload_n 0, 0, 0) from rfl) (v := 163) rfl ?_
  refine zt_getR zy_255 (show q_ins q_k255 4 = some (.getfield 13, 11, 1) from rfl) (r := 164) zk_163_1 ?_
  refine zt_bipush zy_255 (show q_ins q_k255 7 = some (.bipush 12, 0, 0) from rfl) (by decide) ?_
  refine zt_ald zy_255 (show q_ins q_k255 9 = some (.iaload, 0, 0) from rfl) za_164 (by decide) (by decide) ?_
  obtain ⟨hg, h⟩ := zt_ckE h
  refine zt_icmp_ge zy_255 (show q_ins q_k255 10 = some (.if_icmp .ge 24, 34, 0) from rfl) (⟨hg.1, hg.2⟩) (fun hc => ?_) (fun hc => ?_)
  · rw [if_pos hc] at h
    refine zt_aload_n zy_255 (show q_ins q_k255 13 = some (.aload_n 0, 0, 0) from rfl) (v := 163) rfl ?_
    refine zt_getR zy_255 (show q_ins q_k255 14 = some (.getfield 13, 11, 1) from rfl) (r := 164) zk_163_1 ?_
    refine zt_bipush zy_255 (show q_ins q_k255 17 = some (.bipush 92, 0, 0) from rfl) (by decide) ?_
    refine zt_iload_n zy_255 (show q_ins q_k255 19 = some (.iload_n 2, 0, 0) from rfl) (v := Int32.ofInt v2) rfl ?_
    refine zt_iadd zy_255 (show q_ins q_k255 20 = some (.iadd, 0, 0) from rfl) ?_
    obtain ⟨hg, h⟩ := zt_ckE h
    refine zt_ald zy_255 (show q_ins q_k255 21 = some (.iaload, 0, 0) from rfl) za_164 (by decide) hg ?_
    refine zt_iload_n zy_255 (show q_ins q_k255 22 = some (.iload_n 1, 0, 0) from rfl) (v := Int32.ofInt v1) rfl ?_
    obtain ⟨hg, h⟩ := zt_ckE h
    refine zt_icmp_ne zy_255 (show q_ins q_k255 23 = some (.if_icmp .ne 5, 28, 0) from rfl) (⟨hg.1, hg.2⟩) (fun hc => ?_) (fun hc => ?_)
    · rw [if_pos hc] at h
      refine zt_iconst zy_255 (show q_ins q_k255 26 = some (.iconst 1, 0, 0) from rfl) ?_
      cases h
      exact zt_zret zy_255 (show q_ins q_k255 27 = some (.ireturn, 0, 0) from rfl) (by decide)
    · rw [if_neg hc] at h
      refine zt_iinc zy_255 (show q_ins q_k255 28 = some (.iinc 2 1, 0, 0) from rfl) (v := v2) (by decide) rfl ?_
      refine zt_goto zy_255 (show q_ins q_k255 31 = some (.goto (-29), 2, 0) from rfl) ?_
      exact zt_wk (zt_cov_cons rfl (zt_cov_cons rfl (zt_cov_cons rfl (zt_cov_nil)))) (ih _ _ _ _ h)
  · rw [if_neg hc] at h
    refine zt_iconst zy_255 (show q_ins q_k255 34 = some (.iconst 0, 0, 0) from rfl) ?_
    cases h
    exact zt_zret zy_255 (show q_ins q_k255 35 = some (.ireturn, 0, 0) from rfl) (by decide)
theorem S_M_wasPlayed {X : q_X}   {v1 : Int} {σ : zt_S} {o : (Int × zt_S)} (h : F_M_wasPlayed  v1 σ = some o) : zt_Ex X 0 255 0 (lv_args 0 [.ref 163, .int (Int32.ofInt v1)]) [] (zt_M σ) (zo_I o) := by
  unfold F_M_wasPlayed at h
  refine zt_iconst zy_255 (show q_ins q_k255 0 = some (.iconst 0, 0, 0) from rfl) ?_
  refine zt_istore_n zy_255 (show q_ins q_k255 1 = some (.istore_n 2, 0, 0) from rfl) (by decide) ?_
  exact zt_wk (zt_cov_cons rfl (zt_cov_cons rfl (zt_cov_cons rfl (zt_cov_nil)))) (S_M_wasPlayed_2  _ _ _ _ _ h)
theorem S_M_could_81 {X : q_X}   : ∀ (x0 : Int) (σ : zt_S) (o : (Int × zt_S)), F_M_could_81  x0 σ = some o → zt_Ex X 2 256 81 [] [.int (Int32.ofInt x0)] (zt_M σ) (zo_I o) := by
  intro x0 σ o  h
  unfold F_M_could_81 at h
  obtain ⟨hg, h⟩ := zt_ckE h
  cases h
  exact zt_zret zy_256 (show q_ins q_k256 81 = some (.ireturn, 0, 0) from rfl) hg
theorem S_M_could_80 {X : q_X}   : ∀  (σ : zt_S) (o : (Int × zt_S)), F_M_could_80   σ = some o → zt_Ex X 2 256 80 [] [] (zt_M σ) (zo_I o) := by
  intro  σ o  h
  unfold F_M_could_80 at h
  refine zt_iconst zy_256 (show q_ins q_k256 80 = some (.iconst 0, 0, 0) from rfl) ?_
  exact zt_wk (zt_cov_nil) (S_M_could_81  _ _ _ h)
theorem S_M_could_27 {X : q_X}   : ∀ (v1 : Int) (v2 : Int) (x0 : Int) (σ : zt_S) (o : (Int × zt_S)), F_M_could_27  v1 v2 x0 σ = some o → zt_Ex X 2 256 27 [(0, .ref 163), (1, .int (Int32.ofInt v1)), (2, .int (Int32.ofInt v2))] [.int (Int32.ofInt x0), .ref 163] (zt_M σ) (zo_I o) := by
  intro v1 v2 x0 σ o  h
  unfold F_M_could_27 at h
  refine zt_iconst zy_256 (show q_ins q_k256 27 = some (.iconst 1, 0, 0) from rfl) ?_
  obtain ⟨a4, s5, hca4, h⟩ := zt_bdE h
  refine zt_callV (d := 1) zy_256 (show q_ins q_k256 28 = some (.invokevirtual 227, 174, 2) from rfl) zy_174 (by decide) ⟨zq_lt (by decide), by decide⟩ rfl (by simp [Value.category]) (by simp [lg_sl, Value.category]) (zt_rcv zc_163) (zt_dm (by decide) (S_M_fails hca4)) ?_
  obtain ⟨hg, h⟩ := zt_ckE h
  refine zt_if_eq zy_256 (show q_ins q_k256 31 = some (.ifCond .eq 5, 36, 0) from rfl) (hg) (fun hc => ?_) (fun hc => ?_)
  · rw [if_pos hc] at h
    refine zt_aload_n zy_256 (show q_ins q_k256 36 = some (.aload_n 0, 0, 0) from rfl) (v := 163) rfl ?_
    refine zt_aload_n zy_256 (show q_ins q_k256 37 = some (.aload_n 0, 0, 0) from rfl) (v := 163) rfl ?_
    refine zt_getR zy_256 (show q_ins q_k256 38 = some (.getfield 13, 11, 1) from rfl) (r := 164) zk_163_1 ?_
    refine zt_iload_n zy_256 (show q_ins q_k256 41 = some (.iload_n 1, 0, 0) from rfl) (v := Int32.ofInt v1) rfl ?_
    obtain ⟨a6, s7, hca6, h⟩ := zt_bdE h
    refine zt_callV (d := 1) zy_256 (show q_ins q_k256 42 = some (.invokevirtual 178, 199, 2) from rfl) zy_199 (by decide) ⟨zq_lt (by decide), by decide⟩ rfl (by simp [Value.category]) (by simp [lg_sl, Value.category]) (zt_rcv zc_163) (zt_dm (by decide) (S_M_heldBy za_164 (by decide) hca6)) ?_
    obtain ⟨hg, h⟩ := zt_ckE h
    refine zt_if_le zy_256 (show q_ins q_k256 45 = some (.ifCond .le 35, 80, 0) from rfl) (hg) (fun hc => ?_) (fun hc => ?_)
    · rw [if_pos hc] at h
      refine zt_aload_n zy_256 (show q_ins q_k256 48 = some (.aload_n 0, 0, 0) from rfl) (v := 163) rfl ?_
      refine zt_iload_n zy_256 (show q_ins q_k256 49 = some (.iload_n 2, 0, 0) from rfl) (v := Int32.ofInt v2) rfl ?_
      obtain ⟨a8, s9, hca8, h⟩ := zt_bdE h
      refine zt_callV (d := 1) zy_256 (show q_ins q_k256 50 = some (.invokevirtual 332, 255, 1) from rfl) zy_255 (by decide) ⟨zq_lt (by decide), by decide⟩ rfl (by simp [Value.category]) (by simp [lg_sl, Value.category]) (zt_rcv zc_163) (zt_dm (by decide) (S_M_wasPlayed hca8)) ?_
      obtain ⟨hg, h⟩ := zt_ckE h
      refine zt_if_ne zy_256 (show q_ins q_k256 53 = some (.ifCond .ne 27, 80, 0) from rfl) (hg) (fun hc => ?_) (fun hc => ?_)
      · rw [if_pos hc] at h
        refine zt_aload_n zy_256 (show q_ins q_k256 56 = some (.aload_n 0, 0, 0) from rfl) (v := 163) rfl ?_
        refine zt_getR zy_256 (show q_ins q_k256 57 = some (.getfield 13, 11, 1) from rfl) (r := 164) zk_163_1 ?_
        refine zt_bipush zy_256 (show q_ins q_k256 60 = some (.bipush 24, 0, 0) from rfl) (by decide) ?_
        refine zt_iconst zy_256 (show q_ins q_k256 62 = some (.iconst 4, 0, 0) from rfl) ?_
        refine zt_iload_n zy_256 (show q_ins q_k256 63 = some (.iload_n 1, 0, 0) from rfl) (v := Int32.ofInt v1) rfl ?_
        refine zt_imul zy_256 (show q_ins q_k256 64 = some (.imul, 0, 0) from rfl) ?_
        refine zt_iadd zy_256 (show q_ins q_k256 65 = some (.iadd, 0, 0) from rfl) ?_
        refine zt_aload_n zy_256 (show q_ins q_k256 66 = some (.aload_n 0, 0, 0) from rfl) (v := 163) rfl ?_
        refine zt_iload_n zy_256 (show q_ins q_k256 67 = some (.iload_n 2, 0, 0) from rfl) (v := Int32.ofInt v2) rfl ?_
        obtain ⟨a10, s11, hca10, h⟩ := zt_bdE h
        refine zt_callV (d := 1) zy_256 (show q_ins q_k256 68 = some (.invokevirtual 257, 209, 1) from rfl) zy_209 (by decide) ⟨zq_lt (by decide), by decide⟩ rfl (by simp [Value.category]) (by simp [lg_sl, Value.category]) (zt_rcv zc_163) (zt_dm (by decide) (S_M_suitOf hca10)) ?_
        refine zt_iadd zy_256 (show q_ins q_k256 71 = some (.iadd, 0, 0) from rfl) ?_
        obtain ⟨hg, h⟩ := zt_ckE h
        refine zt_ald zy_256 (show q_ins q_k256 72 = some (.iaload, 0, 0) from rfl) za_164 (by decide) hg ?_
        obtain ⟨hg, h⟩ := zt_ckE h
        refine zt_if_ne zy_256 (show q_ins q_k256 73 = some (.ifCond .ne 7, 80, 0) from rfl) (hg) (fun hc => ?_) (fun hc => ?_)
        · rw [if_pos hc] at h
          refine zt_iconst zy_256 (show q_ins q_k256 76 = some (.iconst 1, 0, 0) from rfl) ?_
          refine zt_goto zy_256 (show q_ins q_k256 77 = some (.goto 4, 81, 0) from rfl) ?_
          exact zt_wk (zt_cov_nil) (S_M_could_81  _ _ _ h)
        · rw [if_neg hc] at h
          exact zt_wk (zt_cov_nil) (S_M_could_80  _ _ h)
      · rw [if_neg hc] at h
        exact zt_wk (zt_cov_nil) (S_M_could_80  _ _ h)
    · rw [if_neg hc] at h
      exact zt_wk (zt_cov_nil) (S_M_could_80  _ _ h)
  · rw [if_neg hc] at h
    refine zt_iconst zy_256 (show q_ins q_k256 34 = some (.iconst 0, 0, 0) from rfl) ?_
    cases h
    exact zt_zret zy_256 (show q_ins q_k256 35 = some (.ireturn, 0, 0) from rfl) (by decide)
theorem S_M_could_26 {X : q_X}   : ∀ (v1 : Int) (v2 : Int) (σ : zt_S) (o : (Int × zt_S)), F_M_could_26  v1 v2 σ = some o → zt_Ex X 2 256 26 [(0, .ref 163), (1, .int (Int32.ofInt v1)), (2, .int (Int32.ofInt v2))] [.ref 163] (zt_M σ) (zo_I o) := by
  intro v1 v2 σ o  h
  unfold F_M_could_26 at h
  refine zt_iconst zy_256 (show q_ins q_k256 26 = some (.iconst 0, 0, 0) from rfl) ?_
  exact zt_wk (zt_cov_cons rfl (zt_cov_cons rfl (zt_cov_cons rfl (zt_cov_nil)))) (S_M_could_27  _ _ _ _ _ h)
theorem S_M_could {X : q_X}   {v1 : Int} {v2 : Int} {σ : zt_S} {o : (Int × zt_S)} (h : F_M_could  v1 v2 σ = some o) : zt_Ex X 2 256 0 (lv_args 0 [.ref 163, .int (Int32.ofInt v1), .int (Int32.ofInt v2)]) [] (zt_M σ) (zo_I o) := by
  unfold F_M_could at h
  refine zt_aload_n zy_256 (show q_ins q_k256 0 = some (.aload_n 0, 0, 0) from rfl) (v := 163) rfl ?_
  refine zt_iconst zy_256 (show q_ins q_k256 1 = some (.iconst 0, 0, 0) from rfl) ?_
  obtain ⟨s1, hs1, h⟩ := zt_letE h
  refine zt_putI zy_256 (show q_ins q_k256 2 = some (.putfield 1, 11, 0) from rfl) (j := 0) zk_163_0 rfl rfl rfl ?_
  rw [← hs1]
  refine zt_aload_n zy_256 (show q_ins q_k256 5 = some (.aload_n 0, 0, 0) from rfl) (v := 163) rfl ?_
  refine zt_aload_n zy_256 (show q_ins q_k256 6 = some (.aload_n 0, 0, 0) from rfl) (v := 163) rfl ?_
  refine zt_iload_n zy_256 (show q_ins q_k256 7 = some (.iload_n 1, 0, 0) from rfl) (v := Int32.ofInt v1) rfl ?_
  obtain ⟨a2, s3, hca2, h⟩ := zt_bdE h
  refine zt_callV (d := 1) zy_256 (show q_ins q_k256 8 = some (.invokevirtual 319, 236, 1) from rfl) zy_236 (by decide) ⟨zq_lt (by decide), by decide⟩ rfl (by simp [Value.category]) (by simp [lg_sl, Value.category]) (zt_rcv zc_163) (zt_dm (by decide) (S_M_isPlayer hca2)) ?_
  obtain ⟨hg, h⟩ := zt_ckE h
  refine zt_if_eq zy_256 (show q_ins q_k256 11 = some (.ifCond .eq 15, 26, 0) from rfl) (hg) (fun hc => ?_) (fun hc => ?_)
  · rw [if_pos hc] at h
    exact zt_wk (zt_cov_cons rfl (zt_cov_cons rfl (zt_cov_cons rfl (zt_cov_nil)))) (S_M_could_26  _ _ _ _ h)
  · rw [if_neg hc] at h
    refine zt_aload_n zy_256 (show q_ins q_k256 14 = some (.aload_n 0, 0, 0) from rfl) (v := 163) rfl ?_
    refine zt_iload_n zy_256 (show q_ins q_k256 15 = some (.iload_n 2, 0, 0) from rfl) (v := Int32.ofInt v2) rfl ?_
    obtain ⟨a12, s13, hca12, h⟩ := zt_bdE h
    refine zt_callV (d := 1) zy_256 (show q_ins q_k256 16 = some (.invokevirtual 314, 208, 1) from rfl) zy_208 (by decide) ⟨zq_lt (by decide), by decide⟩ rfl (by simp [Value.category]) (by simp [lg_sl, Value.category]) (zt_rcv zc_163) (zt_dm (by decide) (S_M_isCard hca12)) ?_
    obtain ⟨hg, h⟩ := zt_ckE h
    refine zt_if_eq zy_256 (show q_ins q_k256 19 = some (.ifCond .eq 7, 26, 0) from rfl) (hg) (fun hc => ?_) (fun hc => ?_)
    · rw [if_pos hc] at h
      exact zt_wk (zt_cov_cons rfl (zt_cov_cons rfl (zt_cov_cons rfl (zt_cov_nil)))) (S_M_could_26  _ _ _ _ h)
    · rw [if_neg hc] at h
      refine zt_iconst zy_256 (show q_ins q_k256 22 = some (.iconst 1, 0, 0) from rfl) ?_
      refine zt_goto zy_256 (show q_ins q_k256 23 = some (.goto 4, 27, 0) from rfl) ?_
      exact zt_wk (zt_cov_cons rfl (zt_cov_cons rfl (zt_cov_cons rfl (zt_cov_nil)))) (S_M_could_27  _ _ _ _ _ h)
theorem S_M_unseen_44 {X : q_X}   : ∀ (x0 : Int) (σ : zt_S) (o : (Int × zt_S)), F_M_unseen_44  x0 σ = some o → zt_Ex X 2 257 44 [] [.int (Int32.ofInt x0)] (zt_M σ) (zo_I o) := by
  intro x0 σ o  h
  unfold F_M_unseen_44 at h
  cases h
  exact zt_iret zy_257 (show q_ins q_k257 44 = some (.ireturn, 0, 0) from rfl)
theorem S_M_unseen {X : q_X}   {v1 : Int} {σ : zt_S} {o : (Int × zt_S)} (h : F_M_unseen  v1 σ = some o) : zt_Ex X 2 257 0 (lv_args 0 [.ref 163, .int (Int32.ofInt v1)]) [] (zt_M σ) (zo_I o) := by
  unfold F_M_unseen at h
  refine zt_aload_n zy_257 (show q_ins q_k257 0 = some (.aload_n 0, 0, 0) from rfl) (v := 163) rfl ?_
  refine zt_iconst zy_257 (show q_ins q_k257 1 = some (.iconst 0, 0, 0) from rfl) ?_
  obtain ⟨s1, hs1, h⟩ := zt_letE h
  refine zt_putI zy_257 (show q_ins q_k257 2 = some (.putfield 1, 11, 0) from rfl) (j := 0) zk_163_0 rfl rfl rfl ?_
  rw [← hs1]
  refine zt_aload_n zy_257 (show q_ins q_k257 5 = some (.aload_n 0, 0, 0) from rfl) (v := 163) rfl ?_
  refine zt_aload_n zy_257 (show q_ins q_k257 6 = some (.aload_n 0, 0, 0) from rfl) (v := 163) rfl ?_
  refine zt_iload_n zy_257 (show q_ins q_k257 7 = some (.iload_n 1, 0, 0) from rfl) (v := Int32.ofInt v1) rfl ?_
  obtain ⟨a2, s3, hca2, h⟩ := zt_bdE h
  refine zt_callV (d := 1) zy_257 (show q_ins q_k257 8 = some (.invokevirtual 319, 236, 1) from rfl) zy_236 (by decide) ⟨zq_lt (by decide), by decide⟩ rfl (by simp [Value.category]) (by simp [lg_sl, Value.category]) (zt_rcv zc_163) (zt_dm (by decide) (S_M_isPlayer hca2)) ?_
  refine zt_iconst zy_257 (show q_ins q_k257 11 = some (.iconst 1, 0, 0) from rfl) ?_
  obtain ⟨a4, s5, hca4, h⟩ := zt_bdE h
  refine zt_callV (d := 1) zy_257 (show q_ins q_k257 12 = some (.invokevirtual 227, 174, 2) from rfl) zy_174 (by decide) ⟨zq_lt (by decide), by decide⟩ rfl (by simp [Value.category]) (by simp [lg_sl, Value.category]) (zt_rcv zc_163) (zt_dm (by decide) (S_M_fails hca4)) ?_
  obtain ⟨hg, h⟩ := zt_ckE h
  refine zt_if_eq zy_257 (show q_ins q_k257 15 = some (.ifCond .eq 7, 22, 0) from rfl) (hg) (fun hc => ?_) (fun hc => ?_)
  · rw [if_pos hc] at h
    refine zt_aload_n zy_257 (show q_ins q_k257 22 = some (.aload_n 0, 0, 0) from rfl) (v := 163) rfl ?_
    obtain ⟨a6, s7, hca6, h⟩ := zt_bdE h
    refine zt_callV (d := 1) zy_257 (show q_ins q_k257 23 = some (.invokevirtual 244, 207, 0) from rfl) zy_207 (by decide) ⟨zq_lt (by decide), by decide⟩ rfl (by simp [Value.category]) (by simp [lg_sl, Value.category]) (zt_rcv zc_163) (zt_dm (by decide) (S_M_cards hca6)) ?_
    refine zt_aload_n zy_257 (show q_ins q_k257 26 = some (.aload_n 0, 0, 0) from rfl) (v := 163) rfl ?_
    refine zt_getR zy_257 (show q_ins q_k257 27 = some (.getfield 13, 11, 1) from rfl) (r := 164) zk_163_1 ?_
    refine zt_bipush zy_257 (show q_ins q_k257 30 = some (.bipush 12, 0, 0) from rfl) (by decide) ?_
    refine zt_ald zy_257 (show q_ins q_k257 32 = some (.iaload, 0, 0) from rfl) za_164 (by decide) (by decide) ?_
    refine zt_isub zy_257 (show q_ins q_k257 33 = some (.isub, 0, 0) from rfl) ?_
    refine zt_aload_n zy_257 (show q_ins q_k257 34 = some (.aload_n 0, 0, 0) from rfl) (v := 163) rfl ?_
    refine zt_aload_n zy_257 (show q_ins q_k257 35 = some (.aload_n 0, 0, 0) from rfl) (v := 163) rfl ?_
    refine zt_getR zy_257 (show q_ins q_k257 36 = some (.getfield 13, 11, 1) from rfl) (r := 164) zk_163_1 ?_
    refine zt_iload_n zy_257 (show q_ins q_k257 39 = some (.iload_n 1, 0, 0) from rfl) (v := Int32.ofInt v1) rfl ?_
    obtain ⟨a8, s9, hca8, h⟩ := zt_bdE h
    refine zt_callV (d := 1) zy_257 (show q_ins q_k257 40 = some (.invokevirtual 178, 199, 2) from rfl) zy_199 (by decide) ⟨zq_lt (by decide), by decide⟩ rfl (by simp [Value.category]) (by simp [lg_sl, Value.category]) (zt_rcv zc_163) (zt_dm (by decide) (S_M_heldBy za_164 (by decide) hca8)) ?_
    refine zt_isub zy_257 (show q_ins q_k257 43 = some (.isub, 0, 0) from rfl) ?_
    exact zt_wk (zt_cov_nil) (S_M_unseen_44  _ _ _ h)
  · rw [if_neg hc] at h
    refine zt_iconst zy_257 (show q_ins q_k257 18 = some (.iconst 0, 0, 0) from rfl) ?_
    refine zt_goto zy_257 (show q_ins q_k257 19 = some (.goto 25, 44, 0) from rfl) ?_
    exact zt_wk (zt_cov_nil) (S_M_unseen_44  _ _ _ h)
