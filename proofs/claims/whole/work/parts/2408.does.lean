/-! the mini-machine does what the functions say (by program) -/
theorem S_M_inTrick {X : q_X}    {σ : zt_S} {o : (Int × zt_S)} (h : F_M_inTrick   σ = some o) : zt_Ex X 0 212 0 (lv_args 0 [.ref 163]) [] (zt_M σ) (zo_I o) := by
  unfold F_M_inTrick at h
  refine zt_aload_n zy_212 (show q_ins q_k212 0 = some (.aload_n 0, 0, 0) from rfl) (v := 163) rfl ?_
  refine zt_getR zy_212 (show q_ins q_k212 1 = some (.getfield 13, 11, 1) from rfl) (r := 164) zk_163_1 ?_
  refine zt_bipush zy_212 (show q_ins q_k212 4 = some (.bipush 12, 0, 0) from rfl) (by decide) ?_
  refine zt_ald zy_212 (show q_ins q_k212 6 = some (.iaload, 0, 0) from rfl) za_164 (by decide) (by decide) ?_
  refine zt_aload_n zy_212 (show q_ins q_k212 7 = some (.aload_n 0, 0, 0) from rfl) (v := 163) rfl ?_
  refine zt_getR zy_212 (show q_ins q_k212 8 = some (.getfield 13, 11, 1) from rfl) (r := 164) zk_163_1 ?_
  refine zt_bipush zy_212 (show q_ins q_k212 11 = some (.bipush 13, 0, 0) from rfl) (by decide) ?_
  refine zt_ald zy_212 (show q_ins q_k212 13 = some (.iaload, 0, 0) from rfl) za_164 (by decide) (by decide) ?_
  refine zt_aload_n zy_212 (show q_ins q_k212 14 = some (.aload_n 0, 0, 0) from rfl) (v := 163) rfl ?_
  refine zt_getR zy_212 (show q_ins q_k212 15 = some (.getfield 13, 11, 1) from rfl) (r := 164) zk_163_1 ?_
  refine zt_iconst zy_212 (show q_ins q_k212 18 = some (.iconst 1, 0, 0) from rfl) ?_
  refine zt_ald zy_212 (show q_ins q_k212 19 = some (.iaload, 0, 0) from rfl) za_164 (by decide) (by decide) ?_
  refine zt_imul zy_212 (show q_ins q_k212 20 = some (.imul, 0, 0) from rfl) ?_
  refine zt_isub zy_212 (show q_ins q_k212 21 = some (.isub, 0, 0) from rfl) ?_
  cases h
  exact zt_iret zy_212 (show q_ins q_k212 22 = some (.ireturn, 0, 0) from rfl)
theorem S_M_cardInTrick {X : q_X}   {v1 : Int} {σ : zt_S} {o : (Int × zt_S)} (h : F_M_cardInTrick  v1 σ = some o) : zt_Ex X 0 213 0 (lv_args 0 [.ref 163, .int (Int32.ofInt v1)]) [] (zt_M σ) (zo_I o) := by
  unfold F_M_cardInTrick at h
  refine zt_aload_n zy_213 (show q_ins q_k213 0 = some (.aload_n 0, 0, 0) from rfl) (v := 163) rfl ?_
  refine zt_getR zy_213 (show q_ins q_k213 1 = some (.getfield 13, 11, 1) from rfl) (r := 164) zk_163_1 ?_
  refine zt_bipush zy_213 (show q_ins q_k213 4 = some (.bipush 92, 0, 0) from rfl) (by decide) ?_
  refine zt_aload_n zy_213 (show q_ins q_k213 6 = some (.aload_n 0, 0, 0) from rfl) (v := 163) rfl ?_
  refine zt_getR zy_213 (show q_ins q_k213 7 = some (.getfield 13, 11, 1) from rfl) (r := 164) zk_163_1 ?_
  refine zt_bipush zy_213 (show q_ins q_k213 10 = some (.bipush 13, 0, 0) from rfl) (by decide) ?_
  refine zt_ald zy_213 (show q_ins q_k213 12 = some (.iaload, 0, 0) from rfl) za_164 (by decide) (by decide) ?_
  refine zt_aload_n zy_213 (show q_ins q_k213 13 = some (.aload_n 0, 0, 0) from rfl) (v := 163) rfl ?_
  refine zt_getR zy_213 (show q_ins q_k213 14 = some (.getfield 13, 11, 1) from rfl) (r := 164) zk_163_1 ?_
  refine zt_iconst zy_213 (show q_ins q_k213 17 = some (.iconst 1, 0, 0) from rfl) ?_
  refine zt_ald zy_213 (show q_ins q_k213 18 = some (.iaload, 0, 0) from rfl) za_164 (by decide) (by decide) ?_
  refine zt_imul zy_213 (show q_ins q_k213 19 = some (.imul, 0, 0) from rfl) ?_
  refine zt_iadd zy_213 (show q_ins q_k213 20 = some (.iadd, 0, 0) from rfl) ?_
  refine zt_iload_n zy_213 (show q_ins q_k213 21 = some (.iload_n 1, 0, 0) from rfl) (v := Int32.ofInt v1) rfl ?_
  refine zt_iadd zy_213 (show q_ins q_k213 22 = some (.iadd, 0, 0) from rfl) ?_
  obtain ⟨hg, h⟩ := zt_ckE h
  refine zt_ald zy_213 (show q_ins q_k213 23 = some (.iaload, 0, 0) from rfl) za_164 (by decide) hg ?_
  cases h
  exact zt_iret zy_213 (show q_ins q_k213 24 = some (.ireturn, 0, 0) from rfl)
theorem S_M_turn_30 {X : q_X}   : ∀ (x0 : Int) (σ : zt_S) (o : (Int × zt_S)), F_M_turn_30  x0 σ = some o → zt_Ex X 1 214 30 [] [.int (Int32.ofInt x0)] (zt_M σ) (zo_I o) := by
  intro x0 σ o  h
  unfold F_M_turn_30 at h
  cases h
  exact zt_iret zy_214 (show q_ins q_k214 30 = some (.ireturn, 0, 0) from rfl)
theorem S_M_turn {X : q_X}    {σ : zt_S} {o : (Int × zt_S)} (h : F_M_turn   σ = some o) : zt_Ex X 1 214 0 (lv_args 0 [.ref 163]) [] (zt_M σ) (zo_I o) := by
  unfold F_M_turn at h
  refine zt_aload_n zy_214 (show q_ins q_k214 0 = some (.aload_n 0, 0, 0) from rfl) (v := 163) rfl ?_
  obtain ⟨a1, s2, hca1, h⟩ := zt_bdE h
  refine zt_callV (d := 0) zy_214 (show q_ins q_k214 1 = some (.invokevirtual 248, 211, 0) from rfl) zy_211 (by decide) ⟨zq_lt (by decide), by decide⟩ rfl (by simp [Value.category]) (by simp [lg_sl, Value.category]) (zt_rcv zc_163) (zt_dm (by decide) (S_M_isOver hca1)) ?_
  obtain ⟨hg, h⟩ := zt_ckE h
  refine zt_if_eq zy_214 (show q_ins q_k214 4 = some (.ifCond .eq 7, 11, 0) from rfl) (hg) (fun hc => ?_) (fun hc => ?_)
  · rw [if_pos hc] at h
    refine zt_aload_n zy_214 (show q_ins q_k214 11 = some (.aload_n 0, 0, 0) from rfl) (v := 163) rfl ?_
    refine zt_getR zy_214 (show q_ins q_k214 12 = some (.getfield 13, 11, 1) from rfl) (r := 164) zk_163_1 ?_
    refine zt_bipush zy_214 (show q_ins q_k214 15 = some (.bipush 9, 0, 0) from rfl) (by decide) ?_
    refine zt_ald zy_214 (show q_ins q_k214 17 = some (.iaload, 0, 0) from rfl) za_164 (by decide) (by decide) ?_
    refine zt_aload_n zy_214 (show q_ins q_k214 18 = some (.aload_n 0, 0, 0) from rfl) (v := 163) rfl ?_
    obtain ⟨a3, s4, hca3, h⟩ := zt_bdE h
    refine zt_callV (d := 0) zy_214 (show q_ins q_k214 19 = some (.invokevirtual 251, 212, 0) from rfl) zy_212 (by decide) ⟨zq_lt (by decide), by decide⟩ rfl (by simp [Value.category]) (by simp [lg_sl, Value.category]) (zt_rcv zc_163) (zt_dm (by decide) (S_M_inTrick hca3)) ?_
    refine zt_iadd zy_214 (show q_ins q_k214 22 = some (.iadd, 0, 0) from rfl) ?_
    refine zt_aload_n zy_214 (show q_ins q_k214 23 = some (.aload_n 0, 0, 0) from rfl) (v := 163) rfl ?_
    refine zt_getR zy_214 (show q_ins q_k214 24 = some (.getfield 13, 11, 1) from rfl) (r := 164) zk_163_1 ?_
    refine zt_iconst zy_214 (show q_ins q_k214 27 = some (.iconst 1, 0, 0) from rfl) ?_
    refine zt_ald zy_214 (show q_ins q_k214 28 = some (.iaload, 0, 0) from rfl) za_164 (by decide) (by decide) ?_
    obtain ⟨hg, h⟩ := zt_ckE h
    refine zt_irem zy_214 (show q_ins q_k214 29 = some (.irem, 0, 0) from rfl) hg.1 hg.2 ?_
    exact zt_wk (zt_cov_nil) (S_M_turn_30  _ _ _ h)
  · rw [if_neg hc] at h
    refine zt_iconst zy_214 (show q_ins q_k214 7 = some (.iconst (-1), 0, 0) from rfl) ?_
    refine zt_goto zy_214 (show q_ins q_k214 8 = some (.goto 22, 30, 0) from rfl) ?_
    exact zt_wk (zt_cov_nil) (S_M_turn_30  _ _ _ h)
theorem S_M_ledSuit_20 {X : q_X}   : ∀ (x0 : Int) (σ : zt_S) (o : (Int × zt_S)), F_M_ledSuit_20  x0 σ = some o → zt_Ex X 1 215 20 [] [.int (Int32.ofInt x0)] (zt_M σ) (zo_I o) := by
  intro x0 σ o  h
  unfold F_M_ledSuit_20 at h
  cases h
  exact zt_iret zy_215 (show q_ins q_k215 20 = some (.ireturn, 0, 0) from rfl)
theorem S_M_ledSuit {X : q_X}    {σ : zt_S} {o : (Int × zt_S)} (h : F_M_ledSuit   σ = some o) : zt_Ex X 1 215 0 (lv_args 0 [.ref 163]) [] (zt_M σ) (zo_I o) := by
  unfold F_M_ledSuit at h
  refine zt_aload_n zy_215 (show q_ins q_k215 0 = some (.aload_n 0, 0, 0) from rfl) (v := 163) rfl ?_
  obtain ⟨a1, s2, hca1, h⟩ := zt_bdE h
  refine zt_callV (d := 0) zy_215 (show q_ins q_k215 1 = some (.invokevirtual 251, 212, 0) from rfl) zy_212 (by decide) ⟨zq_lt (by decide), by decide⟩ rfl (by simp [Value.category]) (by simp [lg_sl, Value.category]) (zt_rcv zc_163) (zt_dm (by decide) (S_M_inTrick hca1)) ?_
  obtain ⟨hg, h⟩ := zt_ckE h
  refine zt_if_ne zy_215 (show q_ins q_k215 4 = some (.ifCond .ne 7, 11, 0) from rfl) (hg) (fun hc => ?_) (fun hc => ?_)
  · rw [if_pos hc] at h
    refine zt_iconst zy_215 (show q_ins q_k215 7 = some (.iconst (-1), 0, 0) from rfl) ?_
    refine zt_goto zy_215 (show q_ins q_k215 8 = some (.goto 12, 20, 0) from rfl) ?_
    exact zt_wk (zt_cov_nil) (S_M_ledSuit_20  _ _ _ h)
  · rw [if_neg hc] at h
    refine zt_aload_n zy_215 (show q_ins q_k215 11 = some (.aload_n 0, 0, 0) from rfl) (v := 163) rfl ?_
    refine zt_aload_n zy_215 (show q_ins q_k215 12 = some (.aload_n 0, 0, 0) from rfl) (v := 163) rfl ?_
    refine zt_iconst zy_215 (show q_ins q_k215 13 = some (.iconst 0, 0, 0) from rfl) ?_
    obtain ⟨a3, s4, hca3, h⟩ := zt_bdE h
    refine zt_callV (d := 0) zy_215 (show q_ins q_k215 14 = some (.invokevirtual 254, 213, 1) from rfl) zy_213 (by decide) ⟨zq_lt (by decide), by decide⟩ rfl (by simp [Value.category]) (by simp [lg_sl, Value.category]) (zt_rcv zc_163) (zt_dm (by decide) (S_M_cardInTrick hca3)) ?_
    obtain ⟨a5, s6, hca5, h⟩ := zt_bdE h
    refine zt_callV (d := 0) zy_215 (show q_ins q_k215 17 = some (.invokevirtual 257, 209, 1) from rfl) zy_209 (by decide) ⟨zq_lt (by decide), by decide⟩ rfl (by simp [Value.category]) (by simp [lg_sl, Value.category]) (zt_rcv zc_163) (zt_dm (by decide) (S_M_suitOf hca5)) ?_
    exact zt_wk (zt_cov_nil) (S_M_ledSuit_20  _ _ _ h)
theorem S_M_powerWith_47 {X : q_X}   : ∀ (x0 : Int) (σ : zt_S) (o : (Int × zt_S)), F_M_powerWith_47  x0 σ = some o → zt_Ex X 1 216 47 [] [.int (Int32.ofInt x0)] (zt_M σ) (zo_I o) := by
  intro x0 σ o  h
  unfold F_M_powerWith_47 at h
  cases h
  exact zt_iret zy_216 (show q_ins q_k216 47 = some (.ireturn, 0, 0) from rfl)
theorem S_M_powerWith {X : q_X}   {v1 : Int} {v2 : Int} {σ : zt_S} {o : (Int × zt_S)} (h : F_M_powerWith  v1 v2 σ = some o) : zt_Ex X 1 216 0 (lv_args 0 [.ref 163, .int (Int32.ofInt v1), .int (Int32.ofInt v2)]) [] (zt_M σ) (zo_I o) := by
  unfold F_M_powerWith at h
  refine zt_aload_n zy_216 (show q_ins q_k216 0 = some (.aload_n 0, 0, 0) from rfl) (v := 163) rfl ?_
  refine zt_iload_n zy_216 (show q_ins q_k216 1 = some (.iload_n 1, 0, 0) from rfl) (v := Int32.ofInt v1) rfl ?_
  obtain ⟨a1, s2, hca1, h⟩ := zt_bdE h
  refine zt_callV (d := 0) zy_216 (show q_ins q_k216 2 = some (.invokevirtual 257, 209, 1) from rfl) zy_209 (by decide) ⟨zq_lt (by decide), by decide⟩ rfl (by simp [Value.category]) (by simp [lg_sl, Value.category]) (zt_rcv zc_163) (zt_dm (by decide) (S_M_suitOf hca1)) ?_
  refine zt_istore_n zy_216 (show q_ins q_k216 5 = some (.istore_n 3, 0, 0) from rfl) (by decide) ?_
  refine zt_iload_n zy_216 (show q_ins q_k216 6 = some (.iload_n 3, 0, 0) from rfl) (v := Int32.ofInt a1) rfl ?_
  refine zt_aload_n zy_216 (show q_ins q_k216 7 = some (.aload_n 0, 0, 0) from rfl) (v := 163) rfl ?_
  refine zt_getR zy_216 (show q_ins q_k216 8 = some (.getfield 13, 11, 1) from rfl) (r := 164) zk_163_1 ?_
  refine zt_bipush zy_216 (show q_ins q_k216 11 = some (.bipush 10, 0, 0) from rfl) (by decide) ?_
  refine zt_ald zy_216 (show q_ins q_k216 13 = some (.iaload, 0, 0) from rfl) za_164 (by decide) (by decide) ?_
  obtain ⟨hg, h⟩ := zt_ckE h
  refine zt_icmp_ne zy_216 (show q_ins q_k216 14 = some (.if_icmp .ne 19, 33, 0) from rfl) (⟨hg.1, hg.2⟩) (fun hc => ?_) (fun hc => ?_)
  · rw [if_pos hc] at h
    refine zt_aload_n zy_216 (show q_ins q_k216 17 = some (.aload_n 0, 0, 0) from rfl) (v := 163) rfl ?_
    refine zt_iload_n zy_216 (show q_ins q_k216 18 = some (.iload_n 1, 0, 0) from rfl) (v := Int32.ofInt v1) rfl ?_
    obtain ⟨a3, s4, hca3, h⟩ := zt_bdE h
    refine zt_callV (d := 0) zy_216 (show q_ins q_k216 19 = some (.invokevirtual 260, 210, 1) from rfl) zy_210 (by decide) ⟨zq_lt (by decide), by decide⟩ rfl (by simp [Value.category]) (by simp [lg_sl, Value.category]) (zt_rcv zc_163) (zt_dm (by decide) (S_M_rankOf hca3)) ?_
    refine zt_aload_n zy_216 (show q_ins q_k216 22 = some (.aload_n 0, 0, 0) from rfl) (v := 163) rfl ?_
    refine zt_getR zy_216 (show q_ins q_k216 23 = some (.getfield 13, 11, 1) from rfl) (r := 164) zk_163_1 ?_
    refine zt_bipush zy_216 (show q_ins q_k216 26 = some (.bipush 11, 0, 0) from rfl) (by decide) ?_
    refine zt_ald zy_216 (show q_ins q_k216 28 = some (.iaload, 0, 0) from rfl) za_164 (by decide) (by decide) ?_
    refine zt_iadd zy_216 (show q_ins q_k216 29 = some (.iadd, 0, 0) from rfl) ?_
    refine zt_goto zy_216 (show q_ins q_k216 30 = some (.goto 17, 47, 0) from rfl) ?_
    exact zt_wk (zt_cov_nil) (S_M_powerWith_47  _ _ _ h)
  · rw [if_neg hc] at h
    refine zt_iload_n zy_216 (show q_ins q_k216 33 = some (.iload_n 3, 0, 0) from rfl) (v := Int32.ofInt a1) rfl ?_
    refine zt_iload_n zy_216 (show q_ins q_k216 34 = some (.iload_n 2, 0, 0) from rfl) (v := Int32.ofInt v2) rfl ?_
    obtain ⟨hg, h⟩ := zt_ckE h
    refine zt_icmp_ne zy_216 (show q_ins q_k216 35 = some (.if_icmp .ne 11, 46, 0) from rfl) (⟨hg.1, hg.2⟩) (fun hc => ?_) (fun hc => ?_)
    · rw [if_pos hc] at h
      refine zt_aload_n zy_216 (show q_ins q_k216 38 = some (.aload_n 0, 0, 0) from rfl) (v := 163) rfl ?_
      refine zt_iload_n zy_216 (show q_ins q_k216 39 = some (.iload_n 1, 0, 0) from rfl) (v := Int32.ofInt v1) rfl ?_
      obtain ⟨a5, s6, hca5, h⟩ := zt_bdE h
      refine zt_callV (d := 0) zy_216 (show q_ins q_k216 40 = some (.invokevirtual 260, 210, 1) from rfl) zy_210 (by decide) ⟨zq_lt (by decide), by decide⟩ rfl (by simp [Value.category]) (by simp [lg_sl, Value.category]) (zt_rcv zc_163) (zt_dm (by decide) (S_M_rankOf hca5)) ?_
      refine zt_goto zy_216 (show q_ins q_k216 43 = some (.goto 4, 47, 0) from rfl) ?_
      exact zt_wk (zt_cov_nil) (S_M_powerWith_47  _ _ _ h)
    · rw [if_neg hc] at h
      refine zt_iconst zy_216 (show q_ins q_k216 46 = some (.iconst 0, 0, 0) from rfl) ?_
      exact zt_wk (zt_cov_nil) (S_M_powerWith_47  _ _ _ h)
theorem S_M_powerNow_21 {X : q_X}   : ∀ (x0 : Int) (x1 : Int) (σ : zt_S) (o : (Int × zt_S)), F_M_powerNow_21  x0 x1 σ = some o → zt_Ex X 2 217 21 [] [.int (Int32.ofInt x0), .int (Int32.ofInt x1), .ref 163] (zt_M σ) (zo_I o) := by
  intro x0 x1 σ o  h
  unfold F_M_powerNow_21 at h
  obtain ⟨a5, s6, hca5, h⟩ := zt_bdE h
  refine zt_callV (d := 1) zy_217 (show q_ins q_k217 21 = some (.invokevirtual 266, 216, 2) from rfl) zy_216 (by decide) ⟨zq_lt (by decide), by decide⟩ rfl (by simp [Value.category]) (by simp [lg_sl, Value.category]) (zt_rcv zc_163) (zt_dm (by decide) (S_M_powerWith hca5)) ?_
  cases h
  exact zt_iret zy_217 (show q_ins q_k217 24 = some (.ireturn, 0, 0) from rfl)
theorem S_M_powerNow {X : q_X}   {v1 : Int} {σ : zt_S} {o : (Int × zt_S)} (h : F_M_powerNow  v1 σ = some o) : zt_Ex X 2 217 0 (lv_args 0 [.ref 163, .int (Int32.ofInt v1)]) [] (zt_M σ) (zo_I o) := by
  unfold F_M_powerNow at h
  refine zt_aload_n zy_217 (show q_ins q_k217 0 = some (.aload_n 0, 0, 0) from rfl) (v := 163) rfl ?_
  refine zt_iload_n zy_217 (show q_ins q_k217 1 = some (.iload_n 1, 0, 0) from rfl) (v := Int32.ofInt v1) rfl ?_
  refine zt_aload_n zy_217 (show q_ins q_k217 2 = some (.aload_n 0, 0, 0) from rfl) (v := 163) rfl ?_
  obtain ⟨a1, s2, hca1, h⟩ := zt_bdE h
  refine zt_callV (d := 1) zy_217 (show q_ins q_k217 3 = some (.invokevirtual 251, 212, 0) from rfl) zy_212 (by decide) ⟨zq_lt (by decide), by decide⟩ rfl (by simp [Value.category]) (by simp [lg_sl, Value.category]) (zt_rcv zc_163) (zt_dm (by decide) (S_M_inTrick hca1)) ?_
  obtain ⟨hg, h⟩ := zt_ckE h
  refine zt_if_ne zy_217 (show q_ins q_k217 6 = some (.ifCond .ne 11, 17, 0) from rfl) (hg) (fun hc => ?_) (fun hc => ?_)
  · rw [if_pos hc] at h
    refine zt_aload_n zy_217 (show q_ins q_k217 9 = some (.aload_n 0, 0, 0) from rfl) (v := 163) rfl ?_
    refine zt_iload_n zy_217 (show q_ins q_k217 10 = some (.iload_n 1, 0, 0) from rfl) (v := Int32.ofInt v1) rfl ?_
    obtain ⟨a3, s4, hca3, h⟩ := zt_bdE h
    refine zt_callV (d := 1) zy_217 (show q_ins q_k217 11 = some (.invokevirtual 257, 209, 1) from rfl) zy_209 (by decide) ⟨zq_lt (by decide), by decide⟩ rfl (by simp [Value.category]) (by simp [lg_sl, Value.category]) (zt_rcv zc_163) (zt_dm (by decide) (S_M_suitOf hca3)) ?_
    refine zt_goto zy_217 (show q_ins q_k217 14 = some (.goto 7, 21, 0) from rfl) ?_
    exact zt_wk (zt_cov_nil) (S_M_powerNow_21  _ _ _ _ h)
  · rw [if_neg hc] at h
    refine zt_aload_n zy_217 (show q_ins q_k217 17 = some (.aload_n 0, 0, 0) from rfl) (v := 163) rfl ?_
    obtain ⟨a7, s8, hca7, h⟩ := zt_bdE h
    refine zt_callV (d := 1) zy_217 (show q_ins q_k217 18 = some (.invokevirtual 263, 215, 0) from rfl) zy_215 (by decide) ⟨zq_lt (by decide), by decide⟩ rfl (by simp [Value.category]) (by simp [lg_sl, Value.category]) (zt_rcv zc_163) (zt_dm (by decide) (S_M_ledSuit hca7)) ?_
    exact zt_wk (zt_cov_nil) (S_M_powerNow_21  _ _ _ _ h)
theorem S_M_bestPlace_40 {X : q_X}   {r4 : Int → Int → zt_S → Option (Int × zt_S)} (hr4 : ∀ (v1 : Int) (v2 : Int) (σ : zt_S) (o : (Int × zt_S)), r4 v1 v2 σ = some o → zt_Ex X 3 218 4 [(0, .ref 163), (1, .int (Int32.ofInt v1)), (2, .int (Int32.ofInt v2))] [] (zt_M σ) (zo_I o)) : ∀ (v1 : Int) (v2 : Int) (σ : zt_S) (o : (Int × zt_S)), F_M_bestPlace_40  r4 v1 v2 σ = some o → zt_Ex X 3 218 40 [(0, .ref 163), (1, .int (Int32.ofInt v1)), (2, .int (Int32.ofInt v2))] [] (zt_M σ) (zo_I o) := by
  intro v1 v2 σ o  h
  unfold F_M_bestPlace_40 at h
  refine zt_iinc zy_218 (show q_ins q_k218 40 = some (.iinc 2 1, 0, 0) from rfl) (v := v2) (by decide) rfl ?_
  refine zt_goto zy_218 (show q_ins q_k218 43 = some (.goto (-39), 4, 0) from rfl) ?_
  exact zt_wk (zt_cov_cons rfl (zt_cov_cons rfl (zt_cov_cons rfl (zt_cov_nil)))) (hr4 _ _ _ _ h)
theorem S_M_bestPlace_38 {X : q_X}   {r4 : Int → Int → zt_S → Option (Int × zt_S)} (hr4 : ∀ (v1 : Int) (v2 : Int) (σ : zt_S) (o : (Int × zt_S)), r4 v1 v2 σ = some o → zt_Ex X 3 218 4 [(0, .ref 163), (1, .int (Int32.ofInt v1)), (2, .int (Int32.ofInt v2))] [] (zt_M σ) (zo_I o)) : ∀ (v2 : Int) (σ : zt_S) (o : (Int × zt_S)), F_M_bestPlace_38  r4 v2 σ = some o → zt_Ex X 3 218 38 [(0, .ref 163), (2, .int (Int32.ofInt v2))] [] (zt_M σ) (zo_I o) := by
  intro v2 σ o  h
  unfold F_M_bestPlace_38 at h
  refine zt_iload_n zy_218 (show q_ins q_k218 38 = some (.iload_n 2, 0, 0) from rfl) (v := Int32.ofInt v2) rfl ?_
  refine zt_istore_n zy_218 (show q_ins q_k218 39 = some (.istore_n 1, 0, 0) from rfl) (by decide) ?_
  exact zt_wk (zt_cov_cons rfl (zt_cov_cons rfl (zt_cov_cons rfl (zt_cov_nil)))) (S_M_bestPlace_40  hr4 _ _ _ _ h)
theorem S_M_bestPlace_4 {X : q_X}   : ∀ (n : Nat) (v1 : Int) (v2 : Int) (σ : zt_S) (o : (Int × zt_S)), F_M_bestPlace_4  n v1 v2 σ = some o → zt_Ex X 3 218 4 [(0, .ref 163), (1, .int (Int32.ofInt v1)), (2, .int (Int32.ofInt v2))] [] (zt_M σ) (zo_I o) := by
  intro n
  induction n with
  | zero => intro v1 v2 σ o  h; cases h
  | succ n ih =>
  intro v1 v2 σ o  h
  rw [F_M_bestPlace_4] at h
  refine zt_iload_n zy_218 (show q_ins q_k218 4 = some (.iload_n 2, 0, 0) from rfl) (v := Int32.ofInt v2) rfl ?_
  refine zt_aload_n zy_218 (show q_ins q_k218 5 = some (.aload_n 0, 0, 0) from rfl) (v := 163) rfl ?_
  obtain ⟨a1, s2, hca1, h⟩ := zt_bdE h
  refine zt_callV (d := 2) zy_218 (show q_ins q_k218 6 = some (.invokevirtual 251, 212, 0) from rfl) zy_212 (by decide) ⟨zq_lt (by decide), by decide⟩ rfl (by simp [Value.category]) (by simp [lg_sl, Value.category]) (zt_rcv zc_163) (zt_dm (by decide) (S_M_inTrick hca1)) ?_
  obtain ⟨hg, h⟩ := zt_ckE h
  refine zt_icmp_ge zy_218 (show q_ins q_k218 9 = some (.if_icmp .ge 37, 46, 0) from rfl) (⟨hg.1, hg.2⟩) (fun hc => ?_) (fun hc => ?_)
  · rw [if_pos hc] at h
    refine zt_iload_n zy_218 (show q_ins q_k218 12 = some (.iload_n 1, 0, 0) from rfl) (v := Int32.ofInt v1) rfl ?_
    refine zt_iconst zy_218 (show q_ins q_k218 13 = some (.iconst (-1), 0, 0) from rfl) ?_
    obtain ⟨hg, h⟩ := zt_ckE h
    refine zt_icmp_eq zy_218 (show q_ins q_k218 14 = some (.if_icmp .eq 24, 38, 0) from rfl) (⟨hg, by decide⟩) (fun hc => ?_) (fun hc => ?_)
    · rw [if_pos hc] at h
      exact zt_wk (zt_cov_cons rfl (zt_cov_cons rfl (zt_cov_nil))) (S_M_bestPlace_38  ih _ _ _ h)
    · rw [if_neg hc] at h
      refine zt_aload_n zy_218 (show q_ins q_k218 17 = some (.aload_n 0, 0, 0) from rfl) (v := 163) rfl ?_
      refine zt_aload_n zy_218 (show q_ins q_k218 18 = some (.aload_n 0, 0, 0) from rfl) (v := 163) rfl ?_
      refine zt_iload_n zy_218 (show q_ins q_k218 19 = some (.iload_n 2, 0, 0) from rfl) (v := Int32.ofInt v2) rfl ?_
      obtain ⟨a3, s4, hca3, h⟩ := zt_bdE h
      refine zt_callV (d := 2) zy_218 (show q_ins q_k218 20 = some (.invokevirtual 254, 213, 1) from rfl) zy_213 (by decide) ⟨zq_lt (by decide), by decide⟩ rfl (by simp [Value.category]) (by simp [lg_sl, Value.category]) (zt_rcv zc_163) (zt_dm (by decide) (S_M_cardInTrick hca3)) ?_
      obtain ⟨a5, s6, hca5, h⟩ := zt_bdE h
      refine zt_callV (d := 2) zy_218 (show q_ins q_k218 23 = some (.invokevirtual 269, 217, 1) from rfl) zy_217 (by decide) ⟨zq_lt (by decide), by decide⟩ rfl (by simp [Value.category]) (by simp [lg_sl, Value.category]) (zt_rcv zc_163) (zt_dm (by decide) (S_M_powerNow hca5)) ?_
      refine zt_aload_n zy_218 (show q_ins q_k218 26 = some (.aload_n 0, 0, 0) from rfl) (v := 163) rfl ?_
      refine zt_aload_n zy_218 (show q_ins q_k218 27 = some (.aload_n 0, 0, 0) from rfl) (v := 163) rfl ?_
      refine zt_iload_n zy_218 (show q_ins q_k218 28 = some (.iload_n 1, 0, 0) from rfl) (v := Int32.ofInt v1) rfl ?_
      obtain ⟨a7, s8, hca7, h⟩ := zt_bdE h
      refine zt_callV (d := 2) zy_218 (show q_ins q_k218 29 = some (.invokevirtual 254, 213, 1) from rfl) zy_213 (by decide) ⟨zq_lt (by decide), by decide⟩ rfl (by simp [Value.category]) (by simp [lg_sl, Value.category]) (zt_rcv zc_163) (zt_dm (by decide) (S_M_cardInTrick hca7)) ?_
      obtain ⟨a9, s10, hca9, h⟩ := zt_bdE h
      refine zt_callV (d := 2) zy_218 (show q_ins q_k218 32 = some (.invokevirtual 269, 217, 1) from rfl) zy_217 (by decide) ⟨zq_lt (by decide), by decide⟩ rfl (by simp [Value.category]) (by simp [lg_sl, Value.category]) (zt_rcv zc_163) (zt_dm (by decide) (S_M_powerNow hca9)) ?_
      obtain ⟨hg, h⟩ := zt_ckE h
      refine zt_icmp_le zy_218 (show q_ins q_k218 35 = some (.if_icmp .le 5, 40, 0) from rfl) (⟨hg.1, hg.2⟩) (fun hc => ?_) (fun hc => ?_)
      · rw [if_pos hc] at h
        exact zt_wk (zt_cov_cons rfl (zt_cov_cons rfl (zt_cov_nil))) (S_M_bestPlace_38  ih _ _ _ h)
      · rw [if_neg hc] at h
        exact zt_wk (zt_cov_cons rfl (zt_cov_cons rfl (zt_cov_cons rfl (zt_cov_nil)))) (S_M_bestPlace_40  ih _ _ _ _ h)
  · rw [if_neg hc] at h
    refine zt_iload_n zy_218 (show q_ins q_k218 46 = some (.iload_n 1, 0, 0) from rfl) (v := Int32.ofInt v1) rfl ?_
    cases h
    exact zt_iret zy_218 (show q_ins q_k218 47 = some (.ireturn, 0, 0) from rfl)
theorem S_M_bestPlace {X : q_X}    {σ : zt_S} {o : (Int × zt_S)} (h : F_M_bestPlace   σ = some o) : zt_Ex X 3 218 0 (lv_args 0 [.ref 163]) [] (zt_M σ) (zo_I o) := by
  unfold F_M_bestPlace at h
  refine zt_iconst zy_218 (show q_ins q_k218 0 = some (.iconst (-1), 0, 0) from rfl) ?_
  refine zt_istore_n zy_218 (show q_ins q_k218 1 = some (.istore_n 1, 0, 0) from rfl) (by decide) ?_
  refine zt_iconst zy_218 (show q_ins q_k218 2 = some (.iconst 0, 0, 0) from rfl) ?_
  refine zt_istore_n zy_218 (show q_ins q_k218 3 = some (.istore_n 2, 0, 0) from rfl) (by decide) ?_
  exact zt_wk (zt_cov_cons rfl (zt_cov_cons rfl (zt_cov_cons rfl (zt_cov_nil)))) (S_M_bestPlace_4  _ _ _ _ _ h)
theorem S_M_isBetter_32 {X : q_X}   : ∀ (x0 : Int) (σ : zt_S) (o : (Int × zt_S)), F_M_isBetter_32  x0 σ = some o → zt_Ex X 4 219 32 [] [.int (Int32.ofInt x0)] (zt_M σ) (zo_I o) := by
  intro x0 σ o  h
  unfold F_M_isBetter_32 at h
  obtain ⟨hg, h⟩ := zt_ckE h
  cases h
  exact zt_zret zy_219 (show q_ins q_k219 32 = some (.ireturn, 0, 0) from rfl) hg
theorem S_M_isBetter_27 {X : q_X}   : ∀  (σ : zt_S) (o : (Int × zt_S)), F_M_isBetter_27   σ = some o → zt_Ex X 4 219 27 [] [] (zt_M σ) (zo_I o) := by
  intro  σ o  h
  unfold F_M_isBetter_27 at h
  refine zt_iconst zy_219 (show q_ins q_k219 27 = some (.iconst 1, 0, 0) from rfl) ?_
  refine zt_goto zy_219 (show q_ins q_k219 28 = some (.goto 4, 32, 0) from rfl) ?_
  exact zt_wk (zt_cov_nil) (S_M_isBetter_32  _ _ _ h)
theorem S_M_isBetter {X : q_X}   {v1 : Int} {σ : zt_S} {o : (Int × zt_S)} (h : F_M_isBetter  v1 σ = some o) : zt_Ex X 4 219 0 (lv_args 0 [.ref 163, .int (Int32.ofInt v1)]) [] (zt_M σ) (zo_I o) := by
  unfold F_M_isBetter at h
  refine zt_aload_n zy_219 (show q_ins q_k219 0 = some (.aload_n 0, 0, 0) from rfl) (v := 163) rfl ?_
  obtain ⟨a1, s2, hca1, h⟩ := zt_bdE h
  refine zt_callV (d := 3) zy_219 (show q_ins q_k219 1 = some (.invokevirtual 251, 212, 0) from rfl) zy_212 (by decide) ⟨zq_lt (by decide), by decide⟩ rfl (by simp [Value.category]) (by simp [lg_sl, Value.category]) (zt_rcv zc_163) (zt_dm (by decide) (S_M_inTrick hca1)) ?_
  obtain ⟨hg, h⟩ := zt_ckE h
  refine zt_if_eq zy_219 (show q_ins q_k219 4 = some (.ifCond .eq 23, 27, 0) from rfl) (hg) (fun hc => ?_) (fun hc => ?_)
  · rw [if_pos hc] at h
    exact zt_wk (zt_cov_nil) (S_M_isBetter_27  _ _ h)
  · rw [if_neg hc] at h
    refine zt_aload_n zy_219 (show q_ins q_k219 7 = some (.aload_n 0, 0, 0) from rfl) (v := 163) rfl ?_
    refine zt_iload_n zy_219 (show q_ins q_k219 8 = some (.iload_n 1, 0, 0) from rfl) (v := Int32.ofInt v1) rfl ?_
    obtain ⟨a3, s4, hca3, h⟩ := zt_bdE h
    refine zt_callV (d := 3) zy_219 (show q_ins q_k219 9 = some (.invokevirtual 269, 217, 1) from rfl) zy_217 (by decide) ⟨zq_lt (by decide), by decide⟩ rfl (by simp [Value.category]) (by simp [lg_sl, Value.category]) (zt_rcv zc_163) (zt_dm (by decide) (S_M_powerNow hca3)) ?_
    refine zt_aload_n zy_219 (show q_ins q_k219 12 = some (.aload_n 0, 0, 0) from rfl) (v := 163) rfl ?_
    refine zt_aload_n zy_219 (show q_ins q_k219 13 = some (.aload_n 0, 0, 0) from rfl) (v := 163) rfl ?_
    refine zt_aload_n zy_219 (show q_ins q_k219 14 = some (.aload_n 0, 0, 0) from rfl) (v := 163) rfl ?_
    obtain ⟨a5, s6, hca5, h⟩ := zt_bdE h
    refine zt_callV (d := 3) zy_219 (show q_ins q_k219 15 = some (.invokevirtual 272, 218, 0) from rfl) zy_218 (by decide) ⟨zq_lt (by decide), by decide⟩ rfl (by simp [Value.category]) (by simp [lg_sl, Value.category]) (zt_rcv zc_163) (zt_dm (by decide) (S_M_bestPlace hca5)) ?_
    obtain ⟨a7, s8, hca7, h⟩ := zt_bdE h
    refine zt_callV (d := 3) zy_219 (show q_ins q_k219 18 = some (.invokevirtual 254, 213, 1) from rfl) zy_213 (by decide) ⟨zq_lt (by decide), by decide⟩ rfl (by simp [Value.category]) (by simp [lg_sl, Value.category]) (zt_rcv zc_163) (zt_dm (by decide) (S_M_cardInTrick hca7)) ?_
    obtain ⟨a9, s10, hca9, h⟩ := zt_bdE h
    refine zt_callV (d := 3) zy_219 (show q_ins q_k219 21 = some (.invokevirtual 269, 217, 1) from rfl) zy_217 (by decide) ⟨zq_lt (by decide), by decide⟩ rfl (by simp [Value.category]) (by simp [lg_sl, Value.category]) (zt_rcv zc_163) (zt_dm (by decide) (S_M_powerNow hca9)) ?_
    obtain ⟨hg, h⟩ := zt_ckE h
    refine zt_icmp_le zy_219 (show q_ins q_k219 24 = some (.if_icmp .le 7, 31, 0) from rfl) (⟨hg.1, hg.2⟩) (fun hc => ?_) (fun hc => ?_)
    · rw [if_pos hc] at h
      exact zt_wk (zt_cov_nil) (S_M_isBetter_27  _ _ h)
    · rw [if_neg hc] at h
      refine zt_iconst zy_219 (show q_ins q_k219 31 = some (.iconst 0, 0, 0) from rfl) ?_
      exact zt_wk (zt_cov_nil) (S_M_isBetter_32  _ _ _ h)
theorem S_M_holderOf {X : q_X}   {v1 : Int} {σ : zt_S} {o : (Int × zt_S)} (h : F_M_holderOf  v1 σ = some o) : zt_Ex X 0 220 0 (lv_args 0 [.ref 163, .int (Int32.ofInt v1)]) [] (zt_M σ) (zo_I o) := by
  unfold F_M_holderOf at h
  refine zt_aload_n zy_220 (show q_ins q_k220 0 = some (.aload_n 0, 0, 0) from rfl) (v := 163) rfl ?_
  refine zt_getR zy_220 (show q_ins q_k220 1 = some (.getfield 13, 11, 1) from rfl) (r := 164) zk_163_1 ?_
  refine zt_bipush zy_220 (show q_ins q_k220 4 = some (.bipush 40, 0, 0) from rfl) (by decide) ?_
  refine zt_iload_n zy_220 (show q_ins q_k220 6 = some (.iload_n 1, 0, 0) from rfl) (v := Int32.ofInt v1) rfl ?_
  refine zt_iadd zy_220 (show q_ins q_k220 7 = some (.iadd, 0, 0) from rfl) ?_
  obtain ⟨hg, h⟩ := zt_ckE h
  refine zt_ald zy_220 (show q_ins q_k220 8 = some (.iaload, 0, 0) from rfl) za_164 (by decide) hg ?_
  cases h
  exact zt_iret zy_220 (show q_ins q_k220 9 = some (.ireturn, 0, 0) from rfl)
theorem S_M_suitOfPlayer_43 {X : q_X}   {r12 : Int → Int → Int → Int → zt_S → Option (Int × zt_S)} (hr12 : ∀ (v1 : Int) (v2 : Int) (v3 : Int) (v4 : Int) (σ : zt_S) (o : (Int × zt_S)), r12 v1 v2 v3 v4 σ = some o → zt_Ex X 1 221 12 [(0, .ref 163), (1, .int (Int32.ofInt v1)), (2, .int (Int32.ofInt v2)), (3, .int (Int32.ofInt v3)), (4, .int (Int32.ofInt v4))] [] (zt_M σ) (zo_I o)) : ∀ (v1 : Int) (v2 : Int) (v4 : Int) (x0 : Int) (x1 : Int) (σ : zt_S) (o : (Int × zt_S)), F_M_suitOfPlayer_43  r12 v1 v2 v4 x0 x1 σ = some o → zt_Ex X 1 221 43 [(0, .ref 163), (1, .int (Int32.ofInt v1)), (2, .int (Int32.ofInt v2)), (4, .int (Int32.ofInt v4))] [.int (Int32.ofInt x0), .int (Int32.ofInt x1)] (zt_M σ) (zo_I o) := by
  intro v1 v2 v4 x0 x1 σ o  h
  unfold F_M_suitOfPlayer_43 at h
  refine zt_iadd zy_221 (show q_ins q_k221 43 = some (.iadd, 0, 0) from rfl) ?_
  refine zt_istore_n zy_221 (show q_ins q_k221 44 = some (.istore_n 3, 0, 0) from rfl) (by decide) ?_
  refine zt_iinc zy_221 (show q_ins q_k221 45 = some (.iinc 4 1, 0, 0) from rfl) (v := v4) (by decide) rfl ?_
  refine zt_goto zy_221 (show q_ins q_k221 48 = some (.goto (-36), 12, 0) from rfl) ?_
  exact zt_wk (zt_cov_cons rfl (zt_cov_cons rfl (zt_cov_cons rfl (zt_cov_cons rfl (zt_cov_cons rfl (zt_cov_nil)))))) (hr12 _ _ _ _ _ _ h)
theorem S_M_suitOfPlayer_12 {X : q_X}   : ∀ (n : Nat) (v1 : Int) (v2 : Int) (v3 : Int) (v4 : Int) (σ : zt_S) (o : (Int × zt_S)), F_M_suitOfPlayer_12  n v1 v2 v3 v4 σ = some o → zt_Ex X 1 221 12 [(0, .ref 163), (1, .int (Int32.ofInt v1)), (2, .int (Int32.ofInt v2)), (3, .int (Int32.ofInt v3)), (4, .int (Int32.ofInt v4))] [] (zt_M σ) (zo_I o) := by
  intro n
  induction n with
  | zero => intro v1 v2 v3 v4 σ o  h; cases h
  | succ n ih =>
  intro v1 v2 v3 v4 σ o  h
  rw [F_M_suitOfPlayer_12] at h
  refine zt_iload zy_221 (show q_ins q_k221 12 = some (.iload 4, 0, 0) from rfl) (v := Int32.ofInt v4) rfl ?_
  refine zt_iload_n zy_221 (show q_ins q_k221 14 = some (.iload_n 2, 0, 0) from rfl) (v := Int32.ofInt v2) rfl ?_
  refine zt_iconst zy_221 (show q_ins q_k221 15 = some (.iconst 1, 0, 0) from rfl) ?_
  refine zt_iadd zy_221 (show q_ins q_k221 16 = some (.iadd, 0, 0) from rfl) ?_
  refine zt_aload_n zy_221 (show q_ins q_k221 17 = some (.aload_n 0, 0, 0) from rfl) (v := 163) rfl ?_
  refine zt_getR zy_221 (show q_ins q_k221 18 = some (.getfield 13, 11, 1) from rfl) (r := 164) zk_163_1 ?_
  refine zt_iconst zy_221 (show q_ins q_k221 21 = some (.iconst 0, 0, 0) from rfl) ?_
  refine zt_ald zy_221 (show q_ins q_k221 22 = some (.iaload, 0, 0) from rfl) za_164 (by decide) (by decide) ?_
  refine zt_imul zy_221 (show q_ins q_k221 23 = some (.imul, 0, 0) from rfl) ?_
  obtain ⟨hg, h⟩ := zt_ckE h
  refine zt_icmp_ge zy_221 (show q_ins q_k221 24 = some (.if_icmp .ge 27, 51, 0) from rfl) (⟨hg.1, hg.2⟩) (fun hc => ?_) (fun hc => ?_)
  · rw [if_pos hc] at h
    refine zt_iload_n zy_221 (show q_ins q_k221 27 = some (.iload_n 3, 0, 0) from rfl) (v := Int32.ofInt v3) rfl ?_
    refine zt_aload_n zy_221 (show q_ins q_k221 28 = some (.aload_n 0, 0, 0) from rfl) (v := 163) rfl ?_
    refine zt_iload zy_221 (show q_ins q_k221 29 = some (.iload 4, 0, 0) from rfl) (v := Int32.ofInt v4) rfl ?_
    obtain ⟨a1, s2, hca1, h⟩ := zt_bdE h
    refine zt_callV (d := 0) zy_221 (show q_ins q_k221 31 = some (.invokevirtual 275, 220, 1) from rfl) zy_220 (by decide) ⟨zq_lt (by decide), by decide⟩ rfl (by simp [Value.category]) (by simp [lg_sl, Value.category]) (zt_rcv zc_163) (zt_dm (by decide) (S_M_holderOf hca1)) ?_
    refine zt_iload_n zy_221 (show q_ins q_k221 34 = some (.iload_n 1, 0, 0) from rfl) (v := Int32.ofInt v1) rfl ?_
    obtain ⟨hg, h⟩ := zt_ckE h
    refine zt_icmp_ne zy_221 (show q_ins q_k221 35 = some (.if_icmp .ne 7, 42, 0) from rfl) (⟨hg.1, hg.2⟩) (fun hc => ?_) (fun hc => ?_)
    · rw [if_pos hc] at h
      refine zt_iconst zy_221 (show q_ins q_k221 38 = some (.iconst 1, 0, 0) from rfl) ?_
      refine zt_goto zy_221 (show q_ins q_k221 39 = some (.goto 4, 43, 0) from rfl) ?_
      exact zt_wk (zt_cov_cons rfl (zt_cov_cons rfl (zt_cov_cons rfl (zt_cov_cons rfl (zt_cov_nil))))) (S_M_suitOfPlayer_43  ih _ _ _ _ _ _ _ h)
    · rw [if_neg hc] at h
      refine zt_iconst zy_221 (show q_ins q_k221 42 = some (.iconst 0, 0, 0) from rfl) ?_
      exact zt_wk (zt_cov_cons rfl (zt_cov_cons rfl (zt_cov_cons rfl (zt_cov_cons rfl (zt_cov_nil))))) (S_M_suitOfPlayer_43  ih _ _ _ _ _ _ _ h)
  · rw [if_neg hc] at h
    refine zt_iload_n zy_221 (show q_ins q_k221 51 = some (.iload_n 3, 0, 0) from rfl) (v := Int32.ofInt v3) rfl ?_
    cases h
    exact zt_iret zy_221 (show q_ins q_k221 52 = some (.ireturn, 0, 0) from rfl)
theorem S_M_suitOfPlayer {X : q_X}   {v1 : Int} {v2 : Int} {σ : zt_S} {o : (Int × zt_S)} (h : F_M_suitOfPlayer  v1 v2 σ = some o) : zt_Ex X 1 221 0 (lv_args 0 [.ref 163, .int (Int32.ofInt v1), .int (Int32.ofInt v2)]) [] (zt_M σ) (zo_I o) := by
  unfold F_M_suitOfPlayer at h
  refine zt_iconst zy_221 (show q_ins q_k221 0 = some (.iconst 0, 0, 0) from rfl) ?_
  refine zt_istore_n zy_221 (show q_ins q_k221 1 = some (.istore_n 3, 0, 0) from rfl) (by decide) ?_
  refine zt_iload_n zy_221 (show q_ins q_k221 2 = some (.iload_n 2, 0, 0) from rfl) (v := Int32.ofInt v2) rfl ?_
  refine zt_aload_n zy_221 (show q_ins q_k221 3 = some (.aload_n 0, 0, 0) from rfl) (v := 163) rfl ?_
  refine zt_getR zy_221 (show q_ins q_k221 4 = some (.getfield 13, 11, 1) from rfl) (r := 164) zk_163_1 ?_
  refine zt_iconst zy_221 (show q_ins q_k221 7 = some (.iconst 0, 0, 0) from rfl) ?_
  refine zt_ald zy_221 (show q_ins q_k221 8 = some (.iaload, 0, 0) from rfl) za_164 (by decide) (by decide) ?_
  refine zt_imul zy_221 (show q_ins q_k221 9 = some (.imul, 0, 0) from rfl) ?_
  refine zt_istore zy_221 (show q_ins q_k221 10 = some (.istore 4, 0, 0) from rfl) (by decide) ?_
  exact zt_wk (zt_cov_cons rfl (zt_cov_cons rfl (zt_cov_cons rfl (zt_cov_cons rfl (zt_cov_cons rfl (zt_cov_nil)))))) (S_M_suitOfPlayer_12  _ _ _ _ _ _ _ h)
theorem S_M_hasBetter_42 {X : q_X}   {r9 : Int → Int → Int → zt_S → Option (Int × zt_S)} (hr9 : ∀ (v1 : Int) (v2 : Int) (v3 : Int) (σ : zt_S) (o : (Int × zt_S)), r9 v1 v2 v3 σ = some o → zt_Ex X 5 222 9 [(0, .ref 163), (1, .int (Int32.ofInt v1)), (2, .int (Int32.ofInt v2)), (3, .int (Int32.ofInt v3))] [] (zt_M σ) (zo_I o)) : ∀ (v1 : Int) (v2 : Int) (v3 : Int) (σ : zt_S) (o : (Int × zt_S)), F_M_hasBetter_42  r9 v1 v2 v3 σ = some o → zt_Ex X 5 222 42 [(0, .ref 163), (1, .int (Int32.ofInt v1)), (2, .int (Int32.ofInt v2)), (3, .int (Int32.ofInt v3))] [] (zt_M σ) (zo_I o) := by
  intro v1 v2 v3 σ o  h
  unfold F_M_hasBetter_42 at h
  refine zt_iinc zy_222 (show q_ins q_k222 42 = some (.iinc 3 1, 0, 0) from rfl) (v := v3) (by decide) rfl ?_
  refine zt_goto zy_222 (show q_ins q_k222 45 = some (.goto (-36), 9, 0) from rfl) ?_
  exact zt_wk (zt_cov_cons rfl (zt_cov_cons rfl (zt_cov_cons rfl (zt_cov_cons rfl (zt_cov_nil))))) (hr9 _ _ _ _ _ h)
theorem S_M_hasBetter_9 {X : q_X}   : ∀ (n : Nat) (v1 : Int) (v2 : Int) (v3 : Int) (σ : zt_S) (o : (Int × zt_S)), F_M_hasBetter_9  n v1 v2 v3 σ = some o → zt_Ex X 5 222 9 [(0, .ref 163), (1, .int (Int32.ofInt v1)), (2, .int (Int32.ofInt v2)), (3, .int (Int32.ofInt v3))] [] (zt_M σ) (zo_I o) := by
  intro n
  induction n with
  | zero => intro v1 v2 v3 σ o  h; cases h
  | succ n ih =>
  intro v1 v2 v3 σ o  h
  rw [F_M_hasBetter_9] at h
  refine zt_iload_n zy_222 (show q_ins q_k222 9 = some (.iload_n 3, 0, 0) from rfl) (v := Int32.ofInt v3) rfl ?_
  refine zt_iload_n zy_222 (show q_ins q_k222 10 = some (.iload_n 2, 0, 0) from rfl) (v := Int32.ofInt v2) rfl ?_
  refine zt_iconst zy_222 (show q_ins q_k222 11 = some (.iconst 1, 0, 0) from rfl) ?_
  refine zt_iadd zy_222 (show q_ins q_k222 12 = some (.iadd, 0, 0) from rfl) ?_
  refine zt_aload_n zy_222 (show q_ins q_k222 13 = some (.aload_n 0, 0, 0) from rfl) (v := 163) rfl ?_
  refine zt_getR zy_222 (show q_ins q_k222 14 = some (.getfield 13, 11, 1) from rfl) (r := 164) zk_163_1 ?_
  refine zt_iconst zy_222 (show q_ins q_k222 17 = some (.iconst 0, 0, 0) from rfl) ?_
  refine zt_ald zy_222 (show q_ins q_k222 18 = some (.iaload, 0, 0) from rfl) za_164 (by decide) (by decide) ?_
  refine zt_imul zy_222 (show q_ins q_k222 19 = some (.imul, 0, 0) from rfl) ?_
  obtain ⟨hg, h⟩ := zt_ckE h
  refine zt_icmp_ge zy_222 (show q_ins q_k222 20 = some (.if_icmp .ge 28, 48, 0) from rfl) (⟨hg.1, hg.2⟩) (fun hc => ?_) (fun hc => ?_)
  · rw [if_pos hc] at h
    refine zt_aload_n zy_222 (show q_ins q_k222 23 = some (.aload_n 0, 0, 0) from rfl) (v := 163) rfl ?_
    refine zt_iload_n zy_222 (show q_ins q_k222 24 = some (.iload_n 3, 0, 0) from rfl) (v := Int32.ofInt v3) rfl ?_
    obtain ⟨a1, s2, hca1, h⟩ := zt_bdE h
    refine zt_callV (d := 4) zy_222 (show q_ins q_k222 25 = some (.invokevirtual 275, 220, 1) from rfl) zy_220 (by decide) ⟨zq_lt (by decide), by decide⟩ rfl (by simp [Value.category]) (by simp [lg_sl, Value.category]) (zt_rcv zc_163) (zt_dm (by decide) (S_M_holderOf hca1)) ?_
    refine zt_iload_n zy_222 (show q_ins q_k222 28 = some (.iload_n 1, 0, 0) from rfl) (v := Int32.ofInt v1) rfl ?_
    obtain ⟨hg, h⟩ := zt_ckE h
    refine zt_icmp_ne zy_222 (show q_ins q_k222 29 = some (.if_icmp .ne 13, 42, 0) from rfl) (⟨hg.1, hg.2⟩) (fun hc => ?_) (fun hc => ?_)
    · rw [if_pos hc] at h
      refine zt_aload_n zy_222 (show q_ins q_k222 32 = some (.aload_n 0, 0, 0) from rfl) (v := 163) rfl ?_
      refine zt_iload_n zy_222 (show q_ins q_k222 33 = some (.iload_n 3, 0, 0) from rfl) (v := Int32.ofInt v3) rfl ?_
      obtain ⟨a3, s4, hca3, h⟩ := zt_bdE h
      refine zt_callV (d := 4) zy_222 (show q_ins q_k222 34 = some (.invokevirtual 278, 219, 1) from rfl) zy_219 (by decide) ⟨zq_lt (by decide), by decide⟩ rfl (by simp [Value.category]) (by simp [lg_sl, Value.category]) (zt_rcv zc_163) (zt_dm (by decide) (S_M_isBetter hca3)) ?_
      obtain ⟨hg, h⟩ := zt_ckE h
      refine zt_if_eq zy_222 (show q_ins q_k222 37 = some (.ifCond .eq 5, 42, 0) from rfl) (hg) (fun hc => ?_) (fun hc => ?_)
      · rw [if_pos hc] at h
        exact zt_wk (zt_cov_cons rfl (zt_cov_cons rfl (zt_cov_cons rfl (zt_cov_cons rfl (zt_cov_nil))))) (S_M_hasBetter_42  ih _ _ _ _ _ h)
      · rw [if_neg hc] at h
        refine zt_iconst zy_222 (show q_ins q_k222 40 = some (.iconst 1, 0, 0) from rfl) ?_
        cases h
        exact zt_zret zy_222 (show q_ins q_k222 41 = some (.ireturn, 0, 0) from rfl) (by decide)
    · rw [if_neg hc] at h
      exact zt_wk (zt_cov_cons rfl (zt_cov_cons rfl (zt_cov_cons rfl (zt_cov_cons rfl (zt_cov_nil))))) (S_M_hasBetter_42  ih _ _ _ _ _ h)
  · rw [if_neg hc] at h
    refine zt_iconst zy_222 (show q_ins q_k222 48 = some (.iconst 0, 0, 0) from rfl) ?_
    cases h
    exact zt_zret zy_222 (show q_ins q_k222 49 = some (.ireturn, 0, 0) from rfl) (by decide)
theorem S_M_hasBetter {X : q_X}   {v1 : Int} {v2 : Int} {σ : zt_S} {o : (Int × zt_S)} (h : F_M_hasBetter  v1 v2 σ = some o) : zt_Ex X 5 222 0 (lv_args 0 [.ref 163, .int (Int32.ofInt v1), .int (Int32.ofInt v2)]) [] (zt_M σ) (zo_I o) := by
  unfold F_M_hasBetter at h
  refine zt_iload_n zy_222 (show q_ins q_k222 0 = some (.iload_n 2, 0, 0) from rfl) (v := Int32.ofInt v2) rfl ?_
  refine zt_aload_n zy_222 (show q_ins q_k222 1 = some (.aload_n 0, 0, 0) from rfl) (v := 163) rfl ?_
  refine zt_getR zy_222 (show q_ins q_k222 2 = some (.getfield 13, 11, 1) from rfl) (r := 164) zk_163_1 ?_
  refine zt_iconst zy_222 (show q_ins q_k222 5 = some (.iconst 0, 0, 0) from rfl) ?_
  refine zt_ald zy_222 (show q_ins q_k222 6 = some (.iaload, 0, 0) from rfl) za_164 (by decide) (by decide) ?_
  refine zt_imul zy_222 (show q_ins q_k222 7 = some (.imul, 0, 0) from rfl) ?_
  refine zt_istore_n zy_222 (show q_ins q_k222 8 = some (.istore_n 3, 0, 0) from rfl) (by decide) ?_
  exact zt_wk (zt_cov_cons rfl (zt_cov_cons rfl (zt_cov_cons rfl (zt_cov_cons rfl (zt_cov_nil))))) (S_M_hasBetter_9  _ _ _ _ _ _ h)
theorem S_M_mayPlay_16 {X : q_X}   : ∀  (σ : zt_S) (o : (Int × zt_S)), F_M_mayPlay_16   σ = some o → zt_Ex X 6 223 16 [] [] (zt_M σ) (zo_I o) := by
  intro  σ o  h
  unfold F_M_mayPlay_16 at h
  refine zt_iconst zy_223 (show q_ins q_k223 16 = some (.iconst 1, 0, 0) from rfl) ?_
  cases h
  exact zt_zret zy_223 (show q_ins q_k223 17 = some (.ireturn, 0, 0) from rfl) (by decide)
theorem S_M_mayPlay_73 {X : q_X}   : ∀ (x0 : Int) (σ : zt_S) (o : (Int × zt_S)), F_M_mayPlay_73  x0 σ = some o → zt_Ex X 6 223 73 [] [.int (Int32.ofInt x0)] (zt_M σ) (zo_I o) := by
  intro x0 σ o  h
  unfold F_M_mayPlay_73 at h
  obtain ⟨hg, h⟩ := zt_ckE h
  cases h
  exact zt_zret zy_223 (show q_ins q_k223 73 = some (.ireturn, 0, 0) from rfl) hg
theorem S_M_mayPlay_68 {X : q_X}   : ∀  (σ : zt_S) (o : (Int × zt_S)), F_M_mayPlay_68   σ = some o → zt_Ex X 6 223 68 [] [] (zt_M σ) (zo_I o) := by
  intro  σ o  h
  unfold F_M_mayPlay_68 at h
  refine zt_iconst zy_223 (show q_ins q_k223 68 = some (.iconst 1, 0, 0) from rfl) ?_
  refine zt_goto zy_223 (show q_ins q_k223 69 = some (.goto 4, 73, 0) from rfl) ?_
  exact zt_wk (zt_cov_nil) (S_M_mayPlay_73  _ _ _ h)
theorem S_M_mayPlay_72 {X : q_X}   : ∀  (σ : zt_S) (o : (Int × zt_S)), F_M_mayPlay_72   σ = some o → zt_Ex X 6 223 72 [] [] (zt_M σ) (zo_I o) := by
  intro  σ o  h
  unfold F_M_mayPlay_72 at h
  refine zt_iconst zy_223 (show q_ins q_k223 72 = some (.iconst 0, 0, 0) from rfl) ?_
  exact zt_wk (zt_cov_nil) (S_M_mayPlay_73  _ _ _ h)
theorem S_M_mayPlay_142 {X : q_X}   : ∀ (x0 : Int) (σ : zt_S) (o : (Int × zt_S)), F_M_mayPlay_142  x0 σ = some o → zt_Ex X 6 223 142 [] [.int (Int32.ofInt x0)] (zt_M σ) (zo_I o) := by
  intro x0 σ o  h
  unfold F_M_mayPlay_142 at h
  obtain ⟨hg, h⟩ := zt_ckE h
  cases h
  exact zt_zret zy_223 (show q_ins q_k223 142 = some (.ireturn, 0, 0) from rfl) hg
theorem S_M_mayPlay_137 {X : q_X}   : ∀  (σ : zt_S) (o : (Int × zt_S)), F_M_mayPlay_137   σ = some o → zt_Ex X 6 223 137 [] [] (zt_M σ) (zo_I o) := by
  intro  σ o  h
  unfold F_M_mayPlay_137 at h
  refine zt_iconst zy_223 (show q_ins q_k223 137 = some (.iconst 1, 0, 0) from rfl) ?_
  refine zt_goto zy_223 (show q_ins q_k223 138 = some (.goto 4, 142, 0) from rfl) ?_
  exact zt_wk (zt_cov_nil) (S_M_mayPlay_142  _ _ _ h)
theorem S_M_mayPlay_115 {X : q_X}   : ∀ (v2 : Int) (x0 : Int) (σ : zt_S) (o : (Int × zt_S)), F_M_mayPlay_115  v2 x0 σ = some o → zt_Ex X 6 223 115 [(0, .ref 163), (2, .int (Int32.ofInt v2))] [.int (Int32.ofInt x0)] (zt_M σ) (zo_I o) := by
  intro v2 x0 σ o  h
  unfold F_M_mayPlay_115 at h
  refine zt_istore zy_223 (show q_ins q_k223 115 = some (.istore 4, 0, 0) from rfl) (by decide) ?_
  refine zt_iload zy_223 (show q_ins q_k223 117 = some (.iload 4, 0, 0) from rfl) (v := Int32.ofInt x0) rfl ?_
  obtain ⟨hg, h⟩ := zt_ckE h
  refine zt_if_eq zy_223 (show q_ins q_k223 119 = some (.ifCond .eq 18, 137, 0) from rfl) (hg) (fun hc => ?_) (fun hc => ?_)
  · rw [if_pos hc] at h
    exact zt_wk (zt_cov_nil) (S_M_mayPlay_137  _ _ h)
  · rw [if_neg hc] at h
    refine zt_aload_n zy_223 (show q_ins q_k223 122 = some (.aload_n 0, 0, 0) from rfl) (v := 163) rfl ?_
    refine zt_iload_n zy_223 (show q_ins q_k223 123 = some (.iload_n 2, 0, 0) from rfl) (v := Int32.ofInt v2) rfl ?_
    obtain ⟨a13, s14, hca13, h⟩ := zt_bdE h
    refine zt_callV (d := 5) zy_223 (show q_ins q_k223 124 = some (.invokevirtual 257, 209, 1) from rfl) zy_209 (by decide) ⟨zq_lt (by decide), by decide⟩ rfl (by simp [Value.category]) (by simp [lg_sl, Value.category]) (zt_rcv zc_163) (zt_dm (by decide) (S_M_suitOf hca13)) ?_
    refine zt_aload_n zy_223 (show q_ins q_k223 127 = some (.aload_n 0, 0, 0) from rfl) (v := 163) rfl ?_
    refine zt_getR zy_223 (show q_ins q_k223 128 = some (.getfield 13, 11, 1) from rfl) (r := 164) zk_163_1 ?_
    refine zt_bipush zy_223 (show q_ins q_k223 131 = some (.bipush 10, 0, 0) from rfl) (by decide) ?_
    refine zt_ald zy_223 (show q_ins q_k223 133 = some (.iaload, 0, 0) from rfl) za_164 (by decide) (by decide) ?_
    obtain ⟨hg, h⟩ := zt_ckE h
    refine zt_icmp_ne zy_223 (show q_ins q_k223 134 = some (.if_icmp .ne 7, 141, 0) from rfl) (⟨hg.1, hg.2⟩) (fun hc => ?_) (fun hc => ?_)
    · rw [if_pos hc] at h
      exact zt_wk (zt_cov_nil) (S_M_mayPlay_137  _ _ h)
    · rw [if_neg hc] at h
      refine zt_iconst zy_223 (show q_ins q_k223 141 = some (.iconst 0, 0, 0) from rfl) ?_
      exact zt_wk (zt_cov_nil) (S_M_mayPlay_142  _ _ _ h)
theorem S_M_mayPlay_114 {X : q_X}   : ∀ (v2 : Int) (σ : zt_S) (o : (Int × zt_S)), F_M_mayPlay_114  v2 σ = some o → zt_Ex X 6 223 114 [(0, .ref 163), (2, .int (Int32.ofInt v2))] [] (zt_M σ) (zo_I o) := by
  intro v2 σ o  h
  unfold F_M_mayPlay_114 at h
  refine zt_iconst zy_223 (show q_ins q_k223 114 = some (.iconst 0, 0, 0) from rfl) ?_
  exact zt_wk (zt_cov_cons rfl (zt_cov_cons rfl (zt_cov_nil))) (S_M_mayPlay_115  _ _ _ _ h)
theorem S_M_mayPlay {X : q_X}   {v1 : Int} {v2 : Int} {σ : zt_S} {o : (Int × zt_S)} (h : F_M_mayPlay  v1 v2 σ = some o) : zt_Ex X 6 223 0 (lv_args 0 [.ref 163, .int (Int32.ofInt v1), .int (Int32.ofInt v2)]) [] (zt_M σ) (zo_I o) := by
  unfold F_M_mayPlay at h
  refine zt_aload_n zy_223 (show q_ins q_k223 0 = some (.aload_n 0, 0, 0) from rfl) (v := 163) rfl ?_
  refine zt_getR zy_223 (show q_ins q_k223 1 = some (.getfield 13, 11, 1) from rfl) (r := 164) zk_163_1 ?_
  refine zt_iconst zy_223 (show q_ins q_k223 4 = some (.iconst 3, 0, 0) from rfl) ?_
  refine zt_ald zy_223 (show q_ins q_k223 5 = some (.iaload, 0, 0) from rfl) za_164 (by decide) (by decide) ?_
  obtain ⟨hg, h⟩ := zt_ckE h
  refine zt_if_eq zy_223 (show q_ins q_k223 6 = some (.ifCond .eq 10, 16, 0) from rfl) (hg) (fun hc => ?_) (fun hc => ?_)
  · rw [if_pos hc] at h
    exact zt_wk (zt_cov_nil) (S_M_mayPlay_16  _ _ h)
  · rw [if_neg hc] at h
    refine zt_aload_n zy_223 (show q_ins q_k223 9 = some (.aload_n 0, 0, 0) from rfl) (v := 163) rfl ?_
    obtain ⟨a1, s2, hca1, h⟩ := zt_bdE h
    refine zt_callV (d := 5) zy_223 (show q_ins q_k223 10 = some (.invokevirtual 251, 212, 0) from rfl) zy_212 (by decide) ⟨zq_lt (by decide), by decide⟩ rfl (by simp [Value.category]) (by simp [lg_sl, Value.category]) (zt_rcv zc_163) (zt_dm (by decide) (S_M_inTrick hca1)) ?_
    obtain ⟨hg, h⟩ := zt_ckE h
    refine zt_if_ne zy_223 (show q_ins q_k223 13 = some (.ifCond .ne 5, 18, 0) from rfl) (hg) (fun hc => ?_) (fun hc => ?_)
    · rw [if_pos hc] at h
      exact zt_wk (zt_cov_nil) (S_M_mayPlay_16  _ _ h)
    · rw [if_neg hc] at h
      refine zt_aload_n zy_223 (show q_ins q_k223 18 = some (.aload_n 0, 0, 0) from rfl) (v := 163) rfl ?_
      obtain ⟨a3, s4, hca3, h⟩ := zt_bdE h
      refine zt_callV (d := 5) zy_223 (show q_ins q_k223 19 = some (.invokevirtual 263, 215, 0) from rfl) zy_215 (by decide) ⟨zq_lt (by decide), by decide⟩ rfl (by simp [Value.category]) (by simp [lg_sl, Value.category]) (zt_rcv zc_163) (zt_dm (by decide) (S_M_ledSuit hca3)) ?_
      refine zt_istore_n zy_223 (show q_ins q_k223 22 = some (.istore_n 3, 0, 0) from rfl) (by decide) ?_
      refine zt_aload_n zy_223 (show q_ins q_k223 23 = some (.aload_n 0, 0, 0) from rfl) (v := 163) rfl ?_
      refine zt_iload_n zy_223 (show q_ins q_k223 24 = some (.iload_n 1, 0, 0) from rfl) (v := Int32.ofInt v1) rfl ?_
      refine zt_iload_n zy_223 (show q_ins q_k223 25 = some (.iload_n 3, 0, 0) from rfl) (v := Int32.ofInt a3) rfl ?_
      obtain ⟨a5, s6, hca5, h⟩ := zt_bdE h
      refine zt_callV (d := 5) zy_223 (show q_ins q_k223 26 = some (.invokevirtual 281, 221, 2) from rfl) zy_221 (by decide) ⟨zq_lt (by decide), by decide⟩ rfl (by simp [Value.category]) (by simp [lg_sl, Value.category]) (zt_rcv zc_163) (zt_dm (by decide) (S_M_suitOfPlayer hca5)) ?_
      obtain ⟨hg, h⟩ := zt_ckE h
      refine zt_if_le zy_223 (show q_ins q_k223 29 = some (.ifCond .le 45, 74, 0) from rfl) (hg) (fun hc => ?_) (fun hc => ?_)
      · rw [if_pos hc] at h
        refine zt_aload_n zy_223 (show q_ins q_k223 32 = some (.aload_n 0, 0, 0) from rfl) (v := 163) rfl ?_
        refine zt_iload_n zy_223 (show q_ins q_k223 33 = some (.iload_n 2, 0, 0) from rfl) (v := Int32.ofInt v2) rfl ?_
        obtain ⟨a7, s8, hca7, h⟩ := zt_bdE h
        refine zt_callV (d := 5) zy_223 (show q_ins q_k223 34 = some (.invokevirtual 257, 209, 1) from rfl) zy_209 (by decide) ⟨zq_lt (by decide), by decide⟩ rfl (by simp [Value.category]) (by simp [lg_sl, Value.category]) (zt_rcv zc_163) (zt_dm (by decide) (S_M_suitOf hca7)) ?_
        refine zt_iload_n zy_223 (show q_ins q_k223 37 = some (.iload_n 3, 0, 0) from rfl) (v := Int32.ofInt a3) rfl ?_
        obtain ⟨hg, h⟩ := zt_ckE h
        refine zt_icmp_ne zy_223 (show q_ins q_k223 38 = some (.if_icmp .ne 34, 72, 0) from rfl) (⟨hg.1, hg.2⟩) (fun hc => ?_) (fun hc => ?_)
        · rw [if_pos hc] at h
          refine zt_aload_n zy_223 (show q_ins q_k223 41 = some (.aload_n 0, 0, 0) from rfl) (v := 163) rfl ?_
          refine zt_getR zy_223 (show q_ins q_k223 42 = some (.getfield 13, 11, 1) from rfl) (r := 164) zk_163_1 ?_
          refine zt_iconst zy_223 (show q_ins q_k223 45 = some (.iconst 3, 0, 0) from rfl) ?_
          refine zt_ald zy_223 (show q_ins q_k223 46 = some (.iaload, 0, 0) from rfl) za_164 (by decide) (by decide) ?_
          refine zt_iconst zy_223 (show q_ins q_k223 47 = some (.iconst 2, 0, 0) from rfl) ?_
          obtain ⟨hg, h⟩ := zt_ckE h
          refine zt_icmp_ne zy_223 (show q_ins q_k223 48 = some (.if_icmp .ne 20, 68, 0) from rfl) (⟨hg, by decide⟩) (fun hc => ?_) (fun hc => ?_)
          · rw [if_pos hc] at h
            refine zt_aload_n zy_223 (show q_ins q_k223 51 = some (.aload_n 0, 0, 0) from rfl) (v := 163) rfl ?_
            refine zt_iload_n zy_223 (show q_ins q_k223 52 = some (.iload_n 2, 0, 0) from rfl) (v := Int32.ofInt v2) rfl ?_
            obtain ⟨a9, s10, hca9, h⟩ := zt_bdE h
            refine zt_callV (d := 5) zy_223 (show q_ins q_k223 53 = some (.invokevirtual 278, 219, 1) from rfl) zy_219 (by decide) ⟨zq_lt (by decide), by decide⟩ rfl (by simp [Value.category]) (by simp [lg_sl, Value.category]) (zt_rcv zc_163) (zt_dm (by decide) (S_M_isBetter hca9)) ?_
            obtain ⟨hg, h⟩ := zt_ckE h
            refine zt_if_ne zy_223 (show q_ins q_k223 56 = some (.ifCond .ne 12, 68, 0) from rfl) (hg) (fun hc => ?_) (fun hc => ?_)
            · rw [if_pos hc] at h
              refine zt_aload_n zy_223 (show q_ins q_k223 59 = some (.aload_n 0, 0, 0) from rfl) (v := 163) rfl ?_
              refine zt_iload_n zy_223 (show q_ins q_k223 60 = some (.iload_n 1, 0, 0) from rfl) (v := Int32.ofInt v1) rfl ?_
              refine zt_iload_n zy_223 (show q_ins q_k223 61 = some (.iload_n 3, 0, 0) from rfl) (v := Int32.ofInt a3) rfl ?_
              obtain ⟨a11, s12, hca11, h⟩ := zt_bdE h
              refine zt_callV (d := 5) zy_223 (show q_ins q_k223 62 = some (.invokevirtual 284, 222, 2) from rfl) zy_222 (by decide) ⟨zq_lt (by decide), by decide⟩ rfl (by simp [Value.category]) (by simp [lg_sl, Value.category]) (zt_rcv zc_163) (zt_dm (by decide) (S_M_hasBetter hca11)) ?_
              obtain ⟨hg, h⟩ := zt_ckE h
              refine zt_if_ne zy_223 (show q_ins q_k223 65 = some (.ifCond .ne 7, 72, 0) from rfl) (hg) (fun hc => ?_) (fun hc => ?_)
              · rw [if_pos hc] at h
                exact zt_wk (zt_cov_nil) (S_M_mayPlay_68  _ _ h)
              · rw [if_neg hc] at h
                exact zt_wk (zt_cov_nil) (S_M_mayPlay_72  _ _ h)
            · rw [if_neg hc] at h
              exact zt_wk (zt_cov_nil) (S_M_mayPlay_68  _ _ h)
          · rw [if_neg hc] at h
            exact zt_wk (zt_cov_nil) (S_M_mayPlay_68  _ _ h)
        · rw [if_neg hc] at h
          exact zt_wk (zt_cov_nil) (S_M_mayPlay_72  _ _ h)
      · rw [if_neg hc] at h
        refine zt_aload_n zy_223 (show q_ins q_k223 74 = some (.aload_n 0, 0, 0) from rfl) (v := 163) rfl ?_
        refine zt_getR zy_223 (show q_ins q_k223 75 = some (.getfield 13, 11, 1) from rfl) (r := 164) zk_163_1 ?_
        refine zt_iconst zy_223 (show q_ins q_k223 78 = some (.iconst 3, 0, 0) from rfl) ?_
        refine zt_ald zy_223 (show q_ins q_k223 79 = some (.iaload, 0, 0) from rfl) za_164 (by decide) (by decide) ?_
        refine zt_iconst zy_223 (show q_ins q_k223 80 = some (.iconst 3, 0, 0) from rfl) ?_
        obtain ⟨hg, h⟩ := zt_ckE h
        refine zt_icmp_ne zy_223 (show q_ins q_k223 81 = some (.if_icmp .ne 33, 114, 0) from rfl) (⟨hg, by decide⟩) (fun hc => ?_) (fun hc => ?_)
        · rw [if_pos hc] at h
          refine zt_aload_n zy_223 (show q_ins q_k223 84 = some (.aload_n 0, 0, 0) from rfl) (v := 163) rfl ?_
          refine zt_getR zy_223 (show q_ins q_k223 85 = some (.getfield 13, 11, 1) from rfl) (r := 164) zk_163_1 ?_
          refine zt_bipush zy_223 (show q_ins q_k223 88 = some (.bipush 10, 0, 0) from rfl) (by decide) ?_
          refine zt_ald zy_223 (show q_ins q_k223 90 = some (.iaload, 0, 0) from rfl) za_164 (by decide) (by decide) ?_
          refine zt_iconst zy_223 (show q_ins q_k223 91 = some (.iconst (-1), 0, 0) from rfl) ?_
          obtain ⟨hg, h⟩ := zt_ckE h
          refine zt_icmp_eq zy_223 (show q_ins q_k223 92 = some (.if_icmp .eq 22, 114, 0) from rfl) (⟨hg, by decide⟩) (fun hc => ?_) (fun hc => ?_)
          · rw [if_pos hc] at h
            exact zt_wk (zt_cov_cons rfl (zt_cov_cons rfl (zt_cov_nil))) (S_M_mayPlay_114  _ _ _ h)
          · rw [if_neg hc] at h
            refine zt_aload_n zy_223 (show q_ins q_k223 95 = some (.aload_n 0, 0, 0) from rfl) (v := 163) rfl ?_
            refine zt_iload_n zy_223 (show q_ins q_k223 96 = some (.iload_n 1, 0, 0) from rfl) (v := Int32.ofInt v1) rfl ?_
            refine zt_aload_n zy_223 (show q_ins q_k223 97 = some (.aload_n 0, 0, 0) from rfl) (v := 163) rfl ?_
            refine zt_getR zy_223 (show q_ins q_k223 98 = some (.getfield 13, 11, 1) from rfl) (r := 164) zk_163_1 ?_
            refine zt_bipush zy_223 (show q_ins q_k223 101 = some (.bipush 10, 0, 0) from rfl) (by decide) ?_
            refine zt_ald zy_223 (show q_ins q_k223 103 = some (.iaload, 0, 0) from rfl) za_164 (by decide) (by decide) ?_
            obtain ⟨a15, s16, hca15, h⟩ := zt_bdE h
            refine zt_callV (d := 5) zy_223 (show q_ins q_k223 104 = some (.invokevirtual 281, 221, 2) from rfl) zy_221 (by decide) ⟨zq_lt (by decide), by decide⟩ rfl (by simp [Value.category]) (by simp [lg_sl, Value.category]) (zt_rcv zc_163) (zt_dm (by decide) (S_M_suitOfPlayer hca15)) ?_
            obtain ⟨hg, h⟩ := zt_ckE h
            refine zt_if_le zy_223 (show q_ins q_k223 107 = some (.ifCond .le 7, 114, 0) from rfl) (hg) (fun hc => ?_) (fun hc => ?_)
            · rw [if_pos hc] at h
              refine zt_iconst zy_223 (show q_ins q_k223 110 = some (.iconst 1, 0, 0) from rfl) ?_
              refine zt_goto zy_223 (show q_ins q_k223 111 = some (.goto 4, 115, 0) from rfl) ?_
              exact zt_wk (zt_cov_cons rfl (zt_cov_cons rfl (zt_cov_nil))) (S_M_mayPlay_115  _ _ _ _ h)
            · rw [if_neg hc] at h
              exact zt_wk (zt_cov_cons rfl (zt_cov_cons rfl (zt_cov_nil))) (S_M_mayPlay_114  _ _ _ h)
        · rw [if_neg hc] at h
          exact zt_wk (zt_cov_cons rfl (zt_cov_cons rfl (zt_cov_nil))) (S_M_mayPlay_114  _ _ _ h)
theorem S_M_isLegalNow_33 {X : q_X}   : ∀ (x0 : Int) (σ : zt_S) (o : (Int × zt_S)), F_M_isLegalNow_33  x0 σ = some o → zt_Ex X 7 224 33 [] [.int (Int32.ofInt x0)] (zt_M σ) (zo_I o) := by
  intro x0 σ o  h
  unfold F_M_isLegalNow_33 at h
  obtain ⟨hg, h⟩ := zt_ckE h
  cases h
  exact zt_zret zy_224 (show q_ins q_k224 33 = some (.ireturn, 0, 0) from rfl) hg
theorem S_M_isLegalNow_32 {X : q_X}   : ∀  (σ : zt_S) (o : (Int × zt_S)), F_M_isLegalNow_32   σ = some o → zt_Ex X 7 224 32 [] [] (zt_M σ) (zo_I o) := by
  intro  σ o  h
  unfold F_M_isLegalNow_32 at h
  refine zt_iconst zy_224 (show q_ins q_k224 32 = some (.iconst 0, 0, 0) from rfl) ?_
  exact zt_wk (zt_cov_nil) (S_M_isLegalNow_33  _ _ _ h)
theorem S_M_isLegalNow {X : q_X}   {v1 : Int} {σ : zt_S} {o : (Int × zt_S)} (h : F_M_isLegalNow  v1 σ = some o) : zt_Ex X 7 224 0 (lv_args 0 [.ref 163, .int (Int32.ofInt v1)]) [] (zt_M σ) (zo_I o) := by
  unfold F_M_isLegalNow at h
  refine zt_aload_n zy_224 (show q_ins q_k224 0 = some (.aload_n 0, 0, 0) from rfl) (v := 163) rfl ?_
  obtain ⟨a1, s2, hca1, h⟩ := zt_bdE h
  refine zt_callV (d := 6) zy_224 (show q_ins q_k224 1 = some (.invokevirtual 288, 214, 0) from rfl) zy_214 (by decide) ⟨zq_lt (by decide), by decide⟩ rfl (by simp [Value.category]) (by simp [lg_sl, Value.category]) (zt_rcv zc_163) (zt_dm (by decide) (S_M_turn hca1)) ?_
  refine zt_istore_n zy_224 (show q_ins q_k224 4 = some (.istore_n 2, 0, 0) from rfl) (by decide) ?_
  refine zt_iload_n zy_224 (show q_ins q_k224 5 = some (.iload_n 2, 0, 0) from rfl) (v := Int32.ofInt a1) rfl ?_
  refine zt_iconst zy_224 (show q_ins q_k224 6 = some (.iconst (-1), 0, 0) from rfl) ?_
  obtain ⟨hg, h⟩ := zt_ckE h
  refine zt_icmp_eq zy_224 (show q_ins q_k224 7 = some (.if_icmp .eq 25, 32, 0) from rfl) (⟨hg, by decide⟩) (fun hc => ?_) (fun hc => ?_)
  · rw [if_pos hc] at h
    exact zt_wk (zt_cov_nil) (S_M_isLegalNow_32  _ _ h)
  · rw [if_neg hc] at h
    refine zt_aload_n zy_224 (show q_ins q_k224 10 = some (.aload_n 0, 0, 0) from rfl) (v := 163) rfl ?_
    refine zt_iload_n zy_224 (show q_ins q_k224 11 = some (.iload_n 1, 0, 0) from rfl) (v := Int32.ofInt v1) rfl ?_
    obtain ⟨a3, s4, hca3, h⟩ := zt_bdE h
    refine zt_callV (d := 6) zy_224 (show q_ins q_k224 12 = some (.invokevirtual 275, 220, 1) from rfl) zy_220 (by decide) ⟨zq_lt (by decide), by decide⟩ rfl (by simp [Value.category]) (by simp [lg_sl, Value.category]) (zt_rcv zc_163) (zt_dm (by decide) (S_M_holderOf hca3)) ?_
    refine zt_iload_n zy_224 (show q_ins q_k224 15 = some (.iload_n 2, 0, 0) from rfl) (v := Int32.ofInt a1) rfl ?_
    obtain ⟨hg, h⟩ := zt_ckE h
    refine zt_icmp_ne zy_224 (show q_ins q_k224 16 = some (.if_icmp .ne 16, 32, 0) from rfl) (⟨hg.1, hg.2⟩) (fun hc => ?_) (fun hc => ?_)
    · rw [if_pos hc] at h
      refine zt_aload_n zy_224 (show q_ins q_k224 19 = some (.aload_n 0, 0, 0) from rfl) (v := 163) rfl ?_
      refine zt_iload_n zy_224 (show q_ins q_k224 20 = some (.iload_n 2, 0, 0) from rfl) (v := Int32.ofInt a1) rfl ?_
      refine zt_iload_n zy_224 (show q_ins q_k224 21 = some (.iload_n 1, 0, 0) from rfl) (v := Int32.ofInt v1) rfl ?_
      obtain ⟨a5, s6, hca5, h⟩ := zt_bdE h
      refine zt_callV (d := 6) zy_224 (show q_ins q_k224 22 = some (.invokevirtual 291, 223, 2) from rfl) zy_223 (by decide) ⟨zq_lt (by decide), by decide⟩ rfl (by simp [Value.category]) (by simp [lg_sl, Value.category]) (zt_rcv zc_163) (zt_dm (by decide) (S_M_mayPlay hca5)) ?_
      obtain ⟨hg, h⟩ := zt_ckE h
      refine zt_if_eq zy_224 (show q_ins q_k224 25 = some (.ifCond .eq 7, 32, 0) from rfl) (hg) (fun hc => ?_) (fun hc => ?_)
      · rw [if_pos hc] at h
        exact zt_wk (zt_cov_nil) (S_M_isLegalNow_32  _ _ h)
      · rw [if_neg hc] at h
        refine zt_iconst zy_224 (show q_ins q_k224 28 = some (.iconst 1, 0, 0) from rfl) ?_
        refine zt_goto zy_224 (show q_ins q_k224 29 = some (.goto 4, 33, 0) from rfl) ?_
        exact zt_wk (zt_cov_nil) (S_M_isLegalNow_33  _ _ _ h)
    · rw [if_neg hc] at h
      exact zt_wk (zt_cov_nil) (S_M_isLegalNow_32  _ _ h)
theorem S_M_trickCell {X : q_X}   {v1 : Int} {v2 : Int} {σ : zt_S} {o : (Int × zt_S)} (h : F_M_trickCell  v1 v2 σ = some o) : zt_Ex X 0 225 0 (lv_args 0 [.ref 163, .int (Int32.ofInt v1), .int (Int32.ofInt v2)]) [] (zt_M σ) (zo_I o) := by
  unfold F_M_trickCell at h
  refine zt_sipush zy_225 (show q_ins q_k225 0 = some (.sipush 196, 0, 0) from rfl) (by decide) ?_
  refine zt_bipush zy_225 (show q_ins q_k225 3 = some (.bipush 6, 0, 0) from rfl) (by decide) ?_
  refine zt_iload_n zy_225 (show q_ins q_k225 5 = some (.iload_n 1, 0, 0) from rfl) (v := Int32.ofInt v1) rfl ?_
  refine zt_imul zy_225 (show q_ins q_k225 6 = some (.imul, 0, 0) from rfl) ?_
  refine zt_iadd zy_225 (show q_ins q_k225 7 = some (.iadd, 0, 0) from rfl) ?_
  refine zt_iload_n zy_225 (show q_ins q_k225 8 = some (.iload_n 2, 0, 0) from rfl) (v := Int32.ofInt v2) rfl ?_
  refine zt_iadd zy_225 (show q_ins q_k225 9 = some (.iadd, 0, 0) from rfl) ?_
  cases h
  exact zt_iret zy_225 (show q_ins q_k225 10 = some (.ireturn, 0, 0) from rfl)
theorem S_M_fades_42 {X : q_X}   : ∀  (σ : zt_S) (o : (Unit × zt_S)), F_M_fades_42   σ = some o → zt_Ex X 1 226 42 [] [] (zt_M σ) (zo_V o) := by
  intro  σ o  h
  unfold F_M_fades_42 at h
  cases h
  exact zt_ret zy_226 (show q_ins q_k226 42 = some (.return_, 0, 0) from rfl)
theorem S_M_fades_93 {X : q_X}   : ∀ (x0 : Int) (x1 : Int) (σ : zt_S) (o : (Unit × zt_S)), F_M_fades_93  x0 x1 σ = some o → zt_Ex X 1 226 93 [] [.int (Int32.ofInt x0), .int (Int32.ofInt x1), .ref 164] (zt_M σ) (zo_V o) := by
  intro x0 x1 σ o  h
  unfold F_M_fades_93 at h
  obtain ⟨hg, h⟩ := zt_ckE h
  obtain ⟨s5, hs5, h⟩ := zt_letE h
  refine zt_ast zy_226 (show q_ins q_k226 93 = some (.iastore, 0, 0) from rfl) za_164 (by decide) hg ?_
  rw [← hs5]
  cases h
  exact zt_ret zy_226 (show q_ins q_k226 94 = some (.return_, 0, 0) from rfl)
theorem S_M_fades_65 {X : q_X}   : ∀ (x0 : Int) (x1 : Int) (σ : zt_S) (o : (Unit × zt_S)), F_M_fades_65  x0 x1 σ = some o → zt_Ex X 1 226 65 [(0, .ref 163)] [.int (Int32.ofInt x0), .int (Int32.ofInt x1), .ref 164] (zt_M σ) (zo_V o) := by
  intro x0 x1 σ o  h
  unfold F_M_fades_65 at h
  obtain ⟨hg, h⟩ := zt_ckE h
  obtain ⟨s4, hs4, h⟩ := zt_letE h
  refine zt_ast zy_226 (show q_ins q_k226 65 = some (.iastore, 0, 0) from rfl) za_164 (by decide) hg ?_
  rw [← hs4]
  refine zt_aload_n zy_226 (show q_ins q_k226 66 = some (.aload_n 0, 0, 0) from rfl) (v := 163) rfl ?_
  refine zt_getR zy_226 (show q_ins q_k226 67 = some (.getfield 13, 11, 1) from rfl) (r := 164) zk_163_1 ?_
  refine zt_bipush zy_226 (show q_ins q_k226 70 = some (.bipush 11, 0, 0) from rfl) (by decide) ?_
  refine zt_aload_n zy_226 (show q_ins q_k226 72 = some (.aload_n 0, 0, 0) from rfl) (v := 163) rfl ?_
  refine zt_getR zy_226 (show q_ins q_k226 73 = some (.getfield 13, 11, 1) from rfl) (r := 164) zk_163_1 ?_
  refine zt_bipush zy_226 (show q_ins q_k226 76 = some (.bipush 7, 0, 0) from rfl) (by decide) ?_
  refine zt_ald zy_226 (show q_ins q_k226 78 = some (.iaload, 0, 0) from rfl) za_164 (by decide) (by decide) ?_
  refine zt_iconst zy_226 (show q_ins q_k226 79 = some (.iconst 1, 0, 0) from rfl) ?_
  obtain ⟨hg, h⟩ := zt_ckE h
  refine zt_icmp_ne zy_226 (show q_ins q_k226 80 = some (.if_icmp .ne 12, 92, 0) from rfl) (⟨hg, by decide⟩) (fun hc => ?_) (fun hc => ?_)
  · rw [if_pos hc] at h
    refine zt_aload_n zy_226 (show q_ins q_k226 83 = some (.aload_n 0, 0, 0) from rfl) (v := 163) rfl ?_
    refine zt_getR zy_226 (show q_ins q_k226 84 = some (.getfield 13, 11, 1) from rfl) (r := 164) zk_163_1 ?_
    refine zt_iconst zy_226 (show q_ins q_k226 87 = some (.iconst 5, 0, 0) from rfl) ?_
    refine zt_ald zy_226 (show q_ins q_k226 88 = some (.iaload, 0, 0) from rfl) za_164 (by decide) (by decide) ?_
    refine zt_goto zy_226 (show q_ins q_k226 89 = some (.goto 4, 93, 0) from rfl) ?_
    exact zt_wk (zt_cov_nil) (S_M_fades_93  _ _ _ _ h)
  · rw [if_neg hc] at h
    refine zt_iconst zy_226 (show q_ins q_k226 92 = some (.iconst 0, 0, 0) from rfl) ?_
    exact zt_wk (zt_cov_nil) (S_M_fades_93  _ _ _ _ h)
theorem S_M_fades {X : q_X}   {v1 : Int} {σ : zt_S} {o : (Unit × zt_S)} (h : F_M_fades  v1 σ = some o) : zt_Ex X 1 226 0 (lv_args 0 [.ref 163, .int (Int32.ofInt v1)]) [] (zt_M σ) (zo_V o) := by
  unfold F_M_fades at h
  refine zt_aload_n zy_226 (show q_ins q_k226 0 = some (.aload_n 0, 0, 0) from rfl) (v := 163) rfl ?_
  refine zt_getR zy_226 (show q_ins q_k226 1 = some (.getfield 13, 11, 1) from rfl) (r := 164) zk_163_1 ?_
  refine zt_bipush zy_226 (show q_ins q_k226 4 = some (.bipush 11, 0, 0) from rfl) (by decide) ?_
  refine zt_ald zy_226 (show q_ins q_k226 6 = some (.iaload, 0, 0) from rfl) za_164 (by decide) (by decide) ?_
  refine zt_istore_n zy_226 (show q_ins q_k226 7 = some (.istore_n 2, 0, 0) from rfl) (by decide) ?_
  refine zt_aload_n zy_226 (show q_ins q_k226 8 = some (.aload_n 0, 0, 0) from rfl) (v := 163) rfl ?_
  refine zt_getR zy_226 (show q_ins q_k226 9 = some (.getfield 13, 11, 1) from rfl) (r := 164) zk_163_1 ?_
  refine zt_bipush zy_226 (show q_ins q_k226 12 = some (.bipush 11, 0, 0) from rfl) (by decide) ?_
  refine zt_iconst zy_226 (show q_ins q_k226 14 = some (.iconst 0, 0, 0) from rfl) ?_
  refine zt_iload_n zy_226 (show q_ins q_k226 15 = some (.iload_n 2, 0, 0) from rfl) (v := Int32.ofInt (σ.1 164 (11 : Int))) rfl ?_
  refine zt_aload_n zy_226 (show q_ins q_k226 16 = some (.aload_n 0, 0, 0) from rfl) (v := 163) rfl ?_
  refine zt_getR zy_226 (show q_ins q_k226 17 = some (.getfield 13, 11, 1) from rfl) (r := 164) zk_163_1 ?_
  refine zt_bipush zy_226 (show q_ins q_k226 20 = some (.bipush 6, 0, 0) from rfl) (by decide) ?_
  refine zt_ald zy_226 (show q_ins q_k226 22 = some (.iaload, 0, 0) from rfl) za_164 (by decide) (by decide) ?_
  refine zt_isub zy_226 (show q_ins q_k226 23 = some (.isub, 0, 0) from rfl) ?_
  obtain ⟨a1, s2, hca1, h⟩ := zt_bdE h
  refine zt_callS (d := 0) zy_226 (show q_ins q_k226 24 = some (.invokestatic 294, 173, 2) from rfl) zy_173 (by decide) ⟨zq_lt (by decide), by decide⟩ rfl (by simp [Value.category]) (by simp [lg_sl, Value.category]) rfl (zt_dm (by decide) (S_M_greater hca1)) ?_
  obtain ⟨s3, hs3, h⟩ := zt_letE h
  refine zt_ast zy_226 (show q_ins q_k226 27 = some (.iastore, 0, 0) from rfl) za_164 (by decide) (by decide) ?_
  rw [← hs3]
  refine zt_iload_n zy_226 (show q_ins q_k226 28 = some (.iload_n 2, 0, 0) from rfl) (v := Int32.ofInt (σ.1 164 (11 : Int))) rfl ?_
  obtain ⟨hg, h⟩ := zt_ckE h
  refine zt_if_eq zy_226 (show q_ins q_k226 29 = some (.ifCond .eq 13, 42, 0) from rfl) (hg) (fun hc => ?_) (fun hc => ?_)
  · rw [if_pos hc] at h
    exact zt_wk (zt_cov_nil) (S_M_fades_42  _ _ h)
  · rw [if_neg hc] at h
    refine zt_aload_n zy_226 (show q_ins q_k226 32 = some (.aload_n 0, 0, 0) from rfl) (v := 163) rfl ?_
    refine zt_getR zy_226 (show q_ins q_k226 33 = some (.getfield 13, 11, 1) from rfl) (r := 164) zk_163_1 ?_
    refine zt_bipush zy_226 (show q_ins q_k226 36 = some (.bipush 11, 0, 0) from rfl) (by decide) ?_
    refine zt_ald zy_226 (show q_ins q_k226 38 = some (.iaload, 0, 0) from rfl) za_164 (by decide) (by decide) ?_
    obtain ⟨hg, h⟩ := zt_ckE h
    refine zt_if_le zy_226 (show q_ins q_k226 39 = some (.ifCond .le 4, 43, 0) from rfl) (hg) (fun hc => ?_) (fun hc => ?_)
    · rw [if_pos hc] at h
      exact zt_wk (zt_cov_nil) (S_M_fades_42  _ _ h)
    · rw [if_neg hc] at h
      refine zt_aload_n zy_226 (show q_ins q_k226 43 = some (.aload_n 0, 0, 0) from rfl) (v := 163) rfl ?_
      refine zt_getR zy_226 (show q_ins q_k226 44 = some (.getfield 13, 11, 1) from rfl) (r := 164) zk_163_1 ?_
      refine zt_bipush zy_226 (show q_ins q_k226 47 = some (.bipush 10, 0, 0) from rfl) (by decide) ?_
      refine zt_aload_n zy_226 (show q_ins q_k226 49 = some (.aload_n 0, 0, 0) from rfl) (v := 163) rfl ?_
      refine zt_getR zy_226 (show q_ins q_k226 50 = some (.getfield 13, 11, 1) from rfl) (r := 164) zk_163_1 ?_
      refine zt_bipush zy_226 (show q_ins q_k226 53 = some (.bipush 7, 0, 0) from rfl) (by decide) ?_
      refine zt_ald zy_226 (show q_ins q_k226 55 = some (.iaload, 0, 0) from rfl) za_164 (by decide) (by decide) ?_
      refine zt_iconst zy_226 (show q_ins q_k226 56 = some (.iconst 1, 0, 0) from rfl) ?_
      obtain ⟨hg, h⟩ := zt_ckE h
      refine zt_icmp_ne zy_226 (show q_ins q_k226 57 = some (.if_icmp .ne 7, 64, 0) from rfl) (⟨hg, by decide⟩) (fun hc => ?_) (fun hc => ?_)
      · rw [if_pos hc] at h
        refine zt_iload_n zy_226 (show q_ins q_k226 60 = some (.iload_n 1, 0, 0) from rfl) (v := Int32.ofInt v1) rfl ?_
        refine zt_goto zy_226 (show q_ins q_k226 61 = some (.goto 4, 65, 0) from rfl) ?_
        exact zt_wk (zt_cov_cons rfl (zt_cov_nil)) (S_M_fades_65  _ _ _ _ h)
      · rw [if_neg hc] at h
        refine zt_iconst zy_226 (show q_ins q_k226 64 = some (.iconst (-1), 0, 0) from rfl) ?_
        exact zt_wk (zt_cov_cons rfl (zt_cov_nil)) (S_M_fades_65  _ _ _ _ h)
theorem S_M_endsTrick {X : q_X}    {σ : zt_S} {o : (Unit × zt_S)} (h : F_M_endsTrick   σ = some o) : zt_Ex X 4 227 0 (lv_args 0 [.ref 163]) [] (zt_M σ) (zo_V o) := by
  unfold F_M_endsTrick at h
  refine zt_aload_n zy_227 (show q_ins q_k227 0 = some (.aload_n 0, 0, 0) from rfl) (v := 163) rfl ?_
  obtain ⟨a1, s2, hca1, h⟩ := zt_bdE h
  refine zt_callV (d := 3) zy_227 (show q_ins q_k227 1 = some (.invokevirtual 272, 218, 0) from rfl) zy_218 (by decide) ⟨zq_lt (by decide), by decide⟩ rfl (by simp [Value.category]) (by simp [lg_sl, Value.category]) (zt_rcv zc_163) (zt_dm (by decide) (S_M_bestPlace hca1)) ?_
  refine zt_istore_n zy_227 (show q_ins q_k227 4 = some (.istore_n 1, 0, 0) from rfl) (by decide) ?_
  refine zt_aload_n zy_227 (show q_ins q_k227 5 = some (.aload_n 0, 0, 0) from rfl) (v := 163) rfl ?_
  refine zt_iload_n zy_227 (show q_ins q_k227 6 = some (.iload_n 1, 0, 0) from rfl) (v := Int32.ofInt a1) rfl ?_
  obtain ⟨a3, s4, hca3, h⟩ := zt_bdE h
  refine zt_callV (d := 3) zy_227 (show q_ins q_k227 7 = some (.invokevirtual 254, 213, 1) from rfl) zy_213 (by decide) ⟨zq_lt (by decide), by decide⟩ rfl (by simp [Value.category]) (by simp [lg_sl, Value.category]) (zt_rcv zc_163) (zt_dm (by decide) (S_M_cardInTrick hca3)) ?_
  refine zt_istore_n zy_227 (show q_ins q_k227 10 = some (.istore_n 2, 0, 0) from rfl) (by decide) ?_
  refine zt_aload_n zy_227 (show q_ins q_k227 11 = some (.aload_n 0, 0, 0) from rfl) (v := 163) rfl ?_
  refine zt_getR zy_227 (show q_ins q_k227 12 = some (.getfield 13, 11, 1) from rfl) (r := 164) zk_163_1 ?_
  refine zt_bipush zy_227 (show q_ins q_k227 15 = some (.bipush 13, 0, 0) from rfl) (by decide) ?_
  refine zt_ald zy_227 (show q_ins q_k227 17 = some (.iaload, 0, 0) from rfl) za_164 (by decide) (by decide) ?_
  refine zt_istore_n zy_227 (show q_ins q_k227 18 = some (.istore_n 3, 0, 0) from rfl) (by decide) ?_
  refine zt_aload_n zy_227 (show q_ins q_k227 19 = some (.aload_n 0, 0, 0) from rfl) (v := 163) rfl ?_
  refine zt_getR zy_227 (show q_ins q_k227 20 = some (.getfield 13, 11, 1) from rfl) (r := 164) zk_163_1 ?_
  refine zt_bipush zy_227 (show q_ins q_k227 23 = some (.bipush 9, 0, 0) from rfl) (by decide) ?_
  refine zt_ald zy_227 (show q_ins q_k227 25 = some (.iaload, 0, 0) from rfl) za_164 (by decide) (by decide) ?_
  refine zt_iload_n zy_227 (show q_ins q_k227 26 = some (.iload_n 1, 0, 0) from rfl) (v := Int32.ofInt a1) rfl ?_
  refine zt_iadd zy_227 (show q_ins q_k227 27 = some (.iadd, 0, 0) from rfl) ?_
  refine zt_aload_n zy_227 (show q_ins q_k227 28 = some (.aload_n 0, 0, 0) from rfl) (v := 163) rfl ?_
  refine zt_getR zy_227 (show q_ins q_k227 29 = some (.getfield 13, 11, 1) from rfl) (r := 164) zk_163_1 ?_
  refine zt_iconst zy_227 (show q_ins q_k227 32 = some (.iconst 1, 0, 0) from rfl) ?_
  refine zt_ald zy_227 (show q_ins q_k227 33 = some (.iaload, 0, 0) from rfl) za_164 (by decide) (by decide) ?_
  obtain ⟨hg, h⟩ := zt_ckE h
  refine zt_irem zy_227 (show q_ins q_k227 34 = some (.irem, 0, 0) from rfl) hg.1 hg.2 ?_
  refine zt_istore zy_227 (show q_ins q_k227 35 = some (.istore 4, 0, 0) from rfl) (by decide) ?_
  refine zt_aload_n zy_227 (show q_ins q_k227 37 = some (.aload_n 0, 0, 0) from rfl) (v := 163) rfl ?_
  refine zt_getR zy_227 (show q_ins q_k227 38 = some (.getfield 13, 11, 1) from rfl) (r := 164) zk_163_1 ?_
  refine zt_aload_n zy_227 (show q_ins q_k227 41 = some (.aload_n 0, 0, 0) from rfl) (v := 163) rfl ?_
  refine zt_iload_n zy_227 (show q_ins q_k227 42 = some (.iload_n 3, 0, 0) from rfl) (v := Int32.ofInt (s4.1 164 (13 : Int))) rfl ?_
  refine zt_iconst zy_227 (show q_ins q_k227 43 = some (.iconst 0, 0, 0) from rfl) ?_
  obtain ⟨a5, s6, hca5, h⟩ := zt_bdE h
  refine zt_callV (d := 3) zy_227 (show q_ins q_k227 44 = some (.invokevirtual 297, 225, 2) from rfl) zy_225 (by decide) ⟨zq_lt (by decide), by decide⟩ rfl (by simp [Value.category]) (by simp [lg_sl, Value.category]) (zt_rcv zc_163) (zt_dm (by decide) (S_M_trickCell hca5)) ?_
  refine zt_aload_n zy_227 (show q_ins q_k227 47 = some (.aload_n 0, 0, 0) from rfl) (v := 163) rfl ?_
  refine zt_getR zy_227 (show q_ins q_k227 48 = some (.getfield 13, 11, 1) from rfl) (r := 164) zk_163_1 ?_
  refine zt_bipush zy_227 (show q_ins q_k227 51 = some (.bipush 9, 0, 0) from rfl) (by decide) ?_
  refine zt_ald zy_227 (show q_ins q_k227 53 = some (.iaload, 0, 0) from rfl) za_164 (by decide) (by decide) ?_
  obtain ⟨hg, h⟩ := zt_ckE h
  obtain ⟨s7, hs7, h⟩ := zt_letE h
  refine zt_ast zy_227 (show q_ins q_k227 54 = some (.iastore, 0, 0) from rfl) za_164 (by decide) hg ?_
  rw [← hs7]
  refine zt_aload_n zy_227 (show q_ins q_k227 55 = some (.aload_n 0, 0, 0) from rfl) (v := 163) rfl ?_
  refine zt_getR zy_227 (show q_ins q_k227 56 = some (.getfield 13, 11, 1) from rfl) (r := 164) zk_163_1 ?_
  refine zt_aload_n zy_227 (show q_ins q_k227 59 = some (.aload_n 0, 0, 0) from rfl) (v := 163) rfl ?_
  refine zt_iload_n zy_227 (show q_ins q_k227 60 = some (.iload_n 3, 0, 0) from rfl) (v := Int32.ofInt (s4.1 164 (13 : Int))) rfl ?_
  refine zt_iconst zy_227 (show q_ins q_k227 61 = some (.iconst 1, 0, 0) from rfl) ?_
  obtain ⟨a8, s9, hca8, h⟩ := zt_bdE h
  refine zt_callV (d := 3) zy_227 (show q_ins q_k227 62 = some (.invokevirtual 297, 225, 2) from rfl) zy_225 (by decide) ⟨zq_lt (by decide), by decide⟩ rfl (by simp [Value.category]) (by simp [lg_sl, Value.category]) (zt_rcv zc_163) (zt_dm (by decide) (S_M_trickCell hca8)) ?_
  refine zt_iload zy_227 (show q_ins q_k227 65 = some (.iload 4, 0, 0) from rfl) (v := Int32.ofInt (((s4.1 164 (9 : Int)) + a1) % (s4.1 164 (1 : Int)))) rfl ?_
  obtain ⟨hg, h⟩ := zt_ckE h
  obtain ⟨s10, hs10, h⟩ := zt_letE h
  refine zt_ast zy_227 (show q_ins q_k227 67 = some (.iastore, 0, 0) from rfl) za_164 (by decide) hg ?_
  rw [← hs10]
  refine zt_aload_n zy_227 (show q_ins q_k227 68 = some (.aload_n 0, 0, 0) from rfl) (v := 163) rfl ?_
  refine zt_getR zy_227 (show q_ins q_k227 69 = some (.getfield 13, 11, 1) from rfl) (r := 164) zk_163_1 ?_
  refine zt_aload_n zy_227 (show q_ins q_k227 72 = some (.aload_n 0, 0, 0) from rfl) (v := 163) rfl ?_
  refine zt_iload_n zy_227 (show q_ins q_k227 73 = some (.iload_n 3, 0, 0) from rfl) (v := Int32.ofInt (s4.1 164 (13 : Int))) rfl ?_
  refine zt_iconst zy_227 (show q_ins q_k227 74 = some (.iconst 2, 0, 0) from rfl) ?_
  obtain ⟨a11, s12, hca11, h⟩ := zt_bdE h
  refine zt_callV (d := 3) zy_227 (show q_ins q_k227 75 = some (.invokevirtual 297, 225, 2) from rfl) zy_225 (by decide) ⟨zq_lt (by decide), by decide⟩ rfl (by simp [Value.category]) (by simp [lg_sl, Value.category]) (zt_rcv zc_163) (zt_dm (by decide) (S_M_trickCell hca11)) ?_
  refine zt_iload_n zy_227 (show q_ins q_k227 78 = some (.iload_n 2, 0, 0) from rfl) (v := Int32.ofInt a3) rfl ?_
  obtain ⟨hg, h⟩ := zt_ckE h
  obtain ⟨s13, hs13, h⟩ := zt_letE h
  refine zt_ast zy_227 (show q_ins q_k227 79 = some (.iastore, 0, 0) from rfl) za_164 (by decide) hg ?_
  rw [← hs13]
  refine zt_aload_n zy_227 (show q_ins q_k227 80 = some (.aload_n 0, 0, 0) from rfl) (v := 163) rfl ?_
  refine zt_getR zy_227 (show q_ins q_k227 81 = some (.getfield 13, 11, 1) from rfl) (r := 164) zk_163_1 ?_
  refine zt_aload_n zy_227 (show q_ins q_k227 84 = some (.aload_n 0, 0, 0) from rfl) (v := 163) rfl ?_
  refine zt_iload_n zy_227 (show q_ins q_k227 85 = some (.iload_n 3, 0, 0) from rfl) (v := Int32.ofInt (s4.1 164 (13 : Int))) rfl ?_
  refine zt_iconst zy_227 (show q_ins q_k227 86 = some (.iconst 3, 0, 0) from rfl) ?_
  obtain ⟨a14, s15, hca14, h⟩ := zt_bdE h
  refine zt_callV (d := 3) zy_227 (show q_ins q_k227 87 = some (.invokevirtual 297, 225, 2) from rfl) zy_225 (by decide) ⟨zq_lt (by decide), by decide⟩ rfl (by simp [Value.category]) (by simp [lg_sl, Value.category]) (zt_rcv zc_163) (zt_dm (by decide) (S_M_trickCell hca14)) ?_
  refine zt_aload_n zy_227 (show q_ins q_k227 90 = some (.aload_n 0, 0, 0) from rfl) (v := 163) rfl ?_
  obtain ⟨a16, s17, hca16, h⟩ := zt_bdE h
  refine zt_callV (d := 3) zy_227 (show q_ins q_k227 91 = some (.invokevirtual 263, 215, 0) from rfl) zy_215 (by decide) ⟨zq_lt (by decide), by decide⟩ rfl (by simp [Value.category]) (by simp [lg_sl, Value.category]) (zt_rcv zc_163) (zt_dm (by decide) (S_M_ledSuit hca16)) ?_
  obtain ⟨hg, h⟩ := zt_ckE h
  obtain ⟨s18, hs18, h⟩ := zt_letE h
  refine zt_ast zy_227 (show q_ins q_k227 94 = some (.iastore, 0, 0) from rfl) za_164 (by decide) hg ?_
  rw [← hs18]
  refine zt_aload_n zy_227 (show q_ins q_k227 95 = some (.aload_n 0, 0, 0) from rfl) (v := 163) rfl ?_
  refine zt_getR zy_227 (show q_ins q_k227 96 = some (.getfield 13, 11, 1) from rfl) (r := 164) zk_163_1 ?_
  refine zt_aload_n zy_227 (show q_ins q_k227 99 = some (.aload_n 0, 0, 0) from rfl) (v := 163) rfl ?_
  refine zt_iload_n zy_227 (show q_ins q_k227 100 = some (.iload_n 3, 0, 0) from rfl) (v := Int32.ofInt (s4.1 164 (13 : Int))) rfl ?_
  refine zt_iconst zy_227 (show q_ins q_k227 101 = some (.iconst 4, 0, 0) from rfl) ?_
  obtain ⟨a19, s20, hca19, h⟩ := zt_bdE h
  refine zt_callV (d := 3) zy_227 (show q_ins q_k227 102 = some (.invokevirtual 297, 225, 2) from rfl) zy_225 (by decide) ⟨zq_lt (by decide), by decide⟩ rfl (by simp [Value.category]) (by simp [lg_sl, Value.category]) (zt_rcv zc_163) (zt_dm (by decide) (S_M_trickCell hca19)) ?_
  refine zt_aload_n zy_227 (show q_ins q_k227 105 = some (.aload_n 0, 0, 0) from rfl) (v := 163) rfl ?_
  refine zt_getR zy_227 (show q_ins q_k227 106 = some (.getfield 13, 11, 1) from rfl) (r := 164) zk_163_1 ?_
  refine zt_bipush zy_227 (show q_ins q_k227 109 = some (.bipush 10, 0, 0) from rfl) (by decide) ?_
  refine zt_ald zy_227 (show q_ins q_k227 111 = some (.iaload, 0, 0) from rfl) za_164 (by decide) (by decide) ?_
  obtain ⟨hg, h⟩ := zt_ckE h
  obtain ⟨s21, hs21, h⟩ := zt_letE h
  refine zt_ast zy_227 (show q_ins q_k227 112 = some (.iastore, 0, 0) from rfl) za_164 (by decide) hg ?_
  rw [← hs21]
  refine zt_aload_n zy_227 (show q_ins q_k227 113 = some (.aload_n 0, 0, 0) from rfl) (v := 163) rfl ?_
  refine zt_getR zy_227 (show q_ins q_k227 114 = some (.getfield 13, 11, 1) from rfl) (r := 164) zk_163_1 ?_
  refine zt_aload_n zy_227 (show q_ins q_k227 117 = some (.aload_n 0, 0, 0) from rfl) (v := 163) rfl ?_
  refine zt_iload_n zy_227 (show q_ins q_k227 118 = some (.iload_n 3, 0, 0) from rfl) (v := Int32.ofInt (s4.1 164 (13 : Int))) rfl ?_
  refine zt_iconst zy_227 (show q_ins q_k227 119 = some (.iconst 5, 0, 0) from rfl) ?_
  obtain ⟨a22, s23, hca22, h⟩ := zt_bdE h
  refine zt_callV (d := 3) zy_227 (show q_ins q_k227 120 = some (.invokevirtual 297, 225, 2) from rfl) zy_225 (by decide) ⟨zq_lt (by decide), by decide⟩ rfl (by simp [Value.category]) (by simp [lg_sl, Value.category]) (zt_rcv zc_163) (zt_dm (by decide) (S_M_trickCell hca22)) ?_
  refine zt_aload_n zy_227 (show q_ins q_k227 123 = some (.aload_n 0, 0, 0) from rfl) (v := 163) rfl ?_
  refine zt_getR zy_227 (show q_ins q_k227 124 = some (.getfield 13, 11, 1) from rfl) (r := 164) zk_163_1 ?_
  refine zt_bipush zy_227 (show q_ins q_k227 127 = some (.bipush 11, 0, 0) from rfl) (by decide) ?_
  refine zt_ald zy_227 (show q_ins q_k227 129 = some (.iaload, 0, 0) from rfl) za_164 (by decide) (by decide) ?_
  obtain ⟨hg, h⟩ := zt_ckE h
  obtain ⟨s24, hs24, h⟩ := zt_letE h
  refine zt_ast zy_227 (show q_ins q_k227 130 = some (.iastore, 0, 0) from rfl) za_164 (by decide) hg ?_
  rw [← hs24]
  refine zt_aload_n zy_227 (show q_ins q_k227 131 = some (.aload_n 0, 0, 0) from rfl) (v := 163) rfl ?_
  refine zt_getR zy_227 (show q_ins q_k227 132 = some (.getfield 13, 11, 1) from rfl) (r := 164) zk_163_1 ?_
  refine zt_bipush zy_227 (show q_ins q_k227 135 = some (.bipush 13, 0, 0) from rfl) (by decide) ?_
  refine zt_iload_n zy_227 (show q_ins q_k227 137 = some (.iload_n 3, 0, 0) from rfl) (v := Int32.ofInt (s4.1 164 (13 : Int))) rfl ?_
  refine zt_iconst zy_227 (show q_ins q_k227 138 = some (.iconst 1, 0, 0) from rfl) ?_
  refine zt_iadd zy_227 (show q_ins q_k227 139 = some (.iadd, 0, 0) from rfl) ?_
  obtain ⟨s25, hs25, h⟩ := zt_letE h
  refine zt_ast zy_227 (show q_ins q_k227 140 = some (.iastore, 0, 0) from rfl) za_164 (by decide) (by decide) ?_
  rw [← hs25]
  refine zt_aload_n zy_227 (show q_ins q_k227 141 = some (.aload_n 0, 0, 0) from rfl) (v := 163) rfl ?_
  refine zt_getR zy_227 (show q_ins q_k227 142 = some (.getfield 13, 11, 1) from rfl) (r := 164) zk_163_1 ?_
  refine zt_bipush zy_227 (show q_ins q_k227 145 = some (.bipush 9, 0, 0) from rfl) (by decide) ?_
  refine zt_iload zy_227 (show q_ins q_k227 147 = some (.iload 4, 0, 0) from rfl) (v := Int32.ofInt (((s4.1 164 (9 : Int)) + a1) % (s4.1 164 (1 : Int)))) rfl ?_
  obtain ⟨s26, hs26, h⟩ := zt_letE h
  refine zt_ast zy_227 (show q_ins q_k227 149 = some (.iastore, 0, 0) from rfl) za_164 (by decide) (by decide) ?_
  rw [← hs26]
  refine zt_aload_n zy_227 (show q_ins q_k227 150 = some (.aload_n 0, 0, 0) from rfl) (v := 163) rfl ?_
  refine zt_aload_n zy_227 (show q_ins q_k227 151 = some (.aload_n 0, 0, 0) from rfl) (v := 163) rfl ?_
  refine zt_iload_n zy_227 (show q_ins q_k227 152 = some (.iload_n 2, 0, 0) from rfl) (v := Int32.ofInt a3) rfl ?_
  obtain ⟨a27, s28, hca27, h⟩ := zt_bdE h
  refine zt_callV (d := 3) zy_227 (show q_ins q_k227 153 = some (.invokevirtual 257, 209, 1) from rfl) zy_209 (by decide) ⟨zq_lt (by decide), by decide⟩ rfl (by simp [Value.category]) (by simp [lg_sl, Value.category]) (zt_rcv zc_163) (zt_dm (by decide) (S_M_suitOf hca27)) ?_
  obtain ⟨a29, s30, hca29, h⟩ := zt_bdE h
  refine zt_callV (d := 3) zy_227 (show q_ins q_k227 156 = some (.invokevirtual 300, 226, 1) from rfl) zy_226 (by decide) ⟨zq_lt (by decide), by decide⟩ rfl (by simp [Value.category]) (by simp [lg_sl, Value.category]) (zt_rcv zc_163) (zt_dm (by decide) (S_M_fades hca29)) ?_
  cases h
  exact zt_ret zy_227 (show q_ins q_k227 159 = some (.return_, 0, 0) from rfl)
theorem S_M_plays_121 {X : q_X}   : ∀  (σ : zt_S) (o : (Unit × zt_S)), F_M_plays_121   σ = some o → zt_Ex X 5 228 121 [] [] (zt_M σ) (zo_V o) := by
  intro  σ o  h
  unfold F_M_plays_121 at h
  cases h
  exact zt_ret zy_228 (show q_ins q_k228 121 = some (.return_, 0, 0) from rfl)
theorem S_M_plays_50 {X : q_X}   : ∀ (v1 : Int) (v2 : Int) (σ : zt_S) (o : (Unit × zt_S)), F_M_plays_50  v1 v2 σ = some o → zt_Ex X 5 228 50 [(0, .ref 163), (1, .int (Int32.ofInt v1)), (2, .int (Int32.ofInt v2))] [] (zt_M σ) (zo_V o) := by
  intro v1 v2 σ o  h
  unfold F_M_plays_50 at h
  refine zt_aload_n zy_228 (show q_ins q_k228 50 = some (.aload_n 0, 0, 0) from rfl) (v := 163) rfl ?_
  refine zt_getR zy_228 (show q_ins q_k228 51 = some (.getfield 13, 11, 1) from rfl) (r := 164) zk_163_1 ?_
  refine zt_bipush zy_228 (show q_ins q_k228 54 = some (.bipush 40, 0, 0) from rfl) (by decide) ?_
  refine zt_iload_n zy_228 (show q_ins q_k228 56 = some (.iload_n 1, 0, 0) from rfl) (v := Int32.ofInt v1) rfl ?_
  refine zt_iadd zy_228 (show q_ins q_k228 57 = some (.iadd, 0, 0) from rfl) ?_
  refine zt_iconst zy_228 (show q_ins q_k228 58 = some (.iconst (-1), 0, 0) from rfl) ?_
  obtain ⟨hg, h⟩ := zt_ckE h
  obtain ⟨s3, hs3, h⟩ := zt_letE h
  refine zt_ast zy_228 (show q_ins q_k228 59 = some (.iastore, 0, 0) from rfl) za_164 (by decide) hg ?_
  rw [← hs3]
  refine zt_aload_n zy_228 (show q_ins q_k228 60 = some (.aload_n 0, 0, 0) from rfl) (v := 163) rfl ?_
  refine zt_getR zy_228 (show q_ins q_k228 61 = some (.getfield 13, 11, 1) from rfl) (r := 164) zk_163_1 ?_
  refine zt_bipush zy_228 (show q_ins q_k228 64 = some (.bipush 92, 0, 0) from rfl) (by decide) ?_
  refine zt_aload_n zy_228 (show q_ins q_k228 66 = some (.aload_n 0, 0, 0) from rfl) (v := 163) rfl ?_
  refine zt_getR zy_228 (show q_ins q_k228 67 = some (.getfield 13, 11, 1) from rfl) (r := 164) zk_163_1 ?_
  refine zt_bipush zy_228 (show q_ins q_k228 70 = some (.bipush 12, 0, 0) from rfl) (by decide) ?_
  refine zt_ald zy_228 (show q_ins q_k228 72 = some (.iaload, 0, 0) from rfl) za_164 (by decide) (by decide) ?_
  refine zt_iadd zy_228 (show q_ins q_k228 73 = some (.iadd, 0, 0) from rfl) ?_
  refine zt_iload_n zy_228 (show q_ins q_k228 74 = some (.iload_n 1, 0, 0) from rfl) (v := Int32.ofInt v1) rfl ?_
  obtain ⟨hg, h⟩ := zt_ckE h
  obtain ⟨s4, hs4, h⟩ := zt_letE h
  refine zt_ast zy_228 (show q_ins q_k228 75 = some (.iastore, 0, 0) from rfl) za_164 (by decide) hg ?_
  rw [← hs4]
  refine zt_aload_n zy_228 (show q_ins q_k228 76 = some (.aload_n 0, 0, 0) from rfl) (v := 163) rfl ?_
  refine zt_getR zy_228 (show q_ins q_k228 77 = some (.getfield 13, 11, 1) from rfl) (r := 164) zk_163_1 ?_
  refine zt_sipush zy_228 (show q_ins q_k228 80 = some (.sipush 144, 0, 0) from rfl) (by decide) ?_
  refine zt_aload_n zy_228 (show q_ins q_k228 83 = some (.aload_n 0, 0, 0) from rfl) (v := 163) rfl ?_
  refine zt_getR zy_228 (show q_ins q_k228 84 = some (.getfield 13, 11, 1) from rfl) (r := 164) zk_163_1 ?_
  refine zt_bipush zy_228 (show q_ins q_k228 87 = some (.bipush 12, 0, 0) from rfl) (by decide) ?_
  refine zt_ald zy_228 (show q_ins q_k228 89 = some (.iaload, 0, 0) from rfl) za_164 (by decide) (by decide) ?_
  refine zt_iadd zy_228 (show q_ins q_k228 90 = some (.iadd, 0, 0) from rfl) ?_
  refine zt_iload_n zy_228 (show q_ins q_k228 91 = some (.iload_n 2, 0, 0) from rfl) (v := Int32.ofInt v2) rfl ?_
  obtain ⟨hg, h⟩ := zt_ckE h
  obtain ⟨s5, hs5, h⟩ := zt_letE h
  refine zt_ast zy_228 (show q_ins q_k228 92 = some (.iastore, 0, 0) from rfl) za_164 (by decide) hg ?_
  rw [← hs5]
  refine zt_aload_n zy_228 (show q_ins q_k228 93 = some (.aload_n 0, 0, 0) from rfl) (v := 163) rfl ?_
  refine zt_getR zy_228 (show q_ins q_k228 94 = some (.getfield 13, 11, 1) from rfl) (r := 164) zk_163_1 ?_
  refine zt_bipush zy_228 (show q_ins q_k228 97 = some (.bipush 12, 0, 0) from rfl) (by decide) ?_
  refine zt_dup2 zy_228 (show q_ins q_k228 99 = some (.dup2, 0, 0) from rfl) ⟨rfl, rfl⟩ ?_
  refine zt_ald zy_228 (show q_ins q_k228 100 = some (.iaload, 0, 0) from rfl) za_164 (by decide) (by decide) ?_
  refine zt_iconst zy_228 (show q_ins q_k228 101 = some (.iconst 1, 0, 0) from rfl) ?_
  refine zt_iadd zy_228 (show q_ins q_k228 102 = some (.iadd, 0, 0) from rfl) ?_
  obtain ⟨s6, hs6, h⟩ := zt_letE h
  refine zt_ast zy_228 (show q_ins q_k228 103 = some (.iastore, 0, 0) from rfl) za_164 (by decide) (by decide) ?_
  rw [← hs6]
  refine zt_aload_n zy_228 (show q_ins q_k228 104 = some (.aload_n 0, 0, 0) from rfl) (v := 163) rfl ?_
  obtain ⟨a7, s8, hca7, h⟩ := zt_bdE h
  refine zt_callV (d := 4) zy_228 (show q_ins q_k228 105 = some (.invokevirtual 251, 212, 0) from rfl) zy_212 (by decide) ⟨zq_lt (by decide), by decide⟩ rfl (by simp [Value.category]) (by simp [lg_sl, Value.category]) (zt_rcv zc_163) (zt_dm (by decide) (S_M_inTrick hca7)) ?_
  refine zt_aload_n zy_228 (show q_ins q_k228 108 = some (.aload_n 0, 0, 0) from rfl) (v := 163) rfl ?_
  refine zt_getR zy_228 (show q_ins q_k228 109 = some (.getfield 13, 11, 1) from rfl) (r := 164) zk_163_1 ?_
  refine zt_iconst zy_228 (show q_ins q_k228 112 = some (.iconst 1, 0, 0) from rfl) ?_
  refine zt_ald zy_228 (show q_ins q_k228 113 = some (.iaload, 0, 0) from rfl) za_164 (by decide) (by decide) ?_
  obtain ⟨hg, h⟩ := zt_ckE h
  refine zt_icmp_ne zy_228 (show q_ins q_k228 114 = some (.if_icmp .ne 7, 121, 0) from rfl) (⟨hg.1, hg.2⟩) (fun hc => ?_) (fun hc => ?_)
  · rw [if_pos hc] at h
    refine zt_aload_n zy_228 (show q_ins q_k228 117 = some (.aload_n 0, 0, 0) from rfl) (v := 163) rfl ?_
    obtain ⟨a9, s10, hca9, h⟩ := zt_bdE h
    refine zt_callV (d := 4) zy_228 (show q_ins q_k228 118 = some (.invokevirtual 303, 227, 0) from rfl) zy_227 (by decide) ⟨zq_lt (by decide), by decide⟩ rfl (by simp [Value.category]) (by simp [lg_sl, Value.category]) (zt_rcv zc_163) (zt_dm (by decide) (S_M_endsTrick hca9)) ?_
    exact zt_wk (zt_cov_nil) (S_M_plays_121  _ _ h)
  · rw [if_neg hc] at h
    exact zt_wk (zt_cov_nil) (S_M_plays_121  _ _ h)
theorem S_M_plays {X : q_X}   {v1 : Int} {σ : zt_S} {o : (Unit × zt_S)} (h : F_M_plays  v1 σ = some o) : zt_Ex X 5 228 0 (lv_args 0 [.ref 163, .int (Int32.ofInt v1)]) [] (zt_M σ) (zo_V o) := by
  unfold F_M_plays at h
  refine zt_aload_n zy_228 (show q_ins q_k228 0 = some (.aload_n 0, 0, 0) from rfl) (v := 163) rfl ?_
  obtain ⟨a1, s2, hca1, h⟩ := zt_bdE h
  refine zt_callV (d := 4) zy_228 (show q_ins q_k228 1 = some (.invokevirtual 288, 214, 0) from rfl) zy_214 (by decide) ⟨zq_lt (by decide), by decide⟩ rfl (by simp [Value.category]) (by simp [lg_sl, Value.category]) (zt_rcv zc_163) (zt_dm (by decide) (S_M_turn hca1)) ?_
  refine zt_istore_n zy_228 (show q_ins q_k228 4 = some (.istore_n 2, 0, 0) from rfl) (by decide) ?_
  refine zt_aload_n zy_228 (show q_ins q_k228 5 = some (.aload_n 0, 0, 0) from rfl) (v := 163) rfl ?_
  refine zt_getR zy_228 (show q_ins q_k228 6 = some (.getfield 13, 11, 1) from rfl) (r := 164) zk_163_1 ?_
  refine zt_iconst zy_228 (show q_ins q_k228 9 = some (.iconst 3, 0, 0) from rfl) ?_
  refine zt_ald zy_228 (show q_ins q_k228 10 = some (.iaload, 0, 0) from rfl) za_164 (by decide) (by decide) ?_
  obtain ⟨hg, h⟩ := zt_ckE h
  refine zt_if_eq zy_228 (show q_ins q_k228 11 = some (.ifCond .eq 39, 50, 0) from rfl) (hg) (fun hc => ?_) (fun hc => ?_)
  · rw [if_pos hc] at h
    exact zt_wk (zt_cov_cons rfl (zt_cov_cons rfl (zt_cov_cons rfl (zt_cov_nil)))) (S_M_plays_50  _ _ _ _ h)
  · rw [if_neg hc] at h
    refine zt_aload_n zy_228 (show q_ins q_k228 14 = some (.aload_n 0, 0, 0) from rfl) (v := 163) rfl ?_
    obtain ⟨a11, s12, hca11, h⟩ := zt_bdE h
    refine zt_callV (d := 4) zy_228 (show q_ins q_k228 15 = some (.invokevirtual 251, 212, 0) from rfl) zy_212 (by decide) ⟨zq_lt (by decide), by decide⟩ rfl (by simp [Value.category]) (by simp [lg_sl, Value.category]) (zt_rcv zc_163) (zt_dm (by decide) (S_M_inTrick hca11)) ?_
    obtain ⟨hg, h⟩ := zt_ckE h
    refine zt_if_le zy_228 (show q_ins q_k228 18 = some (.ifCond .le 32, 50, 0) from rfl) (hg) (fun hc => ?_) (fun hc => ?_)
    · rw [if_pos hc] at h
      refine zt_aload_n zy_228 (show q_ins q_k228 21 = some (.aload_n 0, 0, 0) from rfl) (v := 163) rfl ?_
      refine zt_iload_n zy_228 (show q_ins q_k228 22 = some (.iload_n 1, 0, 0) from rfl) (v := Int32.ofInt v1) rfl ?_
      obtain ⟨a13, s14, hca13, h⟩ := zt_bdE h
      refine zt_callV (d := 4) zy_228 (show q_ins q_k228 23 = some (.invokevirtual 257, 209, 1) from rfl) zy_209 (by decide) ⟨zq_lt (by decide), by decide⟩ rfl (by simp [Value.category]) (by simp [lg_sl, Value.category]) (zt_rcv zc_163) (zt_dm (by decide) (S_M_suitOf hca13)) ?_
      refine zt_aload_n zy_228 (show q_ins q_k228 26 = some (.aload_n 0, 0, 0) from rfl) (v := 163) rfl ?_
      obtain ⟨a15, s16, hca15, h⟩ := zt_bdE h
      refine zt_callV (d := 4) zy_228 (show q_ins q_k228 27 = some (.invokevirtual 263, 215, 0) from rfl) zy_215 (by decide) ⟨zq_lt (by decide), by decide⟩ rfl (by simp [Value.category]) (by simp [lg_sl, Value.category]) (zt_rcv zc_163) (zt_dm (by decide) (S_M_ledSuit hca15)) ?_
      obtain ⟨hg, h⟩ := zt_ckE h
      refine zt_icmp_eq zy_228 (show q_ins q_k228 30 = some (.if_icmp .eq 20, 50, 0) from rfl) (⟨hg.1, hg.2⟩) (fun hc => ?_) (fun hc => ?_)
      · rw [if_pos hc] at h
        exact zt_wk (zt_cov_cons rfl (zt_cov_cons rfl (zt_cov_cons rfl (zt_cov_nil)))) (S_M_plays_50  _ _ _ _ h)
      · rw [if_neg hc] at h
        refine zt_aload_n zy_228 (show q_ins q_k228 33 = some (.aload_n 0, 0, 0) from rfl) (v := 163) rfl ?_
        refine zt_getR zy_228 (show q_ins q_k228 34 = some (.getfield 13, 11, 1) from rfl) (r := 164) zk_163_1 ?_
        refine zt_bipush zy_228 (show q_ins q_k228 37 = some (.bipush 24, 0, 0) from rfl) (by decide) ?_
        refine zt_iconst zy_228 (show q_ins q_k228 39 = some (.iconst 4, 0, 0) from rfl) ?_
        refine zt_iload_n zy_228 (show q_ins q_k228 40 = some (.iload_n 2, 0, 0) from rfl) (v := Int32.ofInt a1) rfl ?_
        refine zt_imul zy_228 (show q_ins q_k228 41 = some (.imul, 0, 0) from rfl) ?_
        refine zt_iadd zy_228 (show q_ins q_k228 42 = some (.iadd, 0, 0) from rfl) ?_
        refine zt_aload_n zy_228 (show q_ins q_k228 43 = some (.aload_n 0, 0, 0) from rfl) (v := 163) rfl ?_
        obtain ⟨a17, s18, hca17, h⟩ := zt_bdE h
        refine zt_callV (d := 4) zy_228 (show q_ins q_k228 44 = some (.invokevirtual 263, 215, 0) from rfl) zy_215 (by decide) ⟨zq_lt (by decide), by decide⟩ rfl (by simp [Value.category]) (by simp [lg_sl, Value.category]) (zt_rcv zc_163) (zt_dm (by decide) (S_M_ledSuit hca17)) ?_
        refine zt_iadd zy_228 (show q_ins q_k228 47 = some (.iadd, 0, 0) from rfl) ?_
        refine zt_iconst zy_228 (show q_ins q_k228 48 = some (.iconst 1, 0, 0) from rfl) ?_
        obtain ⟨hg, h⟩ := zt_ckE h
        obtain ⟨s19, hs19, h⟩ := zt_letE h
        refine zt_ast zy_228 (show q_ins q_k228 49 = some (.iastore, 0, 0) from rfl) za_164 (by decide) hg ?_
        rw [← hs19]
        exact zt_wk (zt_cov_cons rfl (zt_cov_cons rfl (zt_cov_cons rfl (zt_cov_nil)))) (S_M_plays_50  _ _ _ _ h)
    · rw [if_neg hc] at h
      exact zt_wk (zt_cov_cons rfl (zt_cov_cons rfl (zt_cov_cons rfl (zt_cov_nil)))) (S_M_plays_50  _ _ _ _ h)
theorem S_M_tricksOf_36 {X : q_X}   {r4 : Int → Int → Int → zt_S → Option (Int × zt_S)} (hr4 : ∀ (v1 : Int) (v2 : Int) (v3 : Int) (σ : zt_S) (o : (Int × zt_S)), r4 v1 v2 v3 σ = some o → zt_Ex X 1 229 4 [(0, .ref 163), (1, .int (Int32.ofInt v1)), (2, .int (Int32.ofInt v2)), (3, .int (Int32.ofInt v3))] [] (zt_M σ) (zo_I o)) : ∀ (v1 : Int) (v3 : Int) (x0 : Int) (x1 : Int) (σ : zt_S) (o : (Int × zt_S)), F_M_tricksOf_36  r4 v1 v3 x0 x1 σ = some o → zt_Ex X 1 229 36 [(0, .ref 163), (1, .int (Int32.ofInt v1)), (3, .int (Int32.ofInt v3))] [.int (Int32.ofInt x0), .int (Int32.ofInt x1)] (zt_M σ) (zo_I o) := by
  intro v1 v3 x0 x1 σ o  h
  unfold F_M_tricksOf_36 at h
  refine zt_iadd zy_229 (show q_ins q_k229 36 = some (.iadd, 0, 0) from rfl) ?_
  refine zt_istore_n zy_229 (show q_ins q_k229 37 = some (.istore_n 2, 0, 0) from rfl) (by decide) ?_
  refine zt_iinc zy_229 (show q_ins q_k229 38 = some (.iinc 3 1, 0, 0) from rfl) (v := v3) (by decide) rfl ?_
  refine zt_goto zy_229 (show q_ins q_k229 41 = some (.goto (-37), 4, 0) from rfl) ?_
  exact zt_wk (zt_cov_cons rfl (zt_cov_cons rfl (zt_cov_cons rfl (zt_cov_cons rfl (zt_cov_nil))))) (hr4 _ _ _ _ _ h)
theorem S_M_tricksOf_4 {X : q_X}   : ∀ (n : Nat) (v1 : Int) (v2 : Int) (v3 : Int) (σ : zt_S) (o : (Int × zt_S)), F_M_tricksOf_4  n v1 v2 v3 σ = some o → zt_Ex X 1 229 4 [(0, .ref 163), (1, .int (Int32.ofInt v1)), (2, .int (Int32.ofInt v2)), (3, .int (Int32.ofInt v3))] [] (zt_M σ) (zo_I o) := by
  intro n
  induction n with
  | zero => intro v1 v2 v3 σ o  h; cases h
  | succ n ih =>
  intro v1 v2 v3 σ o  h
  rw [F_M_tricksOf_4] at h
  refine zt_iload_n zy_229 (show q_ins q_k229 4 = some (.iload_n 3, 0, 0) from rfl) (v := Int32.ofInt v3) rfl ?_
  refine zt_aload_n zy_229 (show q_ins q_k229 5 = some (.aload_n 0, 0, 0) from rfl) (v := 163) rfl ?_
  refine zt_getR zy_229 (show q_ins q_k229 6 = some (.getfield 13, 11, 1) from rfl) (r := 164) zk_163_1 ?_
  refine zt_bipush zy_229 (show q_ins q_k229 9 = some (.bipush 13, 0, 0) from rfl) (by decide) ?_
  refine zt_ald zy_229 (show q_ins q_k229 11 = some (.iaload, 0, 0) from rfl) za_164 (by decide) (by decide) ?_
  obtain ⟨hg, h⟩ := zt_ckE h
  refine zt_icmp_ge zy_229 (show q_ins q_k229 12 = some (.if_icmp .ge 32, 44, 0) from rfl) (⟨hg.1, hg.2⟩) (fun hc => ?_) (fun hc => ?_)
  · rw [if_pos hc] at h
    refine zt_iload_n zy_229 (show q_ins q_k229 15 = some (.iload_n 2, 0, 0) from rfl) (v := Int32.ofInt v2) rfl ?_
    refine zt_aload_n zy_229 (show q_ins q_k229 16 = some (.aload_n 0, 0, 0) from rfl) (v := 163) rfl ?_
    refine zt_getR zy_229 (show q_ins q_k229 17 = some (.getfield 13, 11, 1) from rfl) (r := 164) zk_163_1 ?_
    refine zt_aload_n zy_229 (show q_ins q_k229 20 = some (.aload_n 0, 0, 0) from rfl) (v := 163) rfl ?_
    refine zt_iload_n zy_229 (show q_ins q_k229 21 = some (.iload_n 3, 0, 0) from rfl) (v := Int32.ofInt v3) rfl ?_
    refine zt_iconst zy_229 (show q_ins q_k229 22 = some (.iconst 1, 0, 0) from rfl) ?_
    obtain ⟨a1, s2, hca1, h⟩ := zt_bdE h
    refine zt_callV (d := 0) zy_229 (show q_ins q_k229 23 = some (.invokevirtual 297, 225, 2) from rfl) zy_225 (by decide) ⟨zq_lt (by decide), by decide⟩ rfl (by simp [Value.category]) (by simp [lg_sl, Value.category]) (zt_rcv zc_163) (zt_dm (by decide) (S_M_trickCell hca1)) ?_
    obtain ⟨hg, h⟩ := zt_ckE h
    refine zt_ald zy_229 (show q_ins q_k229 26 = some (.iaload, 0, 0) from rfl) za_164 (by decide) hg ?_
    refine zt_iload_n zy_229 (show q_ins q_k229 27 = some (.iload_n 1, 0, 0) from rfl) (v := Int32.ofInt v1) rfl ?_
    obtain ⟨hg, h⟩ := zt_ckE h
    refine zt_icmp_ne zy_229 (show q_ins q_k229 28 = some (.if_icmp .ne 7, 35, 0) from rfl) (⟨hg.1, hg.2⟩) (fun hc => ?_) (fun hc => ?_)
    · rw [if_pos hc] at h
      refine zt_iconst zy_229 (show q_ins q_k229 31 = some (.iconst 1, 0, 0) from rfl) ?_
      refine zt_goto zy_229 (show q_ins q_k229 32 = some (.goto 4, 36, 0) from rfl) ?_
      exact zt_wk (zt_cov_cons rfl (zt_cov_cons rfl (zt_cov_cons rfl (zt_cov_nil)))) (S_M_tricksOf_36  ih _ _ _ _ _ _ h)
    · rw [if_neg hc] at h
      refine zt_iconst zy_229 (show q_ins q_k229 35 = some (.iconst 0, 0, 0) from rfl) ?_
      exact zt_wk (zt_cov_cons rfl (zt_cov_cons rfl (zt_cov_cons rfl (zt_cov_nil)))) (S_M_tricksOf_36  ih _ _ _ _ _ _ h)
  · rw [if_neg hc] at h
    refine zt_iload_n zy_229 (show q_ins q_k229 44 = some (.iload_n 2, 0, 0) from rfl) (v := Int32.ofInt v2) rfl ?_
    cases h
    exact zt_iret zy_229 (show q_ins q_k229 45 = some (.ireturn, 0, 0) from rfl)
theorem S_M_tricksOf {X : q_X}   {v1 : Int} {σ : zt_S} {o : (Int × zt_S)} (h : F_M_tricksOf  v1 σ = some o) : zt_Ex X 1 229 0 (lv_args 0 [.ref 163, .int (Int32.ofInt v1)]) [] (zt_M σ) (zo_I o) := by
  unfold F_M_tricksOf at h
  refine zt_iconst zy_229 (show q_ins q_k229 0 = some (.iconst 0, 0, 0) from rfl) ?_
  refine zt_istore_n zy_229 (show q_ins q_k229 1 = some (.istore_n 2, 0, 0) from rfl) (by decide) ?_
  refine zt_iconst zy_229 (show q_ins q_k229 2 = some (.iconst 0, 0, 0) from rfl) ?_
  refine zt_istore_n zy_229 (show q_ins q_k229 3 = some (.istore_n 3, 0, 0) from rfl) (by decide) ?_
  exact zt_wk (zt_cov_cons rfl (zt_cov_cons rfl (zt_cov_cons rfl (zt_cov_cons rfl (zt_cov_nil))))) (S_M_tricksOf_4  _ _ _ _ _ _ h)
theorem S_M_resultOf_49 {X : q_X}   : ∀ (x0 : Int) (σ : zt_S) (o : (Int × zt_S)), F_M_resultOf_49  x0 σ = some o → zt_Ex X 2 230 49 [] [.int (Int32.ofInt x0)] (zt_M σ) (zo_I o) := by
  intro x0 σ o  h
  unfold F_M_resultOf_49 at h
  cases h
  exact zt_iret zy_230 (show q_ins q_k230 49 = some (.ireturn, 0, 0) from rfl)
theorem S_M_resultOf {X : q_X}   {v1 : Int} {σ : zt_S} {o : (Int × zt_S)} (h : F_M_resultOf  v1 σ = some o) : zt_Ex X 2 230 0 (lv_args 0 [.ref 163, .int (Int32.ofInt v1)]) [] (zt_M σ) (zo_I o) := by
  unfold F_M_resultOf at h
  refine zt_aload_n zy_230 (show q_ins q_k230 0 = some (.aload_n 0, 0, 0) from rfl) (v := 163) rfl ?_
  refine zt_iload_n zy_230 (show q_ins q_k230 1 = some (.iload_n 1, 0, 0) from rfl) (v := Int32.ofInt v1) rfl ?_
  obtain ⟨a1, s2, hca1, h⟩ := zt_bdE h
  refine zt_callV (d := 1) zy_230 (show q_ins q_k230 2 = some (.invokevirtual 306, 229, 1) from rfl) zy_229 (by decide) ⟨zq_lt (by decide), by decide⟩ rfl (by simp [Value.category]) (by simp [lg_sl, Value.category]) (zt_rcv zc_163) (zt_dm (by decide) (S_M_tricksOf hca1)) ?_
  refine zt_istore_n zy_230 (show q_ins q_k230 5 = some (.istore_n 2, 0, 0) from rfl) (by decide) ?_
  refine zt_aload_n zy_230 (show q_ins q_k230 6 = some (.aload_n 0, 0, 0) from rfl) (v := 163) rfl ?_
  refine zt_getR zy_230 (show q_ins q_k230 7 = some (.getfield 13, 11, 1) from rfl) (r := 164) zk_163_1 ?_
  refine zt_bipush zy_230 (show q_ins q_k230 10 = some (.bipush 16, 0, 0) from rfl) (by decide) ?_
  refine zt_iload_n zy_230 (show q_ins q_k230 12 = some (.iload_n 1, 0, 0) from rfl) (v := Int32.ofInt v1) rfl ?_
  refine zt_iadd zy_230 (show q_ins q_k230 13 = some (.iadd, 0, 0) from rfl) ?_
  obtain ⟨hg, h⟩ := zt_ckE h
  refine zt_ald zy_230 (show q_ins q_k230 14 = some (.iaload, 0, 0) from rfl) za_164 (by decide) hg ?_
  refine zt_istore_n zy_230 (show q_ins q_k230 15 = some (.istore_n 3, 0, 0) from rfl) (by decide) ?_
  refine zt_iload_n zy_230 (show q_ins q_k230 16 = some (.iload_n 3, 0, 0) from rfl) (v := Int32.ofInt (s2.1 164 ((16 : Int) + v1))) rfl ?_
  refine zt_iconst zy_230 (show q_ins q_k230 17 = some (.iconst (-1), 0, 0) from rfl) ?_
  obtain ⟨hg, h⟩ := zt_ckE h
  refine zt_icmp_ne zy_230 (show q_ins q_k230 18 = some (.if_icmp .ne 5, 23, 0) from rfl) (⟨hg, by decide⟩) (fun hc => ?_) (fun hc => ?_)
  · rw [if_pos hc] at h
    refine zt_iload_n zy_230 (show q_ins q_k230 21 = some (.iload_n 2, 0, 0) from rfl) (v := Int32.ofInt a1) rfl ?_
    cases h
    exact zt_iret zy_230 (show q_ins q_k230 22 = some (.ireturn, 0, 0) from rfl)
  · rw [if_neg hc] at h
    refine zt_iload_n zy_230 (show q_ins q_k230 23 = some (.iload_n 3, 0, 0) from rfl) (v := Int32.ofInt (s2.1 164 ((16 : Int) + v1))) rfl ?_
    refine zt_iload_n zy_230 (show q_ins q_k230 24 = some (.iload_n 2, 0, 0) from rfl) (v := Int32.ofInt a1) rfl ?_
    obtain ⟨hg, h⟩ := zt_ckE h
    refine zt_icmp_ne zy_230 (show q_ins q_k230 25 = some (.if_icmp .ne 10, 35, 0) from rfl) (⟨hg.1, hg.2⟩) (fun hc => ?_) (fun hc => ?_)
    · rw [if_pos hc] at h
      refine zt_bipush zy_230 (show q_ins q_k230 28 = some (.bipush 10, 0, 0) from rfl) (by decide) ?_
      refine zt_iload_n zy_230 (show q_ins q_k230 30 = some (.iload_n 3, 0, 0) from rfl) (v := Int32.ofInt (s2.1 164 ((16 : Int) + v1))) rfl ?_
      refine zt_iadd zy_230 (show q_ins q_k230 31 = some (.iadd, 0, 0) from rfl) ?_
      refine zt_goto zy_230 (show q_ins q_k230 32 = some (.goto 17, 49, 0) from rfl) ?_
      exact zt_wk (zt_cov_nil) (S_M_resultOf_49  _ _ _ h)
    · rw [if_neg hc] at h
      refine zt_iload_n zy_230 (show q_ins q_k230 35 = some (.iload_n 3, 0, 0) from rfl) (v := Int32.ofInt (s2.1 164 ((16 : Int) + v1))) rfl ?_
      refine zt_iload_n zy_230 (show q_ins q_k230 36 = some (.iload_n 2, 0, 0) from rfl) (v := Int32.ofInt a1) rfl ?_
      obtain ⟨hg, h⟩ := zt_ckE h
      refine zt_icmp_le zy_230 (show q_ins q_k230 37 = some (.if_icmp .le 9, 46, 0) from rfl) (⟨hg.1, hg.2⟩) (fun hc => ?_) (fun hc => ?_)
      · rw [if_pos hc] at h
        refine zt_iload_n zy_230 (show q_ins q_k230 40 = some (.iload_n 2, 0, 0) from rfl) (v := Int32.ofInt a1) rfl ?_
        refine zt_iload_n zy_230 (show q_ins q_k230 41 = some (.iload_n 3, 0, 0) from rfl) (v := Int32.ofInt (s2.1 164 ((16 : Int) + v1))) rfl ?_
        refine zt_isub zy_230 (show q_ins q_k230 42 = some (.isub, 0, 0) from rfl) ?_
        refine zt_goto zy_230 (show q_ins q_k230 43 = some (.goto 6, 49, 0) from rfl) ?_
        exact zt_wk (zt_cov_nil) (S_M_resultOf_49  _ _ _ h)
      · rw [if_neg hc] at h
        refine zt_iload_n zy_230 (show q_ins q_k230 46 = some (.iload_n 3, 0, 0) from rfl) (v := Int32.ofInt (s2.1 164 ((16 : Int) + v1))) rfl ?_
        refine zt_iload_n zy_230 (show q_ins q_k230 47 = some (.iload_n 2, 0, 0) from rfl) (v := Int32.ofInt a1) rfl ?_
        refine zt_isub zy_230 (show q_ins q_k230 48 = some (.isub, 0, 0) from rfl) ?_
        exact zt_wk (zt_cov_nil) (S_M_resultOf_49  _ _ _ h)
theorem S_M_counts_43 {X : q_X}   : ∀  (σ : zt_S) (o : (Unit × zt_S)), F_M_counts_43   σ = some o → zt_Ex X 3 231 43 [(0, .ref 163)] [] (zt_M σ) (zo_V o) := by
  intro  σ o  h
  unfold F_M_counts_43 at h
  refine zt_aload_n zy_231 (show q_ins q_k231 43 = some (.aload_n 0, 0, 0) from rfl) (v := 163) rfl ?_
  refine zt_getR zy_231 (show q_ins q_k231 44 = some (.getfield 13, 11, 1) from rfl) (r := 164) zk_163_1 ?_
  refine zt_bipush zy_231 (show q_ins q_k231 47 = some (.bipush 14, 0, 0) from rfl) (by decide) ?_
  refine zt_dup2 zy_231 (show q_ins q_k231 49 = some (.dup2, 0, 0) from rfl) ⟨rfl, rfl⟩ ?_
  refine zt_ald zy_231 (show q_ins q_k231 50 = some (.iaload, 0, 0) from rfl) za_164 (by decide) (by decide) ?_
  refine zt_iconst zy_231 (show q_ins q_k231 51 = some (.iconst 1, 0, 0) from rfl) ?_
  refine zt_iadd zy_231 (show q_ins q_k231 52 = some (.iadd, 0, 0) from rfl) ?_
  obtain ⟨s6, hs6, h⟩ := zt_letE h
  refine zt_ast zy_231 (show q_ins q_k231 53 = some (.iastore, 0, 0) from rfl) za_164 (by decide) (by decide) ?_
  rw [← hs6]
  cases h
  exact zt_ret zy_231 (show q_ins q_k231 54 = some (.return_, 0, 0) from rfl)
theorem S_M_counts_10 {X : q_X}   : ∀ (n : Nat) (v1 : Int) (σ : zt_S) (o : (Unit × zt_S)), F_M_counts_10  n v1 σ = some o → zt_Ex X 3 231 10 [(0, .ref 163), (1, .int (Int32.ofInt v1))] [] (zt_M σ) (zo_V o) := by
  intro n
  induction n with
  | zero => intro v1 σ o  h; cases h
  | succ n ih =>
  intro v1 σ o  h
  rw [F_M_counts_10] at h
  refine zt_iload_n zy_231 (show q_ins q_k231 10 = some (.iload_n 1, 0, 0) from rfl) (v := Int32.ofInt v1) rfl ?_
  refine zt_aload_n zy_231 (show q_ins q_k231 11 = some (.aload_n 0, 0, 0) from rfl) (v := 163) rfl ?_
  refine zt_getR zy_231 (show q_ins q_k231 12 = some (.getfield 13, 11, 1) from rfl) (r := 164) zk_163_1 ?_
  refine zt_iconst zy_231 (show q_ins q_k231 15 = some (.iconst 1, 0, 0) from rfl) ?_
  refine zt_ald zy_231 (show q_ins q_k231 16 = some (.iaload, 0, 0) from rfl) za_164 (by decide) (by decide) ?_
  obtain ⟨hg, h⟩ := zt_ckE h
  refine zt_icmp_ge zy_231 (show q_ins q_k231 17 = some (.if_icmp .ge 26, 43, 0) from rfl) (⟨hg.1, hg.2⟩) (fun hc => ?_) (fun hc => ?_)
  · rw [if_pos hc] at h
    refine zt_aload_n zy_231 (show q_ins q_k231 20 = some (.aload_n 0, 0, 0) from rfl) (v := 163) rfl ?_
    refine zt_getR zy_231 (show q_ins q_k231 21 = some (.getfield 13, 11, 1) from rfl) (r := 164) zk_163_1 ?_
    refine zt_bipush zy_231 (show q_ins q_k231 24 = some (.bipush 20, 0, 0) from rfl) (by decide) ?_
    refine zt_iload_n zy_231 (show q_ins q_k231 26 = some (.iload_n 1, 0, 0) from rfl) (v := Int32.ofInt v1) rfl ?_
    refine zt_iadd zy_231 (show q_ins q_k231 27 = some (.iadd, 0, 0) from rfl) ?_
    refine zt_dup2 zy_231 (show q_ins q_k231 28 = some (.dup2, 0, 0) from rfl) ⟨rfl, rfl⟩ ?_
    obtain ⟨hg, h⟩ := zt_ckE h
    refine zt_ald zy_231 (show q_ins q_k231 29 = some (.iaload, 0, 0) from rfl) za_164 (by decide) hg ?_
    refine zt_aload_n zy_231 (show q_ins q_k231 30 = some (.aload_n 0, 0, 0) from rfl) (v := 163) rfl ?_
    refine zt_iload_n zy_231 (show q_ins q_k231 31 = some (.iload_n 1, 0, 0) from rfl) (v := Int32.ofInt v1) rfl ?_
    obtain ⟨a3, s4, hca3, h⟩ := zt_bdE h
    refine zt_callV (d := 2) zy_231 (show q_ins q_k231 32 = some (.invokevirtual 309, 230, 1) from rfl) zy_230 (by decide) ⟨zq_lt (by decide), by decide⟩ rfl (by simp [Value.category]) (by simp [lg_sl, Value.category]) (zt_rcv zc_163) (zt_dm (by decide) (S_M_resultOf hca3)) ?_
    refine zt_iadd zy_231 (show q_ins q_k231 35 = some (.iadd, 0, 0) from rfl) ?_
    obtain ⟨hg, h⟩ := zt_ckE h
    obtain ⟨s5, hs5, h⟩ := zt_letE h
    refine zt_ast zy_231 (show q_ins q_k231 36 = some (.iastore, 0, 0) from rfl) za_164 (by decide) hg ?_
    rw [← hs5]
    refine zt_iinc zy_231 (show q_ins q_k231 37 = some (.iinc 1 1, 0, 0) from rfl) (v := v1) (by decide) rfl ?_
    refine zt_goto zy_231 (show q_ins q_k231 40 = some (.goto (-30), 10, 0) from rfl) ?_
    exact zt_wk (zt_cov_cons rfl (zt_cov_cons rfl (zt_cov_nil))) (ih _ _ _ h)
  · rw [if_neg hc] at h
    exact zt_wk (zt_cov_cons rfl (zt_cov_nil)) (S_M_counts_43  _ _ h)
theorem S_M_counts {X : q_X}    {σ : zt_S} {o : (Unit × zt_S)} (h : F_M_counts   σ = some o) : zt_Ex X 3 231 0 (lv_args 0 [.ref 163]) [] (zt_M σ) (zo_V o) := by
  unfold F_M_counts at h
  refine zt_aload_n zy_231 (show q_ins q_k231 0 = some (.aload_n 0, 0, 0) from rfl) (v := 163) rfl ?_
  obtain ⟨a1, s2, hca1, h⟩ := zt_bdE h
  refine zt_callV (d := 2) zy_231 (show q_ins q_k231 1 = some (.invokevirtual 248, 211, 0) from rfl) zy_211 (by decide) ⟨zq_lt (by decide), by decide⟩ rfl (by simp [Value.category]) (by simp [lg_sl, Value.category]) (zt_rcv zc_163) (zt_dm (by decide) (S_M_isOver hca1)) ?_
  obtain ⟨hg, h⟩ := zt_ckE h
  refine zt_if_ne zy_231 (show q_ins q_k231 4 = some (.ifCond .ne 4, 8, 0) from rfl) (hg) (fun hc => ?_) (fun hc => ?_)
  · rw [if_pos hc] at h
    cases h
    exact zt_ret zy_231 (show q_ins q_k231 7 = some (.return_, 0, 0) from rfl)
  · rw [if_neg hc] at h
    refine zt_iconst zy_231 (show q_ins q_k231 8 = some (.iconst 0, 0, 0) from rfl) ?_
    refine zt_istore_n zy_231 (show q_ins q_k231 9 = some (.istore_n 1, 0, 0) from rfl) (by decide) ?_
    exact zt_wk (zt_cov_cons rfl (zt_cov_cons rfl (zt_cov_nil))) (S_M_counts_10  _ _ _ _ h)
theorem S_M_size {X : q_X}   {v1 : Int} {σ : zt_S} {o : (Int × zt_S)} (h : F_M_size  v1 σ = some o) : zt_Ex X 2 232 0 (lv_args 0 [.ref 163, .int (Int32.ofInt v1)]) [] (zt_M σ) (zo_I o) := by
  unfold F_M_size at h
  refine zt_aload_n zy_232 (show q_ins q_k232 0 = some (.aload_n 0, 0, 0) from rfl) (v := 163) rfl ?_
  refine zt_iconst zy_232 (show q_ins q_k232 1 = some (.iconst 0, 0, 0) from rfl) ?_
  obtain ⟨s1, hs1, h⟩ := zt_letE h
  refine zt_putI zy_232 (show q_ins q_k232 2 = some (.putfield 1, 11, 0) from rfl) (j := 0) zk_163_0 rfl rfl rfl ?_
  rw [← hs1]
  refine zt_aload_n zy_232 (show q_ins q_k232 5 = some (.aload_n 0, 0, 0) from rfl) (v := 163) rfl ?_
  refine zt_iload_n zy_232 (show q_ins q_k232 6 = some (.iload_n 1, 0, 0) from rfl) (v := Int32.ofInt v1) rfl ?_
  refine zt_i2l zy_232 (show q_ins q_k232 7 = some (.i2l, 0, 0) from rfl) ?_
  refine zt_lconst zy_232 (show q_ins q_k232 8 = some (.lconst 0, 0, 0) from rfl) (v := (0 : Int64)) (by decide) ?_
  refine zt_ldc2 zy_232 (show q_ins q_k232 9 = some (.ldc2_w 312, 0, 13) from rfl) (v := (13 : Int64)) (by decide) ?_
  obtain ⟨a2, s3, hca2, h⟩ := zt_bdE h
  refine zt_callS (d := 1) zy_232 (show q_ins q_k232 12 = some (.invokestatic 170, 171, 3) from rfl) zy_171 (by decide) ⟨zq_lt (by decide), by decide⟩ rfl (by simp [Value.category]) (by simp [lg_sl, Value.category]) rfl (zt_dm (by decide) (S_M_in hca2)) ?_
  refine zt_iconst zy_232 (show q_ins q_k232 15 = some (.iconst 1, 0, 0) from rfl) ?_
  obtain ⟨a4, s5, hca4, h⟩ := zt_bdE h
  refine zt_callV (d := 1) zy_232 (show q_ins q_k232 16 = some (.invokevirtual 227, 174, 2) from rfl) zy_174 (by decide) ⟨zq_lt (by decide), by decide⟩ rfl (by simp [Value.category]) (by simp [lg_sl, Value.category]) (zt_rcv zc_163) (zt_dm (by decide) (S_M_fails hca4)) ?_
  obtain ⟨hg, h⟩ := zt_ckE h
  refine zt_if_eq zy_232 (show q_ins q_k232 19 = some (.ifCond .eq 5, 24, 0) from rfl) (hg) (fun hc => ?_) (fun hc => ?_)
  · rw [if_pos hc] at h
    refine zt_iload_n zy_232 (show q_ins q_k232 24 = some (.iload_n 1, 0, 0) from rfl) (v := Int32.ofInt v1) rfl ?_
    obtain ⟨hg, h⟩ := zt_ckE h
    by_cases hc0 : v1 = (0 : Int)
    · rw [if_pos hc0] at h
      refine zt_sw zy_232 (show q_ins q_k232 25 = some (.tableswitch 163 0 12 #[67, 74, 81, 88, 95, 103, 111, 118, 126, 134, 139, 147, 155], 0, 67) from rfl) hc0 (t := 92) (by decide) ?_
      refine zt_aload_n zy_232 (show q_ins q_k232 92 = some (.aload_n 0, 0, 0) from rfl) (v := 163) rfl ?_
      refine zt_getR zy_232 (show q_ins q_k232 93 = some (.getfield 13, 11, 1) from rfl) (r := 164) zk_163_1 ?_
      refine zt_iconst zy_232 (show q_ins q_k232 96 = some (.iconst 0, 0, 0) from rfl) ?_
      refine zt_ald zy_232 (show q_ins q_k232 97 = some (.iaload, 0, 0) from rfl) za_164 (by decide) (by decide) ?_
      cases h
      exact zt_iret zy_232 (show q_ins q_k232 98 = some (.ireturn, 0, 0) from rfl)
    rw [if_neg hc0] at h
    by_cases hc1 : v1 = (1 : Int)
    · rw [if_pos hc1] at h
      refine zt_sw zy_232 (show q_ins q_k232 25 = some (.tableswitch 163 0 12 #[67, 74, 81, 88, 95, 103, 111, 118, 126, 134, 139, 147, 155], 0, 67) from rfl) hc1 (t := 99) (by decide) ?_
      refine zt_aload_n zy_232 (show q_ins q_k232 99 = some (.aload_n 0, 0, 0) from rfl) (v := 163) rfl ?_
      refine zt_getR zy_232 (show q_ins q_k232 100 = some (.getfield 13, 11, 1) from rfl) (r := 164) zk_163_1 ?_
      refine zt_iconst zy_232 (show q_ins q_k232 103 = some (.iconst 1, 0, 0) from rfl) ?_
      refine zt_ald zy_232 (show q_ins q_k232 104 = some (.iaload, 0, 0) from rfl) za_164 (by decide) (by decide) ?_
      cases h
      exact zt_iret zy_232 (show q_ins q_k232 105 = some (.ireturn, 0, 0) from rfl)
    rw [if_neg hc1] at h
    by_cases hc2 : v1 = (2 : Int)
    · rw [if_pos hc2] at h
      refine zt_sw zy_232 (show q_ins q_k232 25 = some (.tableswitch 163 0 12 #[67, 74, 81, 88, 95, 103, 111, 118, 126, 134, 139, 147, 155], 0, 67) from rfl) hc2 (t := 106) (by decide) ?_
      refine zt_aload_n zy_232 (show q_ins q_k232 106 = some (.aload_n 0, 0, 0) from rfl) (v := 163) rfl ?_
      refine zt_getR zy_232 (show q_ins q_k232 107 = some (.getfield 13, 11, 1) from rfl) (r := 164) zk_163_1 ?_
      refine zt_iconst zy_232 (show q_ins q_k232 110 = some (.iconst 2, 0, 0) from rfl) ?_
      refine zt_ald zy_232 (show q_ins q_k232 111 = some (.iaload, 0, 0) from rfl) za_164 (by decide) (by decide) ?_
      cases h
      exact zt_iret zy_232 (show q_ins q_k232 112 = some (.ireturn, 0, 0) from rfl)
    rw [if_neg hc2] at h
    by_cases hc3 : v1 = (3 : Int)
    · rw [if_pos hc3] at h
      refine zt_sw zy_232 (show q_ins q_k232 25 = some (.tableswitch 163 0 12 #[67, 74, 81, 88, 95, 103, 111, 118, 126, 134, 139, 147, 155], 0, 67) from rfl) hc3 (t := 113) (by decide) ?_
      refine zt_aload_n zy_232 (show q_ins q_k232 113 = some (.aload_n 0, 0, 0) from rfl) (v := 163) rfl ?_
      refine zt_getR zy_232 (show q_ins q_k232 114 = some (.getfield 13, 11, 1) from rfl) (r := 164) zk_163_1 ?_
      refine zt_iconst zy_232 (show q_ins q_k232 117 = some (.iconst 3, 0, 0) from rfl) ?_
      refine zt_ald zy_232 (show q_ins q_k232 118 = some (.iaload, 0, 0) from rfl) za_164 (by decide) (by decide) ?_
      cases h
      exact zt_iret zy_232 (show q_ins q_k232 119 = some (.ireturn, 0, 0) from rfl)
    rw [if_neg hc3] at h
    by_cases hc4 : v1 = (4 : Int)
    · rw [if_pos hc4] at h
      refine zt_sw zy_232 (show q_ins q_k232 25 = some (.tableswitch 163 0 12 #[67, 74, 81, 88, 95, 103, 111, 118, 126, 134, 139, 147, 155], 0, 67) from rfl) hc4 (t := 120) (by decide) ?_
      refine zt_aload_n zy_232 (show q_ins q_k232 120 = some (.aload_n 0, 0, 0) from rfl) (v := 163) rfl ?_
      refine zt_getR zy_232 (show q_ins q_k232 121 = some (.getfield 13, 11, 1) from rfl) (r := 164) zk_163_1 ?_
      refine zt_bipush zy_232 (show q_ins q_k232 124 = some (.bipush 10, 0, 0) from rfl) (by decide) ?_
      refine zt_ald zy_232 (show q_ins q_k232 126 = some (.iaload, 0, 0) from rfl) za_164 (by decide) (by decide) ?_
      cases h
      exact zt_iret zy_232 (show q_ins q_k232 127 = some (.ireturn, 0, 0) from rfl)
    rw [if_neg hc4] at h
    by_cases hc5 : v1 = (5 : Int)
    · rw [if_pos hc5] at h
      refine zt_sw zy_232 (show q_ins q_k232 25 = some (.tableswitch 163 0 12 #[67, 74, 81, 88, 95, 103, 111, 118, 126, 134, 139, 147, 155], 0, 67) from rfl) hc5 (t := 128) (by decide) ?_
      refine zt_aload_n zy_232 (show q_ins q_k232 128 = some (.aload_n 0, 0, 0) from rfl) (v := 163) rfl ?_
      refine zt_getR zy_232 (show q_ins q_k232 129 = some (.getfield 13, 11, 1) from rfl) (r := 164) zk_163_1 ?_
      refine zt_bipush zy_232 (show q_ins q_k232 132 = some (.bipush 11, 0, 0) from rfl) (by decide) ?_
      refine zt_ald zy_232 (show q_ins q_k232 134 = some (.iaload, 0, 0) from rfl) za_164 (by decide) (by decide) ?_
      cases h
      exact zt_iret zy_232 (show q_ins q_k232 135 = some (.ireturn, 0, 0) from rfl)
    rw [if_neg hc5] at h
    by_cases hc6 : v1 = (6 : Int)
    · rw [if_pos hc6] at h
      refine zt_sw zy_232 (show q_ins q_k232 25 = some (.tableswitch 163 0 12 #[67, 74, 81, 88, 95, 103, 111, 118, 126, 134, 139, 147, 155], 0, 67) from rfl) hc6 (t := 136) (by decide) ?_
      refine zt_aload_n zy_232 (show q_ins q_k232 136 = some (.aload_n 0, 0, 0) from rfl) (v := 163) rfl ?_
      refine zt_getR zy_232 (show q_ins q_k232 137 = some (.getfield 13, 11, 1) from rfl) (r := 164) zk_163_1 ?_
      refine zt_iconst zy_232 (show q_ins q_k232 140 = some (.iconst 5, 0, 0) from rfl) ?_
      refine zt_ald zy_232 (show q_ins q_k232 141 = some (.iaload, 0, 0) from rfl) za_164 (by decide) (by decide) ?_
      cases h
      exact zt_iret zy_232 (show q_ins q_k232 142 = some (.ireturn, 0, 0) from rfl)
    rw [if_neg hc6] at h
    by_cases hc7 : v1 = (7 : Int)
    · rw [if_pos hc7] at h
      refine zt_sw zy_232 (show q_ins q_k232 25 = some (.tableswitch 163 0 12 #[67, 74, 81, 88, 95, 103, 111, 118, 126, 134, 139, 147, 155], 0, 67) from rfl) hc7 (t := 143) (by decide) ?_
      refine zt_aload_n zy_232 (show q_ins q_k232 143 = some (.aload_n 0, 0, 0) from rfl) (v := 163) rfl ?_
      refine zt_getR zy_232 (show q_ins q_k232 144 = some (.getfield 13, 11, 1) from rfl) (r := 164) zk_163_1 ?_
      refine zt_bipush zy_232 (show q_ins q_k232 147 = some (.bipush 6, 0, 0) from rfl) (by decide) ?_
      refine zt_ald zy_232 (show q_ins q_k232 149 = some (.iaload, 0, 0) from rfl) za_164 (by decide) (by decide) ?_
      cases h
      exact zt_iret zy_232 (show q_ins q_k232 150 = some (.ireturn, 0, 0) from rfl)
    rw [if_neg hc7] at h
    by_cases hc8 : v1 = (8 : Int)
    · rw [if_pos hc8] at h
      refine zt_sw zy_232 (show q_ins q_k232 25 = some (.tableswitch 163 0 12 #[67, 74, 81, 88, 95, 103, 111, 118, 126, 134, 139, 147, 155], 0, 67) from rfl) hc8 (t := 151) (by decide) ?_
      refine zt_aload_n zy_232 (show q_ins q_k232 151 = some (.aload_n 0, 0, 0) from rfl) (v := 163) rfl ?_
      refine zt_getR zy_232 (show q_ins q_k232 152 = some (.getfield 13, 11, 1) from rfl) (r := 164) zk_163_1 ?_
      refine zt_bipush zy_232 (show q_ins q_k232 155 = some (.bipush 7, 0, 0) from rfl) (by decide) ?_
      refine zt_ald zy_232 (show q_ins q_k232 157 = some (.iaload, 0, 0) from rfl) za_164 (by decide) (by decide) ?_
      cases h
      exact zt_iret zy_232 (show q_ins q_k232 158 = some (.ireturn, 0, 0) from rfl)
    rw [if_neg hc8] at h
    by_cases hc9 : v1 = (9 : Int)
    · rw [if_pos hc9] at h
      refine zt_sw zy_232 (show q_ins q_k232 25 = some (.tableswitch 163 0 12 #[67, 74, 81, 88, 95, 103, 111, 118, 126, 134, 139, 147, 155], 0, 67) from rfl) hc9 (t := 159) (by decide) ?_
      refine zt_aload_n zy_232 (show q_ins q_k232 159 = some (.aload_n 0, 0, 0) from rfl) (v := 163) rfl ?_
      obtain ⟨a6, s7, hca6, h⟩ := zt_bdE h
      refine zt_callV (d := 1) zy_232 (show q_ins q_k232 160 = some (.invokevirtual 288, 214, 0) from rfl) zy_214 (by decide) ⟨zq_lt (by decide), by decide⟩ rfl (by simp [Value.category]) (by simp [lg_sl, Value.category]) (zt_rcv zc_163) (zt_dm (by decide) (S_M_turn hca6)) ?_
      cases h
      exact zt_iret zy_232 (show q_ins q_k232 163 = some (.ireturn, 0, 0) from rfl)
    rw [if_neg hc9] at h
    by_cases hc10 : v1 = (10 : Int)
    · rw [if_pos hc10] at h
      refine zt_sw zy_232 (show q_ins q_k232 25 = some (.tableswitch 163 0 12 #[67, 74, 81, 88, 95, 103, 111, 118, 126, 134, 139, 147, 155], 0, 67) from rfl) hc10 (t := 164) (by decide) ?_
      refine zt_aload_n zy_232 (show q_ins q_k232 164 = some (.aload_n 0, 0, 0) from rfl) (v := 163) rfl ?_
      refine zt_getR zy_232 (show q_ins q_k232 165 = some (.getfield 13, 11, 1) from rfl) (r := 164) zk_163_1 ?_
      refine zt_bipush zy_232 (show q_ins q_k232 168 = some (.bipush 9, 0, 0) from rfl) (by decide) ?_
      refine zt_ald zy_232 (show q_ins q_k232 170 = some (.iaload, 0, 0) from rfl) za_164 (by decide) (by decide) ?_
      cases h
      exact zt_iret zy_232 (show q_ins q_k232 171 = some (.ireturn, 0, 0) from rfl)
    rw [if_neg hc10] at h
    by_cases hc11 : v1 = (11 : Int)
    · rw [if_pos hc11] at h
      refine zt_sw zy_232 (show q_ins q_k232 25 = some (.tableswitch 163 0 12 #[67, 74, 81, 88, 95, 103, 111, 118, 126, 134, 139, 147, 155], 0, 67) from rfl) hc11 (t := 172) (by decide) ?_
      refine zt_aload_n zy_232 (show q_ins q_k232 172 = some (.aload_n 0, 0, 0) from rfl) (v := 163) rfl ?_
      refine zt_getR zy_232 (show q_ins q_k232 173 = some (.getfield 13, 11, 1) from rfl) (r := 164) zk_163_1 ?_
      refine zt_bipush zy_232 (show q_ins q_k232 176 = some (.bipush 13, 0, 0) from rfl) (by decide) ?_
      refine zt_ald zy_232 (show q_ins q_k232 178 = some (.iaload, 0, 0) from rfl) za_164 (by decide) (by decide) ?_
      cases h
      exact zt_iret zy_232 (show q_ins q_k232 179 = some (.ireturn, 0, 0) from rfl)
    rw [if_neg hc11] at h
    by_cases hc12 : v1 = (12 : Int)
    · rw [if_pos hc12] at h
      refine zt_sw zy_232 (show q_ins q_k232 25 = some (.tableswitch 163 0 12 #[67, 74, 81, 88, 95, 103, 111, 118, 126, 134, 139, 147, 155], 0, 67) from rfl) hc12 (t := 180) (by decide) ?_
      refine zt_aload_n zy_232 (show q_ins q_k232 180 = some (.aload_n 0, 0, 0) from rfl) (v := 163) rfl ?_
      refine zt_getR zy_232 (show q_ins q_k232 181 = some (.getfield 13, 11, 1) from rfl) (r := 164) zk_163_1 ?_
      refine zt_bipush zy_232 (show q_ins q_k232 184 = some (.bipush 12, 0, 0) from rfl) (by decide) ?_
      refine zt_ald zy_232 (show q_ins q_k232 186 = some (.iaload, 0, 0) from rfl) za_164 (by decide) (by decide) ?_
      cases h
      exact zt_iret zy_232 (show q_ins q_k232 187 = some (.ireturn, 0, 0) from rfl)
    rw [if_neg hc12] at h
    refine zt_sw0 zy_232 (show q_ins q_k232 25 = some (.tableswitch 163 0 12 #[67, 74, 81, 88, 95, 103, 111, 118, 126, 134, 139, 147, 155], 0, 67) from rfl) (hg) (by omega) (t := 188) (by decide) ?_
    refine zt_aload_n zy_232 (show q_ins q_k232 188 = some (.aload_n 0, 0, 0) from rfl) (v := 163) rfl ?_
    refine zt_getR zy_232 (show q_ins q_k232 189 = some (.getfield 13, 11, 1) from rfl) (r := 164) zk_163_1 ?_
    refine zt_bipush zy_232 (show q_ins q_k232 192 = some (.bipush 14, 0, 0) from rfl) (by decide) ?_
    refine zt_ald zy_232 (show q_ins q_k232 194 = some (.iaload, 0, 0) from rfl) za_164 (by decide) (by decide) ?_
    cases h
    exact zt_iret zy_232 (show q_ins q_k232 195 = some (.ireturn, 0, 0) from rfl)
  · rw [if_neg hc] at h
    refine zt_iconst zy_232 (show q_ins q_k232 22 = some (.iconst 0, 0, 0) from rfl) ?_
    cases h
    exact zt_iret zy_232 (show q_ins q_k232 23 = some (.ireturn, 0, 0) from rfl)
