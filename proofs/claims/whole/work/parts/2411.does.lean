/-! the mini-machine does what the functions say (by program) -/
theorem S_M_share_49 {X : q_X}   : ∀ (x0 : UInt32) (σ : zt_S) (o : (UInt32 × zt_S)), F_M_share_49  x0 σ = some o → zt_Ex X 2 275 49 [] [.float x0] (zt_M σ) (zo_F o) := by
  intro x0 σ o  h
  unfold F_M_share_49 at h
  cases h
  exact zt_fret zy_275 (show q_ins q_k275 49 = some (.freturn, 0, 0) from rfl)
theorem S_M_share {X : q_X}   {v1 : Int} {σ : zt_S} {o : (UInt32 × zt_S)} (h : F_M_share  v1 σ = some o) : zt_Ex X 2 275 0 (lv_args 0 [.ref 163, .int (Int32.ofInt v1)]) [] (zt_M σ) (zo_F o) := by
  unfold F_M_share at h
  refine zt_aload_n zy_275 (show q_ins q_k275 0 = some (.aload_n 0, 0, 0) from rfl) (v := 163) rfl ?_
  refine zt_iconst zy_275 (show q_ins q_k275 1 = some (.iconst 0, 0, 0) from rfl) ?_
  obtain ⟨s1, hs1, h⟩ := zt_letE h
  refine zt_putI zy_275 (show q_ins q_k275 2 = some (.putfield 1, 11, 0) from rfl) (j := 0) zk_163_0 rfl rfl rfl ?_
  rw [← hs1]
  refine zt_aload_n zy_275 (show q_ins q_k275 5 = some (.aload_n 0, 0, 0) from rfl) (v := 163) rfl ?_
  refine zt_aload_n zy_275 (show q_ins q_k275 6 = some (.aload_n 0, 0, 0) from rfl) (v := 163) rfl ?_
  refine zt_iload_n zy_275 (show q_ins q_k275 7 = some (.iload_n 1, 0, 0) from rfl) (v := Int32.ofInt v1) rfl ?_
  obtain ⟨a2, s3, hca2, h⟩ := zt_bdE h
  refine zt_callV (d := 1) zy_275 (show q_ins q_k275 8 = some (.invokevirtual 319, 236, 1) from rfl) zy_236 (by decide) ⟨zq_lt (by decide), by decide⟩ rfl (by simp [Value.category]) (by simp [lg_sl, Value.category]) (zt_rcv zc_163) (zt_dm (by decide) (S_M_isPlayer hca2)) ?_
  refine zt_iconst zy_275 (show q_ins q_k275 11 = some (.iconst 1, 0, 0) from rfl) ?_
  obtain ⟨a4, s5, hca4, h⟩ := zt_bdE h
  refine zt_callV (d := 1) zy_275 (show q_ins q_k275 12 = some (.invokevirtual 227, 174, 2) from rfl) zy_174 (by decide) ⟨zq_lt (by decide), by decide⟩ rfl (by simp [Value.category]) (by simp [lg_sl, Value.category]) (zt_rcv zc_163) (zt_dm (by decide) (S_M_fails hca4)) ?_
  obtain ⟨hg, h⟩ := zt_ckE h
  refine zt_if_eq zy_275 (show q_ins q_k275 15 = some (.ifCond .eq 5, 20, 0) from rfl) (hg) (fun hc => ?_) (fun hc => ?_)
  · rw [if_pos hc] at h
    refine zt_aload_n zy_275 (show q_ins q_k275 20 = some (.aload_n 0, 0, 0) from rfl) (v := 163) rfl ?_
    refine zt_getR zy_275 (show q_ins q_k275 21 = some (.getfield 13, 11, 1) from rfl) (r := 164) zk_163_1 ?_
    refine zt_bipush zy_275 (show q_ins q_k275 24 = some (.bipush 13, 0, 0) from rfl) (by decide) ?_
    refine zt_ald zy_275 (show q_ins q_k275 26 = some (.iaload, 0, 0) from rfl) za_164 (by decide) (by decide) ?_
    obtain ⟨hg, h⟩ := zt_ckE h
    refine zt_if_ne zy_275 (show q_ins q_k275 27 = some (.ifCond .ne 7, 34, 0) from rfl) (hg) (fun hc => ?_) (fun hc => ?_)
    · rw [if_pos hc] at h
      refine zt_fconst0 zy_275 (show q_ins q_k275 30 = some (.fconst 0, 0, 0) from rfl) ?_
      refine zt_goto zy_275 (show q_ins q_k275 31 = some (.goto 18, 49, 0) from rfl) ?_
      exact zt_wk (zt_cov_nil) (S_M_share_49  _ _ _ h)
    · rw [if_neg hc] at h
      refine zt_aload_n zy_275 (show q_ins q_k275 34 = some (.aload_n 0, 0, 0) from rfl) (v := 163) rfl ?_
      refine zt_iload_n zy_275 (show q_ins q_k275 35 = some (.iload_n 1, 0, 0) from rfl) (v := Int32.ofInt v1) rfl ?_
      obtain ⟨a6, s7, hca6, h⟩ := zt_bdE h
      refine zt_callV (d := 1) zy_275 (show q_ins q_k275 36 = some (.invokevirtual 306, 229, 1) from rfl) zy_229 (by decide) ⟨zq_lt (by decide), by decide⟩ rfl (by simp [Value.category]) (by simp [lg_sl, Value.category]) (zt_rcv zc_163) (zt_dm (by decide) (S_M_tricksOf hca6)) ?_
      refine zt_i2f zy_275 (show q_ins q_k275 39 = some (.i2f, 0, 0) from rfl) ?_
      refine zt_aload_n zy_275 (show q_ins q_k275 40 = some (.aload_n 0, 0, 0) from rfl) (v := 163) rfl ?_
      refine zt_getR zy_275 (show q_ins q_k275 41 = some (.getfield 13, 11, 1) from rfl) (r := 164) zk_163_1 ?_
      refine zt_bipush zy_275 (show q_ins q_k275 44 = some (.bipush 13, 0, 0) from rfl) (by decide) ?_
      refine zt_ald zy_275 (show q_ins q_k275 46 = some (.iaload, 0, 0) from rfl) za_164 (by decide) (by decide) ?_
      refine zt_i2f zy_275 (show q_ins q_k275 47 = some (.i2f, 0, 0) from rfl) ?_
      obtain ⟨hg, h⟩ := zt_ckE h
      refine zt_fdiv zy_275 (show q_ins q_k275 48 = some (.fdiv, 0, 0) from rfl) hg ?_
      exact zt_wk (zt_cov_nil) (S_M_share_49  _ _ _ h)
  · rw [if_neg hc] at h
    refine zt_fconst0 zy_275 (show q_ins q_k275 18 = some (.fconst 0, 0, 0) from rfl) ?_
    cases h
    exact zt_fret zy_275 (show q_ins q_k275 19 = some (.freturn, 0, 0) from rfl)
theorem S_M_keeps_58 {X : q_X}   : ∀  (σ : zt_S) (o : (Unit × zt_S)), F_M_keeps_58   σ = some o → zt_Ex X 1 276 58 [(0, .ref 163)] [] (zt_M σ) (zo_V o) := by
  intro  σ o  h
  unfold F_M_keeps_58 at h
  refine zt_aload_n zy_276 (show q_ins q_k276 58 = some (.aload_n 0, 0, 0) from rfl) (v := 163) rfl ?_
  refine zt_getR zy_276 (show q_ins q_k276 59 = some (.getfield 13, 11, 1) from rfl) (r := 164) zk_163_1 ?_
  refine zt_iconst zy_276 (show q_ins q_k276 62 = some (.iconst 0, 0, 0) from rfl) ?_
  refine zt_aload_n zy_276 (show q_ins q_k276 63 = some (.aload_n 0, 0, 0) from rfl) (v := 163) rfl ?_
  refine zt_getR zy_276 (show q_ins q_k276 64 = some (.getfield 23, 11, 4) from rfl) (r := 167) zk_163_4 ?_
  refine zt_sipush zy_276 (show q_ins q_k276 67 = some (.sipush 274, 0, 0) from rfl) (by decide) ?_
  refine zt_aload_n zy_276 (show q_ins q_k276 70 = some (.aload_n 0, 0, 0) from rfl) (v := 163) rfl ?_
  refine zt_getI zy_276 (show q_ins q_k276 71 = some (.getfield 237, 11, 5) from rfl) (j := 5) zk_163_5 rfl ?_
  refine zt_imul zy_276 (show q_ins q_k276 74 = some (.imul, 0, 0) from rfl) ?_
  obtain ⟨a4, s5, hca4, h⟩ := zt_bdE h
  refine zt_callS (d := 0) zy_276 (show q_ins q_k276 75 = some (.invokestatic 86, 176, 4) from rfl) zy_176 (by decide) ⟨zq_lt (by decide), by decide⟩ rfl (by simp [Value.category]) (by simp [lg_sl, Value.category]) rfl (zt_dm (by decide) (S_M_copies za_164 (by decide) za_167 (by decide) hca4)) ?_
  refine zt_aload_n zy_276 (show q_ins q_k276 78 = some (.aload_n 0, 0, 0) from rfl) (v := 163) rfl ?_
  refine zt_dup zy_276 (show q_ins q_k276 79 = some (.dup, 0, 0) from rfl) rfl ?_
  refine zt_getI zy_276 (show q_ins q_k276 80 = some (.getfield 237, 11, 5) from rfl) (j := 5) zk_163_5 rfl ?_
  refine zt_iconst zy_276 (show q_ins q_k276 83 = some (.iconst 1, 0, 0) from rfl) ?_
  refine zt_iadd zy_276 (show q_ins q_k276 84 = some (.iadd, 0, 0) from rfl) ?_
  obtain ⟨s6, hs6, h⟩ := zt_letE h
  refine zt_putI zy_276 (show q_ins q_k276 85 = some (.putfield 237, 11, 5) from rfl) (j := 5) zk_163_5 rfl rfl rfl ?_
  rw [← hs6]
  cases h
  exact zt_ret zy_276 (show q_ins q_k276 88 = some (.return_, 0, 0) from rfl)
theorem S_M_keeps_21 {X : q_X}   : ∀ (n : Nat) (v1 : Int) (σ : zt_S) (o : (Unit × zt_S)), F_M_keeps_21  n v1 σ = some o → zt_Ex X 1 276 21 [(0, .ref 163), (1, .int (Int32.ofInt v1))] [] (zt_M σ) (zo_V o) := by
  intro n
  induction n with
  | zero => intro v1 σ o  h; cases h
  | succ n ih =>
  intro v1 σ o  h
  rw [F_M_keeps_21] at h
  refine zt_iload_n zy_276 (show q_ins q_k276 21 = some (.iload_n 1, 0, 0) from rfl) (v := Int32.ofInt v1) rfl ?_
  refine zt_aload_n zy_276 (show q_ins q_k276 22 = some (.aload_n 0, 0, 0) from rfl) (v := 163) rfl ?_
  refine zt_getI zy_276 (show q_ins q_k276 23 = some (.getfield 237, 11, 5) from rfl) (j := 5) zk_163_5 rfl ?_
  obtain ⟨hg, h⟩ := zt_ckE h
  refine zt_icmp_ge zy_276 (show q_ins q_k276 26 = some (.if_icmp .ge 32, 58, 0) from rfl) (⟨hg.1, hg.2⟩) (fun hc => ?_) (fun hc => ?_)
  · rw [if_pos hc] at h
    refine zt_aload_n zy_276 (show q_ins q_k276 29 = some (.aload_n 0, 0, 0) from rfl) (v := 163) rfl ?_
    refine zt_getR zy_276 (show q_ins q_k276 30 = some (.getfield 23, 11, 4) from rfl) (r := 167) zk_163_4 ?_
    refine zt_sipush zy_276 (show q_ins q_k276 33 = some (.sipush 274, 0, 0) from rfl) (by decide) ?_
    refine zt_iload_n zy_276 (show q_ins q_k276 36 = some (.iload_n 1, 0, 0) from rfl) (v := Int32.ofInt v1) rfl ?_
    refine zt_iconst zy_276 (show q_ins q_k276 37 = some (.iconst 1, 0, 0) from rfl) ?_
    refine zt_iadd zy_276 (show q_ins q_k276 38 = some (.iadd, 0, 0) from rfl) ?_
    refine zt_imul zy_276 (show q_ins q_k276 39 = some (.imul, 0, 0) from rfl) ?_
    refine zt_aload_n zy_276 (show q_ins q_k276 40 = some (.aload_n 0, 0, 0) from rfl) (v := 163) rfl ?_
    refine zt_getR zy_276 (show q_ins q_k276 41 = some (.getfield 23, 11, 4) from rfl) (r := 167) zk_163_4 ?_
    refine zt_sipush zy_276 (show q_ins q_k276 44 = some (.sipush 274, 0, 0) from rfl) (by decide) ?_
    refine zt_iload_n zy_276 (show q_ins q_k276 47 = some (.iload_n 1, 0, 0) from rfl) (v := Int32.ofInt v1) rfl ?_
    refine zt_imul zy_276 (show q_ins q_k276 48 = some (.imul, 0, 0) from rfl) ?_
    obtain ⟨a2, s3, hca2, h⟩ := zt_bdE h
    refine zt_callS (d := 0) zy_276 (show q_ins q_k276 49 = some (.invokestatic 86, 176, 4) from rfl) zy_176 (by decide) ⟨zq_lt (by decide), by decide⟩ rfl (by simp [Value.category]) (by simp [lg_sl, Value.category]) rfl (zt_dm (by decide) (S_M_copies za_167 (by decide) za_167 (by decide) hca2)) ?_
    refine zt_iinc zy_276 (show q_ins q_k276 52 = some (.iinc 1 1, 0, 0) from rfl) (v := v1) (by decide) rfl ?_
    refine zt_goto zy_276 (show q_ins q_k276 55 = some (.goto (-34), 21, 0) from rfl) ?_
    exact zt_wk (zt_cov_cons rfl (zt_cov_cons rfl (zt_cov_nil))) (ih _ _ _ h)
  · rw [if_neg hc] at h
    exact zt_wk (zt_cov_cons rfl (zt_cov_nil)) (S_M_keeps_58  _ _ h)
theorem S_M_keeps {X : q_X}    {σ : zt_S} {o : (Unit × zt_S)} (h : F_M_keeps   σ = some o) : zt_Ex X 1 276 0 (lv_args 0 [.ref 163]) [] (zt_M σ) (zo_V o) := by
  unfold F_M_keeps at h
  refine zt_aload_n zy_276 (show q_ins q_k276 0 = some (.aload_n 0, 0, 0) from rfl) (v := 163) rfl ?_
  refine zt_getI zy_276 (show q_ins q_k276 1 = some (.getfield 237, 11, 5) from rfl) (j := 5) zk_163_5 rfl ?_
  refine zt_bipush zy_276 (show q_ins q_k276 4 = some (.bipush 10, 0, 0) from rfl) (by decide) ?_
  obtain ⟨hg, h⟩ := zt_ckE h
  refine zt_icmp_ne zy_276 (show q_ins q_k276 6 = some (.if_icmp .ne 52, 58, 0) from rfl) (⟨hg, by decide⟩) (fun hc => ?_) (fun hc => ?_)
  · rw [if_pos hc] at h
    refine zt_aload_n zy_276 (show q_ins q_k276 9 = some (.aload_n 0, 0, 0) from rfl) (v := 163) rfl ?_
    refine zt_dup zy_276 (show q_ins q_k276 10 = some (.dup, 0, 0) from rfl) rfl ?_
    refine zt_getI zy_276 (show q_ins q_k276 11 = some (.getfield 237, 11, 5) from rfl) (j := 5) zk_163_5 rfl ?_
    refine zt_iconst zy_276 (show q_ins q_k276 14 = some (.iconst 1, 0, 0) from rfl) ?_
    refine zt_isub zy_276 (show q_ins q_k276 15 = some (.isub, 0, 0) from rfl) ?_
    obtain ⟨s1, hs1, h⟩ := zt_letE h
    refine zt_putI zy_276 (show q_ins q_k276 16 = some (.putfield 237, 11, 5) from rfl) (j := 5) zk_163_5 rfl rfl rfl ?_
    rw [← hs1]
    refine zt_iconst zy_276 (show q_ins q_k276 19 = some (.iconst 0, 0, 0) from rfl) ?_
    refine zt_istore_n zy_276 (show q_ins q_k276 20 = some (.istore_n 1, 0, 0) from rfl) (by decide) ?_
    exact zt_wk (zt_cov_cons rfl (zt_cov_cons rfl (zt_cov_nil))) (S_M_keeps_21  _ _ _ _ h)
  · rw [if_neg hc] at h
    exact zt_wk (zt_cov_cons rfl (zt_cov_nil)) (S_M_keeps_58  _ _ h)
theorem S_M_play_109 {X : q_X}   : ∀ (x0 : Int) (σ : zt_S) (o : (Int × zt_S)), F_M_play_109  x0 σ = some o → zt_Ex X 8 277 109 [] [.int (Int32.ofInt x0)] (zt_M σ) (zo_I o) := by
  intro x0 σ o  h
  unfold F_M_play_109 at h
  cases h
  exact zt_iret zy_277 (show q_ins q_k277 109 = some (.ireturn, 0, 0) from rfl)
theorem S_M_play {X : q_X}   {v1 : Int} {σ : zt_S} {o : (Int × zt_S)} (h : F_M_play  v1 σ = some o) : zt_Ex X 8 277 0 (lv_args 0 [.ref 163, .int (Int32.ofInt v1)]) [] (zt_M σ) (zo_I o) := by
  unfold F_M_play at h
  refine zt_aload_n zy_277 (show q_ins q_k277 0 = some (.aload_n 0, 0, 0) from rfl) (v := 163) rfl ?_
  refine zt_iconst zy_277 (show q_ins q_k277 1 = some (.iconst 0, 0, 0) from rfl) ?_
  obtain ⟨s1, hs1, h⟩ := zt_letE h
  refine zt_putI zy_277 (show q_ins q_k277 2 = some (.putfield 1, 11, 0) from rfl) (j := 0) zk_163_0 rfl rfl rfl ?_
  rw [← hs1]
  refine zt_aload_n zy_277 (show q_ins q_k277 5 = some (.aload_n 0, 0, 0) from rfl) (v := 163) rfl ?_
  refine zt_aload_n zy_277 (show q_ins q_k277 6 = some (.aload_n 0, 0, 0) from rfl) (v := 163) rfl ?_
  refine zt_iload_n zy_277 (show q_ins q_k277 7 = some (.iload_n 1, 0, 0) from rfl) (v := Int32.ofInt v1) rfl ?_
  obtain ⟨a2, s3, hca2, h⟩ := zt_bdE h
  refine zt_callV (d := 7) zy_277 (show q_ins q_k277 8 = some (.invokevirtual 314, 208, 1) from rfl) zy_208 (by decide) ⟨zq_lt (by decide), by decide⟩ rfl (by simp [Value.category]) (by simp [lg_sl, Value.category]) (zt_rcv zc_163) (zt_dm (by decide) (S_M_isCard hca2)) ?_
  refine zt_iconst zy_277 (show q_ins q_k277 11 = some (.iconst 1, 0, 0) from rfl) ?_
  obtain ⟨a4, s5, hca4, h⟩ := zt_bdE h
  refine zt_callV (d := 7) zy_277 (show q_ins q_k277 12 = some (.invokevirtual 227, 174, 2) from rfl) zy_174 (by decide) ⟨zq_lt (by decide), by decide⟩ rfl (by simp [Value.category]) (by simp [lg_sl, Value.category]) (zt_rcv zc_163) (zt_dm (by decide) (S_M_fails hca4)) ?_
  obtain ⟨hg, h⟩ := zt_ckE h
  refine zt_if_eq zy_277 (show q_ins q_k277 15 = some (.ifCond .eq 5, 20, 0) from rfl) (hg) (fun hc => ?_) (fun hc => ?_)
  · rw [if_pos hc] at h
    refine zt_aload_n zy_277 (show q_ins q_k277 20 = some (.aload_n 0, 0, 0) from rfl) (v := 163) rfl ?_
    obtain ⟨a6, s7, hca6, h⟩ := zt_bdE h
    refine zt_callV (d := 7) zy_277 (show q_ins q_k277 21 = some (.invokevirtual 248, 211, 0) from rfl) zy_211 (by decide) ⟨zq_lt (by decide), by decide⟩ rfl (by simp [Value.category]) (by simp [lg_sl, Value.category]) (zt_rcv zc_163) (zt_dm (by decide) (S_M_isOver hca6)) ?_
    obtain ⟨hg, h⟩ := zt_ckE h
    refine zt_if_eq zy_277 (show q_ins q_k277 24 = some (.ifCond .eq 6, 30, 0) from rfl) (hg) (fun hc => ?_) (fun hc => ?_)
    · rw [if_pos hc] at h
      refine zt_aload_n zy_277 (show q_ins q_k277 30 = some (.aload_n 0, 0, 0) from rfl) (v := 163) rfl ?_
      refine zt_iload_n zy_277 (show q_ins q_k277 31 = some (.iload_n 1, 0, 0) from rfl) (v := Int32.ofInt v1) rfl ?_
      obtain ⟨a8, s9, hca8, h⟩ := zt_bdE h
      refine zt_callV (d := 7) zy_277 (show q_ins q_k277 32 = some (.invokevirtual 275, 220, 1) from rfl) zy_220 (by decide) ⟨zq_lt (by decide), by decide⟩ rfl (by simp [Value.category]) (by simp [lg_sl, Value.category]) (zt_rcv zc_163) (zt_dm (by decide) (S_M_holderOf hca8)) ?_
      refine zt_aload_n zy_277 (show q_ins q_k277 35 = some (.aload_n 0, 0, 0) from rfl) (v := 163) rfl ?_
      obtain ⟨a10, s11, hca10, h⟩ := zt_bdE h
      refine zt_callV (d := 7) zy_277 (show q_ins q_k277 36 = some (.invokevirtual 288, 214, 0) from rfl) zy_214 (by decide) ⟨zq_lt (by decide), by decide⟩ rfl (by simp [Value.category]) (by simp [lg_sl, Value.category]) (zt_rcv zc_163) (zt_dm (by decide) (S_M_turn hca10)) ?_
      obtain ⟨hg, h⟩ := zt_ckE h
      refine zt_icmp_eq zy_277 (show q_ins q_k277 39 = some (.if_icmp .eq 6, 45, 0) from rfl) (⟨hg.1, hg.2⟩) (fun hc => ?_) (fun hc => ?_)
      · rw [if_pos hc] at h
        refine zt_aload_n zy_277 (show q_ins q_k277 45 = some (.aload_n 0, 0, 0) from rfl) (v := 163) rfl ?_
        refine zt_iload_n zy_277 (show q_ins q_k277 46 = some (.iload_n 1, 0, 0) from rfl) (v := Int32.ofInt v1) rfl ?_
        obtain ⟨a12, s13, hca12, h⟩ := zt_bdE h
        refine zt_callV (d := 7) zy_277 (show q_ins q_k277 47 = some (.invokevirtual 325, 224, 1) from rfl) zy_224 (by decide) ⟨zq_lt (by decide), by decide⟩ rfl (by simp [Value.category]) (by simp [lg_sl, Value.category]) (zt_rcv zc_163) (zt_dm (by decide) (S_M_isLegalNow hca12)) ?_
        obtain ⟨hg, h⟩ := zt_ckE h
        refine zt_if_ne zy_277 (show q_ins q_k277 50 = some (.ifCond .ne 6, 56, 0) from rfl) (hg) (fun hc => ?_) (fun hc => ?_)
        · rw [if_pos hc] at h
          refine zt_bipush zy_277 (show q_ins q_k277 53 = some (.bipush (-4), 0, 0) from rfl) (by decide) ?_
          cases h
          exact zt_iret zy_277 (show q_ins q_k277 55 = some (.ireturn, 0, 0) from rfl)
        · rw [if_neg hc] at h
          refine zt_aload_n zy_277 (show q_ins q_k277 56 = some (.aload_n 0, 0, 0) from rfl) (v := 163) rfl ?_
          obtain ⟨a14, s15, hca14, h⟩ := zt_bdE h
          refine zt_callV (d := 7) zy_277 (show q_ins q_k277 57 = some (.invokevirtual 374, 276, 0) from rfl) zy_276 (by decide) ⟨zq_lt (by decide), by decide⟩ rfl (by simp [Value.category]) (by simp [lg_sl, Value.category]) (zt_rcv zc_163) (zt_dm (by decide) (S_M_keeps hca14)) ?_
          refine zt_aload_n zy_277 (show q_ins q_k277 60 = some (.aload_n 0, 0, 0) from rfl) (v := 163) rfl ?_
          refine zt_getR zy_277 (show q_ins q_k277 61 = some (.getfield 13, 11, 1) from rfl) (r := 164) zk_163_1 ?_
          refine zt_bipush zy_277 (show q_ins q_k277 64 = some (.bipush 13, 0, 0) from rfl) (by decide) ?_
          refine zt_ald zy_277 (show q_ins q_k277 66 = some (.iaload, 0, 0) from rfl) za_164 (by decide) (by decide) ?_
          refine zt_istore_n zy_277 (show q_ins q_k277 67 = some (.istore_n 2, 0, 0) from rfl) (by decide) ?_
          refine zt_aload_n zy_277 (show q_ins q_k277 68 = some (.aload_n 0, 0, 0) from rfl) (v := 163) rfl ?_
          refine zt_iload_n zy_277 (show q_ins q_k277 69 = some (.iload_n 1, 0, 0) from rfl) (v := Int32.ofInt v1) rfl ?_
          obtain ⟨a16, s17, hca16, h⟩ := zt_bdE h
          refine zt_callV (d := 7) zy_277 (show q_ins q_k277 70 = some (.invokevirtual 377, 228, 1) from rfl) zy_228 (by decide) ⟨zq_lt (by decide), by decide⟩ rfl (by simp [Value.category]) (by simp [lg_sl, Value.category]) (zt_rcv zc_163) (zt_dm (by decide) (S_M_plays hca16)) ?_
          refine zt_aload_n zy_277 (show q_ins q_k277 73 = some (.aload_n 0, 0, 0) from rfl) (v := 163) rfl ?_
          obtain ⟨a18, s19, hca18, h⟩ := zt_bdE h
          refine zt_callV (d := 7) zy_277 (show q_ins q_k277 74 = some (.invokevirtual 380, 231, 0) from rfl) zy_231 (by decide) ⟨zq_lt (by decide), by decide⟩ rfl (by simp [Value.category]) (by simp [lg_sl, Value.category]) (zt_rcv zc_163) (zt_dm (by decide) (S_M_counts hca18)) ?_
          refine zt_aload_n zy_277 (show q_ins q_k277 77 = some (.aload_n 0, 0, 0) from rfl) (v := 163) rfl ?_
          refine zt_getR zy_277 (show q_ins q_k277 78 = some (.getfield 13, 11, 1) from rfl) (r := 164) zk_163_1 ?_
          refine zt_bipush zy_277 (show q_ins q_k277 81 = some (.bipush 13, 0, 0) from rfl) (by decide) ?_
          refine zt_ald zy_277 (show q_ins q_k277 83 = some (.iaload, 0, 0) from rfl) za_164 (by decide) (by decide) ?_
          refine zt_iload_n zy_277 (show q_ins q_k277 84 = some (.iload_n 2, 0, 0) from rfl) (v := Int32.ofInt (s15.1 164 (13 : Int))) rfl ?_
          obtain ⟨hg, h⟩ := zt_ckE h
          refine zt_icmp_le zy_277 (show q_ins q_k277 85 = some (.if_icmp .le 13, 98, 0) from rfl) (⟨hg.1, hg.2⟩) (fun hc => ?_) (fun hc => ?_)
          · rw [if_pos hc] at h
            refine zt_aload_n zy_277 (show q_ins q_k277 88 = some (.aload_n 0, 0, 0) from rfl) (v := 163) rfl ?_
            refine zt_getR zy_277 (show q_ins q_k277 89 = some (.getfield 13, 11, 1) from rfl) (r := 164) zk_163_1 ?_
            refine zt_bipush zy_277 (show q_ins q_k277 92 = some (.bipush 9, 0, 0) from rfl) (by decide) ?_
            refine zt_ald zy_277 (show q_ins q_k277 94 = some (.iaload, 0, 0) from rfl) za_164 (by decide) (by decide) ?_
            refine zt_goto zy_277 (show q_ins q_k277 95 = some (.goto 14, 109, 0) from rfl) ?_
            exact zt_wk (zt_cov_nil) (S_M_play_109  _ _ _ h)
          · rw [if_neg hc] at h
            refine zt_aload_n zy_277 (show q_ins q_k277 98 = some (.aload_n 0, 0, 0) from rfl) (v := 163) rfl ?_
            refine zt_getR zy_277 (show q_ins q_k277 99 = some (.getfield 13, 11, 1) from rfl) (r := 164) zk_163_1 ?_
            refine zt_iconst zy_277 (show q_ins q_k277 102 = some (.iconst 1, 0, 0) from rfl) ?_
            refine zt_ald zy_277 (show q_ins q_k277 103 = some (.iaload, 0, 0) from rfl) za_164 (by decide) (by decide) ?_
            refine zt_aload_n zy_277 (show q_ins q_k277 104 = some (.aload_n 0, 0, 0) from rfl) (v := 163) rfl ?_
            obtain ⟨a20, s21, hca20, h⟩ := zt_bdE h
            refine zt_callV (d := 7) zy_277 (show q_ins q_k277 105 = some (.invokevirtual 288, 214, 0) from rfl) zy_214 (by decide) ⟨zq_lt (by decide), by decide⟩ rfl (by simp [Value.category]) (by simp [lg_sl, Value.category]) (zt_rcv zc_163) (zt_dm (by decide) (S_M_turn hca20)) ?_
            refine zt_iadd zy_277 (show q_ins q_k277 108 = some (.iadd, 0, 0) from rfl) ?_
            exact zt_wk (zt_cov_nil) (S_M_play_109  _ _ _ h)
      · rw [if_neg hc] at h
        refine zt_bipush zy_277 (show q_ins q_k277 42 = some (.bipush (-3), 0, 0) from rfl) (by decide) ?_
        cases h
        exact zt_iret zy_277 (show q_ins q_k277 44 = some (.ireturn, 0, 0) from rfl)
    · rw [if_neg hc] at h
      refine zt_bipush zy_277 (show q_ins q_k277 27 = some (.bipush (-2), 0, 0) from rfl) (by decide) ?_
      cases h
      exact zt_iret zy_277 (show q_ins q_k277 29 = some (.ireturn, 0, 0) from rfl)
  · rw [if_neg hc] at h
    refine zt_iconst zy_277 (show q_ins q_k277 18 = some (.iconst 0, 0, 0) from rfl) ?_
    cases h
    exact zt_iret zy_277 (show q_ins q_k277 19 = some (.ireturn, 0, 0) from rfl)
theorem S_M_autoLead_46 {X : q_X}   {r9 : Int → Int → Int → zt_S → Option (Int × zt_S)} (hr9 : ∀ (v1 : Int) (v2 : Int) (v3 : Int) (σ : zt_S) (o : (Int × zt_S)), r9 v1 v2 v3 σ = some o → zt_Ex X 3 278 9 [(0, .ref 163), (1, .int (Int32.ofInt v1)), (2, .int (Int32.ofInt v2)), (3, .int (Int32.ofInt v3))] [] (zt_M σ) (zo_I o)) : ∀ (v1 : Int) (v2 : Int) (v3 : Int) (σ : zt_S) (o : (Int × zt_S)), F_M_autoLead_46  r9 v1 v2 v3 σ = some o → zt_Ex X 3 278 46 [(0, .ref 163), (1, .int (Int32.ofInt v1)), (2, .int (Int32.ofInt v2)), (3, .int (Int32.ofInt v3))] [] (zt_M σ) (zo_I o) := by
  intro v1 v2 v3 σ o  h
  unfold F_M_autoLead_46 at h
  refine zt_iinc zy_278 (show q_ins q_k278 46 = some (.iinc 3 1, 0, 0) from rfl) (v := v3) (by decide) rfl ?_
  refine zt_goto zy_278 (show q_ins q_k278 49 = some (.goto (-40), 9, 0) from rfl) ?_
  exact zt_wk (zt_cov_cons rfl (zt_cov_cons rfl (zt_cov_cons rfl (zt_cov_cons rfl (zt_cov_nil))))) (hr9 _ _ _ _ _ h)
theorem S_M_autoLead_44 {X : q_X}   {r9 : Int → Int → Int → zt_S → Option (Int × zt_S)} (hr9 : ∀ (v1 : Int) (v2 : Int) (v3 : Int) (σ : zt_S) (o : (Int × zt_S)), r9 v1 v2 v3 σ = some o → zt_Ex X 3 278 9 [(0, .ref 163), (1, .int (Int32.ofInt v1)), (2, .int (Int32.ofInt v2)), (3, .int (Int32.ofInt v3))] [] (zt_M σ) (zo_I o)) : ∀ (v1 : Int) (v3 : Int) (σ : zt_S) (o : (Int × zt_S)), F_M_autoLead_44  r9 v1 v3 σ = some o → zt_Ex X 3 278 44 [(0, .ref 163), (1, .int (Int32.ofInt v1)), (3, .int (Int32.ofInt v3))] [] (zt_M σ) (zo_I o) := by
  intro v1 v3 σ o  h
  unfold F_M_autoLead_44 at h
  refine zt_iload_n zy_278 (show q_ins q_k278 44 = some (.iload_n 3, 0, 0) from rfl) (v := Int32.ofInt v3) rfl ?_
  refine zt_istore_n zy_278 (show q_ins q_k278 45 = some (.istore_n 2, 0, 0) from rfl) (by decide) ?_
  exact zt_wk (zt_cov_cons rfl (zt_cov_cons rfl (zt_cov_cons rfl (zt_cov_cons rfl (zt_cov_nil))))) (S_M_autoLead_46  hr9 _ _ _ _ _ h)
theorem S_M_autoLead_9 {X : q_X}   : ∀ (n : Nat) (v1 : Int) (v2 : Int) (v3 : Int) (σ : zt_S) (o : (Int × zt_S)), F_M_autoLead_9  n v1 v2 v3 σ = some o → zt_Ex X 3 278 9 [(0, .ref 163), (1, .int (Int32.ofInt v1)), (2, .int (Int32.ofInt v2)), (3, .int (Int32.ofInt v3))] [] (zt_M σ) (zo_I o) := by
  intro n
  induction n with
  | zero => intro v1 v2 v3 σ o  h; cases h
  | succ n ih =>
  intro v1 v2 v3 σ o  h
  rw [F_M_autoLead_9] at h
  refine zt_iload_n zy_278 (show q_ins q_k278 9 = some (.iload_n 3, 0, 0) from rfl) (v := Int32.ofInt v3) rfl ?_
  refine zt_aload_n zy_278 (show q_ins q_k278 10 = some (.aload_n 0, 0, 0) from rfl) (v := 163) rfl ?_
  obtain ⟨a3, s4, hca3, h⟩ := zt_bdE h
  refine zt_callV (d := 2) zy_278 (show q_ins q_k278 11 = some (.invokevirtual 244, 207, 0) from rfl) zy_207 (by decide) ⟨zq_lt (by decide), by decide⟩ rfl (by simp [Value.category]) (by simp [lg_sl, Value.category]) (zt_rcv zc_163) (zt_dm (by decide) (S_M_cards hca3)) ?_
  obtain ⟨hg, h⟩ := zt_ckE h
  refine zt_icmp_ge zy_278 (show q_ins q_k278 14 = some (.if_icmp .ge 38, 52, 0) from rfl) (⟨hg.1, hg.2⟩) (fun hc => ?_) (fun hc => ?_)
  · rw [if_pos hc] at h
    refine zt_aload_n zy_278 (show q_ins q_k278 17 = some (.aload_n 0, 0, 0) from rfl) (v := 163) rfl ?_
    refine zt_iload_n zy_278 (show q_ins q_k278 18 = some (.iload_n 3, 0, 0) from rfl) (v := Int32.ofInt v3) rfl ?_
    obtain ⟨a5, s6, hca5, h⟩ := zt_bdE h
    refine zt_callV (d := 2) zy_278 (show q_ins q_k278 19 = some (.invokevirtual 275, 220, 1) from rfl) zy_220 (by decide) ⟨zq_lt (by decide), by decide⟩ rfl (by simp [Value.category]) (by simp [lg_sl, Value.category]) (zt_rcv zc_163) (zt_dm (by decide) (S_M_holderOf hca5)) ?_
    refine zt_iload_n zy_278 (show q_ins q_k278 22 = some (.iload_n 1, 0, 0) from rfl) (v := Int32.ofInt v1) rfl ?_
    obtain ⟨hg, h⟩ := zt_ckE h
    refine zt_icmp_ne zy_278 (show q_ins q_k278 23 = some (.if_icmp .ne 23, 46, 0) from rfl) (⟨hg.1, hg.2⟩) (fun hc => ?_) (fun hc => ?_)
    · rw [if_pos hc] at h
      refine zt_iload_n zy_278 (show q_ins q_k278 26 = some (.iload_n 2, 0, 0) from rfl) (v := Int32.ofInt v2) rfl ?_
      refine zt_iconst zy_278 (show q_ins q_k278 27 = some (.iconst (-1), 0, 0) from rfl) ?_
      obtain ⟨hg, h⟩ := zt_ckE h
      refine zt_icmp_eq zy_278 (show q_ins q_k278 28 = some (.if_icmp .eq 16, 44, 0) from rfl) (⟨hg, by decide⟩) (fun hc => ?_) (fun hc => ?_)
      · rw [if_pos hc] at h
        exact zt_wk (zt_cov_cons rfl (zt_cov_cons rfl (zt_cov_cons rfl (zt_cov_nil)))) (S_M_autoLead_44  ih _ _ _ _ h)
      · rw [if_neg hc] at h
        refine zt_aload_n zy_278 (show q_ins q_k278 31 = some (.aload_n 0, 0, 0) from rfl) (v := 163) rfl ?_
        refine zt_iload_n zy_278 (show q_ins q_k278 32 = some (.iload_n 3, 0, 0) from rfl) (v := Int32.ofInt v3) rfl ?_
        obtain ⟨a7, s8, hca7, h⟩ := zt_bdE h
        refine zt_callV (d := 2) zy_278 (show q_ins q_k278 33 = some (.invokevirtual 269, 217, 1) from rfl) zy_217 (by decide) ⟨zq_lt (by decide), by decide⟩ rfl (by simp [Value.category]) (by simp [lg_sl, Value.category]) (zt_rcv zc_163) (zt_dm (by decide) (S_M_powerNow hca7)) ?_
        refine zt_aload_n zy_278 (show q_ins q_k278 36 = some (.aload_n 0, 0, 0) from rfl) (v := 163) rfl ?_
        refine zt_iload_n zy_278 (show q_ins q_k278 37 = some (.iload_n 2, 0, 0) from rfl) (v := Int32.ofInt v2) rfl ?_
        obtain ⟨a9, s10, hca9, h⟩ := zt_bdE h
        refine zt_callV (d := 2) zy_278 (show q_ins q_k278 38 = some (.invokevirtual 269, 217, 1) from rfl) zy_217 (by decide) ⟨zq_lt (by decide), by decide⟩ rfl (by simp [Value.category]) (by simp [lg_sl, Value.category]) (zt_rcv zc_163) (zt_dm (by decide) (S_M_powerNow hca9)) ?_
        obtain ⟨hg, h⟩ := zt_ckE h
        refine zt_icmp_le zy_278 (show q_ins q_k278 41 = some (.if_icmp .le 5, 46, 0) from rfl) (⟨hg.1, hg.2⟩) (fun hc => ?_) (fun hc => ?_)
        · rw [if_pos hc] at h
          exact zt_wk (zt_cov_cons rfl (zt_cov_cons rfl (zt_cov_cons rfl (zt_cov_nil)))) (S_M_autoLead_44  ih _ _ _ _ h)
        · rw [if_neg hc] at h
          exact zt_wk (zt_cov_cons rfl (zt_cov_cons rfl (zt_cov_cons rfl (zt_cov_cons rfl (zt_cov_nil))))) (S_M_autoLead_46  ih _ _ _ _ _ h)
    · rw [if_neg hc] at h
      exact zt_wk (zt_cov_cons rfl (zt_cov_cons rfl (zt_cov_cons rfl (zt_cov_cons rfl (zt_cov_nil))))) (S_M_autoLead_46  ih _ _ _ _ _ h)
  · rw [if_neg hc] at h
    refine zt_iload_n zy_278 (show q_ins q_k278 52 = some (.iload_n 2, 0, 0) from rfl) (v := Int32.ofInt v2) rfl ?_
    cases h
    exact zt_iret zy_278 (show q_ins q_k278 53 = some (.ireturn, 0, 0) from rfl)
theorem S_M_autoLead {X : q_X}    {σ : zt_S} {o : (Int × zt_S)} (h : F_M_autoLead   σ = some o) : zt_Ex X 3 278 0 (lv_args 0 [.ref 163]) [] (zt_M σ) (zo_I o) := by
  unfold F_M_autoLead at h
  refine zt_aload_n zy_278 (show q_ins q_k278 0 = some (.aload_n 0, 0, 0) from rfl) (v := 163) rfl ?_
  obtain ⟨a1, s2, hca1, h⟩ := zt_bdE h
  refine zt_callV (d := 2) zy_278 (show q_ins q_k278 1 = some (.invokevirtual 288, 214, 0) from rfl) zy_214 (by decide) ⟨zq_lt (by decide), by decide⟩ rfl (by simp [Value.category]) (by simp [lg_sl, Value.category]) (zt_rcv zc_163) (zt_dm (by decide) (S_M_turn hca1)) ?_
  refine zt_istore_n zy_278 (show q_ins q_k278 4 = some (.istore_n 1, 0, 0) from rfl) (by decide) ?_
  refine zt_iconst zy_278 (show q_ins q_k278 5 = some (.iconst (-1), 0, 0) from rfl) ?_
  refine zt_istore_n zy_278 (show q_ins q_k278 6 = some (.istore_n 2, 0, 0) from rfl) (by decide) ?_
  refine zt_iconst zy_278 (show q_ins q_k278 7 = some (.iconst 0, 0, 0) from rfl) ?_
  refine zt_istore_n zy_278 (show q_ins q_k278 8 = some (.istore_n 3, 0, 0) from rfl) (by decide) ?_
  exact zt_wk (zt_cov_cons rfl (zt_cov_cons rfl (zt_cov_cons rfl (zt_cov_cons rfl (zt_cov_nil))))) (S_M_autoLead_9  _ _ _ _ _ _ h)
theorem S_M_autoFollow_48 {X : q_X}   {r4 : Int → Int → zt_S → Option (Int × zt_S)} (hr4 : ∀ (v1 : Int) (v2 : Int) (σ : zt_S) (o : (Int × zt_S)), r4 v1 v2 σ = some o → zt_Ex X 8 279 4 [(0, .ref 163), (1, .int (Int32.ofInt v1)), (2, .int (Int32.ofInt v2))] [] (zt_M σ) (zo_I o)) : ∀ (v1 : Int) (v2 : Int) (σ : zt_S) (o : (Int × zt_S)), F_M_autoFollow_48  r4 v1 v2 σ = some o → zt_Ex X 8 279 48 [(0, .ref 163), (1, .int (Int32.ofInt v1)), (2, .int (Int32.ofInt v2))] [] (zt_M σ) (zo_I o) := by
  intro v1 v2 σ o  h
  unfold F_M_autoFollow_48 at h
  refine zt_iinc zy_279 (show q_ins q_k279 48 = some (.iinc 2 1, 0, 0) from rfl) (v := v2) (by decide) rfl ?_
  refine zt_goto zy_279 (show q_ins q_k279 51 = some (.goto (-47), 4, 0) from rfl) ?_
  exact zt_wk (zt_cov_cons rfl (zt_cov_cons rfl (zt_cov_cons rfl (zt_cov_nil)))) (hr4 _ _ _ _ h)
theorem S_M_autoFollow_46 {X : q_X}   {r4 : Int → Int → zt_S → Option (Int × zt_S)} (hr4 : ∀ (v1 : Int) (v2 : Int) (σ : zt_S) (o : (Int × zt_S)), r4 v1 v2 σ = some o → zt_Ex X 8 279 4 [(0, .ref 163), (1, .int (Int32.ofInt v1)), (2, .int (Int32.ofInt v2))] [] (zt_M σ) (zo_I o)) : ∀ (v2 : Int) (σ : zt_S) (o : (Int × zt_S)), F_M_autoFollow_46  r4 v2 σ = some o → zt_Ex X 8 279 46 [(0, .ref 163), (2, .int (Int32.ofInt v2))] [] (zt_M σ) (zo_I o) := by
  intro v2 σ o  h
  unfold F_M_autoFollow_46 at h
  refine zt_iload_n zy_279 (show q_ins q_k279 46 = some (.iload_n 2, 0, 0) from rfl) (v := Int32.ofInt v2) rfl ?_
  refine zt_istore_n zy_279 (show q_ins q_k279 47 = some (.istore_n 1, 0, 0) from rfl) (by decide) ?_
  exact zt_wk (zt_cov_cons rfl (zt_cov_cons rfl (zt_cov_cons rfl (zt_cov_nil)))) (S_M_autoFollow_48  hr4 _ _ _ _ h)
theorem S_M_autoFollow_99 {X : q_X}   {r63 : Int → Int → zt_S → Option (Int × zt_S)} (hr63 : ∀ (v1 : Int) (v2 : Int) (σ : zt_S) (o : (Int × zt_S)), r63 v1 v2 σ = some o → zt_Ex X 8 279 63 [(0, .ref 163), (1, .int (Int32.ofInt v1)), (2, .int (Int32.ofInt v2))] [] (zt_M σ) (zo_I o)) : ∀ (v1 : Int) (v2 : Int) (σ : zt_S) (o : (Int × zt_S)), F_M_autoFollow_99  r63 v1 v2 σ = some o → zt_Ex X 8 279 99 [(0, .ref 163), (1, .int (Int32.ofInt v1)), (2, .int (Int32.ofInt v2))] [] (zt_M σ) (zo_I o) := by
  intro v1 v2 σ o  h
  unfold F_M_autoFollow_99 at h
  refine zt_iinc zy_279 (show q_ins q_k279 99 = some (.iinc 2 1, 0, 0) from rfl) (v := v2) (by decide) rfl ?_
  refine zt_goto zy_279 (show q_ins q_k279 102 = some (.goto (-39), 63, 0) from rfl) ?_
  exact zt_wk (zt_cov_cons rfl (zt_cov_cons rfl (zt_cov_cons rfl (zt_cov_nil)))) (hr63 _ _ _ _ h)
theorem S_M_autoFollow_97 {X : q_X}   {r63 : Int → Int → zt_S → Option (Int × zt_S)} (hr63 : ∀ (v1 : Int) (v2 : Int) (σ : zt_S) (o : (Int × zt_S)), r63 v1 v2 σ = some o → zt_Ex X 8 279 63 [(0, .ref 163), (1, .int (Int32.ofInt v1)), (2, .int (Int32.ofInt v2))] [] (zt_M σ) (zo_I o)) : ∀ (v2 : Int) (σ : zt_S) (o : (Int × zt_S)), F_M_autoFollow_97  r63 v2 σ = some o → zt_Ex X 8 279 97 [(0, .ref 163), (2, .int (Int32.ofInt v2))] [] (zt_M σ) (zo_I o) := by
  intro v2 σ o  h
  unfold F_M_autoFollow_97 at h
  refine zt_iload_n zy_279 (show q_ins q_k279 97 = some (.iload_n 2, 0, 0) from rfl) (v := Int32.ofInt v2) rfl ?_
  refine zt_istore_n zy_279 (show q_ins q_k279 98 = some (.istore_n 1, 0, 0) from rfl) (by decide) ?_
  exact zt_wk (zt_cov_cons rfl (zt_cov_cons rfl (zt_cov_cons rfl (zt_cov_nil)))) (S_M_autoFollow_99  hr63 _ _ _ _ h)
theorem S_M_autoFollow_63 {X : q_X}   : ∀ (n : Nat) (v1 : Int) (v2 : Int) (σ : zt_S) (o : (Int × zt_S)), F_M_autoFollow_63  n v1 v2 σ = some o → zt_Ex X 8 279 63 [(0, .ref 163), (1, .int (Int32.ofInt v1)), (2, .int (Int32.ofInt v2))] [] (zt_M σ) (zo_I o) := by
  intro n
  induction n with
  | zero => intro v1 v2 σ o  h; cases h
  | succ n ih =>
  intro v1 v2 σ o  h
  rw [F_M_autoFollow_63] at h
  refine zt_iload_n zy_279 (show q_ins q_k279 63 = some (.iload_n 2, 0, 0) from rfl) (v := Int32.ofInt v2) rfl ?_
  refine zt_aload_n zy_279 (show q_ins q_k279 64 = some (.aload_n 0, 0, 0) from rfl) (v := 163) rfl ?_
  obtain ⟨a11, s12, hca11, h⟩ := zt_bdE h
  refine zt_callV (d := 7) zy_279 (show q_ins q_k279 65 = some (.invokevirtual 244, 207, 0) from rfl) zy_207 (by decide) ⟨zq_lt (by decide), by decide⟩ rfl (by simp [Value.category]) (by simp [lg_sl, Value.category]) (zt_rcv zc_163) (zt_dm (by decide) (S_M_cards hca11)) ?_
  obtain ⟨hg, h⟩ := zt_ckE h
  refine zt_icmp_ge zy_279 (show q_ins q_k279 68 = some (.if_icmp .ge 37, 105, 0) from rfl) (⟨hg.1, hg.2⟩) (fun hc => ?_) (fun hc => ?_)
  · rw [if_pos hc] at h
    refine zt_aload_n zy_279 (show q_ins q_k279 71 = some (.aload_n 0, 0, 0) from rfl) (v := 163) rfl ?_
    refine zt_iload_n zy_279 (show q_ins q_k279 72 = some (.iload_n 2, 0, 0) from rfl) (v := Int32.ofInt v2) rfl ?_
    obtain ⟨a13, s14, hca13, h⟩ := zt_bdE h
    refine zt_callV (d := 7) zy_279 (show q_ins q_k279 73 = some (.invokevirtual 325, 224, 1) from rfl) zy_224 (by decide) ⟨zq_lt (by decide), by decide⟩ rfl (by simp [Value.category]) (by simp [lg_sl, Value.category]) (zt_rcv zc_163) (zt_dm (by decide) (S_M_isLegalNow hca13)) ?_
    obtain ⟨hg, h⟩ := zt_ckE h
    refine zt_if_eq zy_279 (show q_ins q_k279 76 = some (.ifCond .eq 23, 99, 0) from rfl) (hg) (fun hc => ?_) (fun hc => ?_)
    · rw [if_pos hc] at h
      exact zt_wk (zt_cov_cons rfl (zt_cov_cons rfl (zt_cov_cons rfl (zt_cov_nil)))) (S_M_autoFollow_99  ih _ _ _ _ h)
    · rw [if_neg hc] at h
      refine zt_iload_n zy_279 (show q_ins q_k279 79 = some (.iload_n 1, 0, 0) from rfl) (v := Int32.ofInt v1) rfl ?_
      refine zt_iconst zy_279 (show q_ins q_k279 80 = some (.iconst (-1), 0, 0) from rfl) ?_
      obtain ⟨hg, h⟩ := zt_ckE h
      refine zt_icmp_eq zy_279 (show q_ins q_k279 81 = some (.if_icmp .eq 16, 97, 0) from rfl) (⟨hg, by decide⟩) (fun hc => ?_) (fun hc => ?_)
      · rw [if_pos hc] at h
        exact zt_wk (zt_cov_cons rfl (zt_cov_cons rfl (zt_cov_nil))) (S_M_autoFollow_97  ih _ _ _ h)
      · rw [if_neg hc] at h
        refine zt_aload_n zy_279 (show q_ins q_k279 84 = some (.aload_n 0, 0, 0) from rfl) (v := 163) rfl ?_
        refine zt_iload_n zy_279 (show q_ins q_k279 85 = some (.iload_n 2, 0, 0) from rfl) (v := Int32.ofInt v2) rfl ?_
        obtain ⟨a15, s16, hca15, h⟩ := zt_bdE h
        refine zt_callV (d := 7) zy_279 (show q_ins q_k279 86 = some (.invokevirtual 260, 210, 1) from rfl) zy_210 (by decide) ⟨zq_lt (by decide), by decide⟩ rfl (by simp [Value.category]) (by simp [lg_sl, Value.category]) (zt_rcv zc_163) (zt_dm (by decide) (S_M_rankOf hca15)) ?_
        refine zt_aload_n zy_279 (show q_ins q_k279 89 = some (.aload_n 0, 0, 0) from rfl) (v := 163) rfl ?_
        refine zt_iload_n zy_279 (show q_ins q_k279 90 = some (.iload_n 1, 0, 0) from rfl) (v := Int32.ofInt v1) rfl ?_
        obtain ⟨a17, s18, hca17, h⟩ := zt_bdE h
        refine zt_callV (d := 7) zy_279 (show q_ins q_k279 91 = some (.invokevirtual 260, 210, 1) from rfl) zy_210 (by decide) ⟨zq_lt (by decide), by decide⟩ rfl (by simp [Value.category]) (by simp [lg_sl, Value.category]) (zt_rcv zc_163) (zt_dm (by decide) (S_M_rankOf hca17)) ?_
        obtain ⟨hg, h⟩ := zt_ckE h
        refine zt_icmp_ge zy_279 (show q_ins q_k279 94 = some (.if_icmp .ge 5, 99, 0) from rfl) (⟨hg.1, hg.2⟩) (fun hc => ?_) (fun hc => ?_)
        · rw [if_pos hc] at h
          exact zt_wk (zt_cov_cons rfl (zt_cov_cons rfl (zt_cov_nil))) (S_M_autoFollow_97  ih _ _ _ h)
        · rw [if_neg hc] at h
          exact zt_wk (zt_cov_cons rfl (zt_cov_cons rfl (zt_cov_cons rfl (zt_cov_nil)))) (S_M_autoFollow_99  ih _ _ _ _ h)
  · rw [if_neg hc] at h
    refine zt_iload_n zy_279 (show q_ins q_k279 105 = some (.iload_n 1, 0, 0) from rfl) (v := Int32.ofInt v1) rfl ?_
    cases h
    exact zt_iret zy_279 (show q_ins q_k279 106 = some (.ireturn, 0, 0) from rfl)
theorem S_M_autoFollow_54 {X : q_X}   : ∀ (v1 : Int) (σ : zt_S) (o : (Int × zt_S)), F_M_autoFollow_54  v1 σ = some o → zt_Ex X 8 279 54 [(0, .ref 163), (1, .int (Int32.ofInt v1))] [] (zt_M σ) (zo_I o) := by
  intro v1 σ o  h
  unfold F_M_autoFollow_54 at h
  refine zt_iload_n zy_279 (show q_ins q_k279 54 = some (.iload_n 1, 0, 0) from rfl) (v := Int32.ofInt v1) rfl ?_
  refine zt_iconst zy_279 (show q_ins q_k279 55 = some (.iconst (-1), 0, 0) from rfl) ?_
  obtain ⟨hg, h⟩ := zt_ckE h
  refine zt_icmp_eq zy_279 (show q_ins q_k279 56 = some (.if_icmp .eq 5, 61, 0) from rfl) (⟨hg, by decide⟩) (fun hc => ?_) (fun hc => ?_)
  · rw [if_pos hc] at h
    refine zt_iconst zy_279 (show q_ins q_k279 61 = some (.iconst 0, 0, 0) from rfl) ?_
    refine zt_istore_n zy_279 (show q_ins q_k279 62 = some (.istore_n 2, 0, 0) from rfl) (by decide) ?_
    exact zt_wk (zt_cov_cons rfl (zt_cov_cons rfl (zt_cov_cons rfl (zt_cov_nil)))) (S_M_autoFollow_63  _ _ _ _ _ h)
  · rw [if_neg hc] at h
    refine zt_iload_n zy_279 (show q_ins q_k279 59 = some (.iload_n 1, 0, 0) from rfl) (v := Int32.ofInt v1) rfl ?_
    cases h
    exact zt_iret zy_279 (show q_ins q_k279 60 = some (.ireturn, 0, 0) from rfl)
theorem S_M_autoFollow_4 {X : q_X}   : ∀ (n : Nat) (v1 : Int) (v2 : Int) (σ : zt_S) (o : (Int × zt_S)), F_M_autoFollow_4  n v1 v2 σ = some o → zt_Ex X 8 279 4 [(0, .ref 163), (1, .int (Int32.ofInt v1)), (2, .int (Int32.ofInt v2))] [] (zt_M σ) (zo_I o) := by
  intro n
  induction n with
  | zero => intro v1 v2 σ o  h; cases h
  | succ n ih =>
  intro v1 v2 σ o  h
  rw [F_M_autoFollow_4] at h
  refine zt_iload_n zy_279 (show q_ins q_k279 4 = some (.iload_n 2, 0, 0) from rfl) (v := Int32.ofInt v2) rfl ?_
  refine zt_aload_n zy_279 (show q_ins q_k279 5 = some (.aload_n 0, 0, 0) from rfl) (v := 163) rfl ?_
  obtain ⟨a1, s2, hca1, h⟩ := zt_bdE h
  refine zt_callV (d := 7) zy_279 (show q_ins q_k279 6 = some (.invokevirtual 244, 207, 0) from rfl) zy_207 (by decide) ⟨zq_lt (by decide), by decide⟩ rfl (by simp [Value.category]) (by simp [lg_sl, Value.category]) (zt_rcv zc_163) (zt_dm (by decide) (S_M_cards hca1)) ?_
  obtain ⟨hg, h⟩ := zt_ckE h
  refine zt_icmp_ge zy_279 (show q_ins q_k279 9 = some (.if_icmp .ge 45, 54, 0) from rfl) (⟨hg.1, hg.2⟩) (fun hc => ?_) (fun hc => ?_)
  · rw [if_pos hc] at h
    refine zt_aload_n zy_279 (show q_ins q_k279 12 = some (.aload_n 0, 0, 0) from rfl) (v := 163) rfl ?_
    refine zt_iload_n zy_279 (show q_ins q_k279 13 = some (.iload_n 2, 0, 0) from rfl) (v := Int32.ofInt v2) rfl ?_
    obtain ⟨a3, s4, hca3, h⟩ := zt_bdE h
    refine zt_callV (d := 7) zy_279 (show q_ins q_k279 14 = some (.invokevirtual 325, 224, 1) from rfl) zy_224 (by decide) ⟨zq_lt (by decide), by decide⟩ rfl (by simp [Value.category]) (by simp [lg_sl, Value.category]) (zt_rcv zc_163) (zt_dm (by decide) (S_M_isLegalNow hca3)) ?_
    obtain ⟨hg, h⟩ := zt_ckE h
    refine zt_if_eq zy_279 (show q_ins q_k279 17 = some (.ifCond .eq 31, 48, 0) from rfl) (hg) (fun hc => ?_) (fun hc => ?_)
    · rw [if_pos hc] at h
      exact zt_wk (zt_cov_cons rfl (zt_cov_cons rfl (zt_cov_cons rfl (zt_cov_nil)))) (S_M_autoFollow_48  ih _ _ _ _ h)
    · rw [if_neg hc] at h
      refine zt_aload_n zy_279 (show q_ins q_k279 20 = some (.aload_n 0, 0, 0) from rfl) (v := 163) rfl ?_
      refine zt_iload_n zy_279 (show q_ins q_k279 21 = some (.iload_n 2, 0, 0) from rfl) (v := Int32.ofInt v2) rfl ?_
      obtain ⟨a5, s6, hca5, h⟩ := zt_bdE h
      refine zt_callV (d := 7) zy_279 (show q_ins q_k279 22 = some (.invokevirtual 278, 219, 1) from rfl) zy_219 (by decide) ⟨zq_lt (by decide), by decide⟩ rfl (by simp [Value.category]) (by simp [lg_sl, Value.category]) (zt_rcv zc_163) (zt_dm (by decide) (S_M_isBetter hca5)) ?_
      obtain ⟨hg, h⟩ := zt_ckE h
      refine zt_if_eq zy_279 (show q_ins q_k279 25 = some (.ifCond .eq 23, 48, 0) from rfl) (hg) (fun hc => ?_) (fun hc => ?_)
      · rw [if_pos hc] at h
        exact zt_wk (zt_cov_cons rfl (zt_cov_cons rfl (zt_cov_cons rfl (zt_cov_nil)))) (S_M_autoFollow_48  ih _ _ _ _ h)
      · rw [if_neg hc] at h
        refine zt_iload_n zy_279 (show q_ins q_k279 28 = some (.iload_n 1, 0, 0) from rfl) (v := Int32.ofInt v1) rfl ?_
        refine zt_iconst zy_279 (show q_ins q_k279 29 = some (.iconst (-1), 0, 0) from rfl) ?_
        obtain ⟨hg, h⟩ := zt_ckE h
        refine zt_icmp_eq zy_279 (show q_ins q_k279 30 = some (.if_icmp .eq 16, 46, 0) from rfl) (⟨hg, by decide⟩) (fun hc => ?_) (fun hc => ?_)
        · rw [if_pos hc] at h
          exact zt_wk (zt_cov_cons rfl (zt_cov_cons rfl (zt_cov_nil))) (S_M_autoFollow_46  ih _ _ _ h)
        · rw [if_neg hc] at h
          refine zt_aload_n zy_279 (show q_ins q_k279 33 = some (.aload_n 0, 0, 0) from rfl) (v := 163) rfl ?_
          refine zt_iload_n zy_279 (show q_ins q_k279 34 = some (.iload_n 2, 0, 0) from rfl) (v := Int32.ofInt v2) rfl ?_
          obtain ⟨a7, s8, hca7, h⟩ := zt_bdE h
          refine zt_callV (d := 7) zy_279 (show q_ins q_k279 35 = some (.invokevirtual 269, 217, 1) from rfl) zy_217 (by decide) ⟨zq_lt (by decide), by decide⟩ rfl (by simp [Value.category]) (by simp [lg_sl, Value.category]) (zt_rcv zc_163) (zt_dm (by decide) (S_M_powerNow hca7)) ?_
          refine zt_aload_n zy_279 (show q_ins q_k279 38 = some (.aload_n 0, 0, 0) from rfl) (v := 163) rfl ?_
          refine zt_iload_n zy_279 (show q_ins q_k279 39 = some (.iload_n 1, 0, 0) from rfl) (v := Int32.ofInt v1) rfl ?_
          obtain ⟨a9, s10, hca9, h⟩ := zt_bdE h
          refine zt_callV (d := 7) zy_279 (show q_ins q_k279 40 = some (.invokevirtual 269, 217, 1) from rfl) zy_217 (by decide) ⟨zq_lt (by decide), by decide⟩ rfl (by simp [Value.category]) (by simp [lg_sl, Value.category]) (zt_rcv zc_163) (zt_dm (by decide) (S_M_powerNow hca9)) ?_
          obtain ⟨hg, h⟩ := zt_ckE h
          refine zt_icmp_ge zy_279 (show q_ins q_k279 43 = some (.if_icmp .ge 5, 48, 0) from rfl) (⟨hg.1, hg.2⟩) (fun hc => ?_) (fun hc => ?_)
          · rw [if_pos hc] at h
            exact zt_wk (zt_cov_cons rfl (zt_cov_cons rfl (zt_cov_nil))) (S_M_autoFollow_46  ih _ _ _ h)
          · rw [if_neg hc] at h
            exact zt_wk (zt_cov_cons rfl (zt_cov_cons rfl (zt_cov_cons rfl (zt_cov_nil)))) (S_M_autoFollow_48  ih _ _ _ _ h)
  · rw [if_neg hc] at h
    exact zt_wk (zt_cov_cons rfl (zt_cov_cons rfl (zt_cov_nil))) (S_M_autoFollow_54  _ _ _ h)
theorem S_M_autoFollow {X : q_X}    {σ : zt_S} {o : (Int × zt_S)} (h : F_M_autoFollow   σ = some o) : zt_Ex X 8 279 0 (lv_args 0 [.ref 163]) [] (zt_M σ) (zo_I o) := by
  unfold F_M_autoFollow at h
  refine zt_iconst zy_279 (show q_ins q_k279 0 = some (.iconst (-1), 0, 0) from rfl) ?_
  refine zt_istore_n zy_279 (show q_ins q_k279 1 = some (.istore_n 1, 0, 0) from rfl) (by decide) ?_
  refine zt_iconst zy_279 (show q_ins q_k279 2 = some (.iconst 0, 0, 0) from rfl) ?_
  refine zt_istore_n zy_279 (show q_ins q_k279 3 = some (.istore_n 2, 0, 0) from rfl) (by decide) ?_
  exact zt_wk (zt_cov_cons rfl (zt_cov_cons rfl (zt_cov_cons rfl (zt_cov_nil)))) (S_M_autoFollow_4  _ _ _ _ _ h)
theorem S_M_auto_71 {X : q_X}   {r40 : Int → Int → zt_S → Option (Int × zt_S)} (hr40 : ∀ (v1 : Int) (v2 : Int) (σ : zt_S) (o : (Int × zt_S)), r40 v1 v2 σ = some o → zt_Ex X 9 280 40 [(0, .ref 163), (1, .int (Int32.ofInt v1)), (2, .int (Int32.ofInt v2))] [] (zt_M σ) (zo_I o)) : ∀ (v1 : Int) (v2 : Int) (x0 : Int) (σ : zt_S) (o : (Int × zt_S)), F_M_auto_71  r40 v1 v2 x0 σ = some o → zt_Ex X 9 280 71 [(0, .ref 163), (1, .int (Int32.ofInt v1)), (2, .int (Int32.ofInt v2))] [.int (Int32.ofInt x0), .ref 163] (zt_M σ) (zo_I o) := by
  intro v1 v2 x0 σ o  h
  unfold F_M_auto_71 at h
  obtain ⟨a16, s17, hca16, h⟩ := zt_bdE h
  refine zt_callV (d := 8) zy_280 (show q_ins q_k280 71 = some (.invokevirtual 377, 228, 1) from rfl) zy_228 (by decide) ⟨zq_lt (by decide), by decide⟩ rfl (by simp [Value.category]) (by simp [lg_sl, Value.category]) (zt_rcv zc_163) (zt_dm (by decide) (S_M_plays hca16)) ?_
  refine zt_aload_n zy_280 (show q_ins q_k280 74 = some (.aload_n 0, 0, 0) from rfl) (v := 163) rfl ?_
  obtain ⟨a18, s19, hca18, h⟩ := zt_bdE h
  refine zt_callV (d := 8) zy_280 (show q_ins q_k280 75 = some (.invokevirtual 380, 231, 0) from rfl) zy_231 (by decide) ⟨zq_lt (by decide), by decide⟩ rfl (by simp [Value.category]) (by simp [lg_sl, Value.category]) (zt_rcv zc_163) (zt_dm (by decide) (S_M_counts hca18)) ?_
  refine zt_iinc zy_280 (show q_ins q_k280 78 = some (.iinc 2 1, 0, 0) from rfl) (v := v2) (by decide) rfl ?_
  refine zt_goto zy_280 (show q_ins q_k280 81 = some (.goto (-41), 40, 0) from rfl) ?_
  exact zt_wk (zt_cov_cons rfl (zt_cov_cons rfl (zt_cov_cons rfl (zt_cov_nil)))) (hr40 _ _ _ _ h)
theorem S_M_auto_84 {X : q_X}   : ∀ (v2 : Int) (σ : zt_S) (o : (Int × zt_S)), F_M_auto_84  v2 σ = some o → zt_Ex X 9 280 84 [(2, .int (Int32.ofInt v2))] [] (zt_M σ) (zo_I o) := by
  intro v2 σ o  h
  unfold F_M_auto_84 at h
  refine zt_iload_n zy_280 (show q_ins q_k280 84 = some (.iload_n 2, 0, 0) from rfl) (v := Int32.ofInt v2) rfl ?_
  cases h
  exact zt_iret zy_280 (show q_ins q_k280 85 = some (.ireturn, 0, 0) from rfl)
theorem S_M_auto_40 {X : q_X}   : ∀ (n : Nat) (v1 : Int) (v2 : Int) (σ : zt_S) (o : (Int × zt_S)), F_M_auto_40  n v1 v2 σ = some o → zt_Ex X 9 280 40 [(0, .ref 163), (1, .int (Int32.ofInt v1)), (2, .int (Int32.ofInt v2))] [] (zt_M σ) (zo_I o) := by
  intro n
  induction n with
  | zero => intro v1 v2 σ o  h; cases h
  | succ n ih =>
  intro v1 v2 σ o  h
  rw [F_M_auto_40] at h
  refine zt_iload_n zy_280 (show q_ins q_k280 40 = some (.iload_n 2, 0, 0) from rfl) (v := Int32.ofInt v2) rfl ?_
  refine zt_iload_n zy_280 (show q_ins q_k280 41 = some (.iload_n 1, 0, 0) from rfl) (v := Int32.ofInt v1) rfl ?_
  obtain ⟨hg, h⟩ := zt_ckE h
  refine zt_icmp_ge zy_280 (show q_ins q_k280 42 = some (.if_icmp .ge 42, 84, 0) from rfl) (⟨hg.1, hg.2⟩) (fun hc => ?_) (fun hc => ?_)
  · rw [if_pos hc] at h
    refine zt_aload_n zy_280 (show q_ins q_k280 45 = some (.aload_n 0, 0, 0) from rfl) (v := 163) rfl ?_
    obtain ⟨a10, s11, hca10, h⟩ := zt_bdE h
    refine zt_callV (d := 8) zy_280 (show q_ins q_k280 46 = some (.invokevirtual 248, 211, 0) from rfl) zy_211 (by decide) ⟨zq_lt (by decide), by decide⟩ rfl (by simp [Value.category]) (by simp [lg_sl, Value.category]) (zt_rcv zc_163) (zt_dm (by decide) (S_M_isOver hca10)) ?_
    obtain ⟨hg, h⟩ := zt_ckE h
    refine zt_if_ne zy_280 (show q_ins q_k280 49 = some (.ifCond .ne 35, 84, 0) from rfl) (hg) (fun hc => ?_) (fun hc => ?_)
    · rw [if_pos hc] at h
      refine zt_aload_n zy_280 (show q_ins q_k280 52 = some (.aload_n 0, 0, 0) from rfl) (v := 163) rfl ?_
      refine zt_aload_n zy_280 (show q_ins q_k280 53 = some (.aload_n 0, 0, 0) from rfl) (v := 163) rfl ?_
      obtain ⟨a12, s13, hca12, h⟩ := zt_bdE h
      refine zt_callV (d := 8) zy_280 (show q_ins q_k280 54 = some (.invokevirtual 251, 212, 0) from rfl) zy_212 (by decide) ⟨zq_lt (by decide), by decide⟩ rfl (by simp [Value.category]) (by simp [lg_sl, Value.category]) (zt_rcv zc_163) (zt_dm (by decide) (S_M_inTrick hca12)) ?_
      obtain ⟨hg, h⟩ := zt_ckE h
      refine zt_if_ne zy_280 (show q_ins q_k280 57 = some (.ifCond .ne 10, 67, 0) from rfl) (hg) (fun hc => ?_) (fun hc => ?_)
      · rw [if_pos hc] at h
        refine zt_aload_n zy_280 (show q_ins q_k280 60 = some (.aload_n 0, 0, 0) from rfl) (v := 163) rfl ?_
        obtain ⟨a14, s15, hca14, h⟩ := zt_bdE h
        refine zt_callV (d := 8) zy_280 (show q_ins q_k280 61 = some (.invokevirtual 385, 278, 0) from rfl) zy_278 (by decide) ⟨zq_lt (by decide), by decide⟩ rfl (by simp [Value.category]) (by simp [lg_sl, Value.category]) (zt_rcv zc_163) (zt_dm (by decide) (S_M_autoLead hca14)) ?_
        refine zt_goto zy_280 (show q_ins q_k280 64 = some (.goto 7, 71, 0) from rfl) ?_
        exact zt_wk (zt_cov_cons rfl (zt_cov_cons rfl (zt_cov_cons rfl (zt_cov_nil)))) (S_M_auto_71  ih _ _ _ _ _ h)
      · rw [if_neg hc] at h
        refine zt_aload_n zy_280 (show q_ins q_k280 67 = some (.aload_n 0, 0, 0) from rfl) (v := 163) rfl ?_
        obtain ⟨a20, s21, hca20, h⟩ := zt_bdE h
        refine zt_callV (d := 8) zy_280 (show q_ins q_k280 68 = some (.invokevirtual 388, 279, 0) from rfl) zy_279 (by decide) ⟨zq_lt (by decide), by decide⟩ rfl (by simp [Value.category]) (by simp [lg_sl, Value.category]) (zt_rcv zc_163) (zt_dm (by decide) (S_M_autoFollow hca20)) ?_
        exact zt_wk (zt_cov_cons rfl (zt_cov_cons rfl (zt_cov_cons rfl (zt_cov_nil)))) (S_M_auto_71  ih _ _ _ _ _ h)
    · rw [if_neg hc] at h
      exact zt_wk (zt_cov_cons rfl (zt_cov_nil)) (S_M_auto_84  _ _ _ h)
  · rw [if_neg hc] at h
    exact zt_wk (zt_cov_cons rfl (zt_cov_nil)) (S_M_auto_84  _ _ _ h)
theorem S_M_auto {X : q_X}   {v1 : Int} {σ : zt_S} {o : (Int × zt_S)} (h : F_M_auto  v1 σ = some o) : zt_Ex X 9 280 0 (lv_args 0 [.ref 163, .int (Int32.ofInt v1)]) [] (zt_M σ) (zo_I o) := by
  unfold F_M_auto at h
  refine zt_aload_n zy_280 (show q_ins q_k280 0 = some (.aload_n 0, 0, 0) from rfl) (v := 163) rfl ?_
  refine zt_iconst zy_280 (show q_ins q_k280 1 = some (.iconst 0, 0, 0) from rfl) ?_
  obtain ⟨s1, hs1, h⟩ := zt_letE h
  refine zt_putI zy_280 (show q_ins q_k280 2 = some (.putfield 1, 11, 0) from rfl) (j := 0) zk_163_0 rfl rfl rfl ?_
  rw [← hs1]
  refine zt_aload_n zy_280 (show q_ins q_k280 5 = some (.aload_n 0, 0, 0) from rfl) (v := 163) rfl ?_
  refine zt_iload_n zy_280 (show q_ins q_k280 6 = some (.iload_n 1, 0, 0) from rfl) (v := Int32.ofInt v1) rfl ?_
  refine zt_i2l zy_280 (show q_ins q_k280 7 = some (.i2l, 0, 0) from rfl) ?_
  refine zt_lconst zy_280 (show q_ins q_k280 8 = some (.lconst 1, 0, 0) from rfl) (v := (1 : Int64)) (by decide) ?_
  refine zt_ldc2 zy_280 (show q_ins q_k280 9 = some (.ldc2_w 383, 0, 52) from rfl) (v := (52 : Int64)) (by decide) ?_
  obtain ⟨a2, s3, hca2, h⟩ := zt_bdE h
  refine zt_callS (d := 8) zy_280 (show q_ins q_k280 12 = some (.invokestatic 170, 171, 3) from rfl) zy_171 (by decide) ⟨zq_lt (by decide), by decide⟩ rfl (by simp [Value.category]) (by simp [lg_sl, Value.category]) rfl (zt_dm (by decide) (S_M_in hca2)) ?_
  refine zt_iconst zy_280 (show q_ins q_k280 15 = some (.iconst 1, 0, 0) from rfl) ?_
  obtain ⟨a4, s5, hca4, h⟩ := zt_bdE h
  refine zt_callV (d := 8) zy_280 (show q_ins q_k280 16 = some (.invokevirtual 227, 174, 2) from rfl) zy_174 (by decide) ⟨zq_lt (by decide), by decide⟩ rfl (by simp [Value.category]) (by simp [lg_sl, Value.category]) (zt_rcv zc_163) (zt_dm (by decide) (S_M_fails hca4)) ?_
  obtain ⟨hg, h⟩ := zt_ckE h
  refine zt_if_eq zy_280 (show q_ins q_k280 19 = some (.ifCond .eq 5, 24, 0) from rfl) (hg) (fun hc => ?_) (fun hc => ?_)
  · rw [if_pos hc] at h
    refine zt_aload_n zy_280 (show q_ins q_k280 24 = some (.aload_n 0, 0, 0) from rfl) (v := 163) rfl ?_
    obtain ⟨a6, s7, hca6, h⟩ := zt_bdE h
    refine zt_callV (d := 8) zy_280 (show q_ins q_k280 25 = some (.invokevirtual 248, 211, 0) from rfl) zy_211 (by decide) ⟨zq_lt (by decide), by decide⟩ rfl (by simp [Value.category]) (by simp [lg_sl, Value.category]) (zt_rcv zc_163) (zt_dm (by decide) (S_M_isOver hca6)) ?_
    obtain ⟨hg, h⟩ := zt_ckE h
    refine zt_if_eq zy_280 (show q_ins q_k280 28 = some (.ifCond .eq 6, 34, 0) from rfl) (hg) (fun hc => ?_) (fun hc => ?_)
    · rw [if_pos hc] at h
      refine zt_aload_n zy_280 (show q_ins q_k280 34 = some (.aload_n 0, 0, 0) from rfl) (v := 163) rfl ?_
      obtain ⟨a8, s9, hca8, h⟩ := zt_bdE h
      refine zt_callV (d := 8) zy_280 (show q_ins q_k280 35 = some (.invokevirtual 374, 276, 0) from rfl) zy_276 (by decide) ⟨zq_lt (by decide), by decide⟩ rfl (by simp [Value.category]) (by simp [lg_sl, Value.category]) (zt_rcv zc_163) (zt_dm (by decide) (S_M_keeps hca8)) ?_
      refine zt_iconst zy_280 (show q_ins q_k280 38 = some (.iconst 0, 0, 0) from rfl) ?_
      refine zt_istore_n zy_280 (show q_ins q_k280 39 = some (.istore_n 2, 0, 0) from rfl) (by decide) ?_
      exact zt_wk (zt_cov_cons rfl (zt_cov_cons rfl (zt_cov_cons rfl (zt_cov_nil)))) (S_M_auto_40  _ _ _ _ _ h)
    · rw [if_neg hc] at h
      refine zt_bipush zy_280 (show q_ins q_k280 31 = some (.bipush (-2), 0, 0) from rfl) (by decide) ?_
      cases h
      exact zt_iret zy_280 (show q_ins q_k280 33 = some (.ireturn, 0, 0) from rfl)
  · rw [if_neg hc] at h
    refine zt_iconst zy_280 (show q_ins q_k280 22 = some (.iconst 0, 0, 0) from rfl) ?_
    cases h
    exact zt_iret zy_280 (show q_ins q_k280 23 = some (.ireturn, 0, 0) from rfl)
theorem S_M_tell_39 {X : q_X}   : ∀  (σ : zt_S) (o : (Int × zt_S)), F_M_tell_39   σ = some o → zt_Ex X 2 281 39 [] [] (zt_M σ) (zo_I o) := by
  intro  σ o  h
  unfold F_M_tell_39 at h
  refine zt_iconst zy_281 (show q_ins q_k281 39 = some (.iconst 0, 0, 0) from rfl) ?_
  cases h
  exact zt_iret zy_281 (show q_ins q_k281 40 = some (.ireturn, 0, 0) from rfl)
theorem S_M_tell {X : q_X}   {v1 : Int} {v2 : Int} {σ : zt_S} {o : (Int × zt_S)} (h : F_M_tell  v1 v2 σ = some o) : zt_Ex X 2 281 0 (lv_args 0 [.ref 163, .int (Int32.ofInt v1), .int (Int32.ofInt v2)]) [] (zt_M σ) (zo_I o) := by
  unfold F_M_tell at h
  refine zt_aload_n zy_281 (show q_ins q_k281 0 = some (.aload_n 0, 0, 0) from rfl) (v := 163) rfl ?_
  refine zt_iconst zy_281 (show q_ins q_k281 1 = some (.iconst 0, 0, 0) from rfl) ?_
  obtain ⟨s1, hs1, h⟩ := zt_letE h
  refine zt_putI zy_281 (show q_ins q_k281 2 = some (.putfield 1, 11, 0) from rfl) (j := 0) zk_163_0 rfl rfl rfl ?_
  rw [← hs1]
  refine zt_aload_n zy_281 (show q_ins q_k281 5 = some (.aload_n 0, 0, 0) from rfl) (v := 163) rfl ?_
  refine zt_aload_n zy_281 (show q_ins q_k281 6 = some (.aload_n 0, 0, 0) from rfl) (v := 163) rfl ?_
  refine zt_iload_n zy_281 (show q_ins q_k281 7 = some (.iload_n 1, 0, 0) from rfl) (v := Int32.ofInt v1) rfl ?_
  obtain ⟨a2, s3, hca2, h⟩ := zt_bdE h
  refine zt_callV (d := 1) zy_281 (show q_ins q_k281 8 = some (.invokevirtual 319, 236, 1) from rfl) zy_236 (by decide) ⟨zq_lt (by decide), by decide⟩ rfl (by simp [Value.category]) (by simp [lg_sl, Value.category]) (zt_rcv zc_163) (zt_dm (by decide) (S_M_isPlayer hca2)) ?_
  refine zt_iconst zy_281 (show q_ins q_k281 11 = some (.iconst 1, 0, 0) from rfl) ?_
  obtain ⟨a4, s5, hca4, h⟩ := zt_bdE h
  refine zt_callV (d := 1) zy_281 (show q_ins q_k281 12 = some (.invokevirtual 227, 174, 2) from rfl) zy_174 (by decide) ⟨zq_lt (by decide), by decide⟩ rfl (by simp [Value.category]) (by simp [lg_sl, Value.category]) (zt_rcv zc_163) (zt_dm (by decide) (S_M_fails hca4)) ?_
  obtain ⟨hg, h⟩ := zt_ckE h
  refine zt_if_ne zy_281 (show q_ins q_k281 15 = some (.ifCond .ne 24, 39, 0) from rfl) (hg) (fun hc => ?_) (fun hc => ?_)
  · rw [if_pos hc] at h
    refine zt_aload_n zy_281 (show q_ins q_k281 18 = some (.aload_n 0, 0, 0) from rfl) (v := 163) rfl ?_
    refine zt_iload_n zy_281 (show q_ins q_k281 19 = some (.iload_n 2, 0, 0) from rfl) (v := Int32.ofInt v2) rfl ?_
    refine zt_i2l zy_281 (show q_ins q_k281 20 = some (.i2l, 0, 0) from rfl) ?_
    refine zt_lconst zy_281 (show q_ins q_k281 21 = some (.lconst 0, 0, 0) from rfl) (v := (0 : Int64)) (by decide) ?_
    refine zt_aload_n zy_281 (show q_ins q_k281 22 = some (.aload_n 0, 0, 0) from rfl) (v := 163) rfl ?_
    refine zt_getR zy_281 (show q_ins q_k281 23 = some (.getfield 13, 11, 1) from rfl) (r := 164) zk_163_1 ?_
    refine zt_iconst zy_281 (show q_ins q_k281 26 = some (.iconst 2, 0, 0) from rfl) ?_
    refine zt_ald zy_281 (show q_ins q_k281 27 = some (.iaload, 0, 0) from rfl) za_164 (by decide) (by decide) ?_
    refine zt_i2l zy_281 (show q_ins q_k281 28 = some (.i2l, 0, 0) from rfl) ?_
    obtain ⟨a6, s7, hca6, h⟩ := zt_bdE h
    refine zt_callS (d := 1) zy_281 (show q_ins q_k281 29 = some (.invokestatic 170, 171, 3) from rfl) zy_171 (by decide) ⟨zq_lt (by decide), by decide⟩ rfl (by simp [Value.category]) (by simp [lg_sl, Value.category]) rfl (zt_dm (by decide) (S_M_in hca6)) ?_
    refine zt_iconst zy_281 (show q_ins q_k281 32 = some (.iconst 2, 0, 0) from rfl) ?_
    obtain ⟨a8, s9, hca8, h⟩ := zt_bdE h
    refine zt_callV (d := 1) zy_281 (show q_ins q_k281 33 = some (.invokevirtual 227, 174, 2) from rfl) zy_174 (by decide) ⟨zq_lt (by decide), by decide⟩ rfl (by simp [Value.category]) (by simp [lg_sl, Value.category]) (zt_rcv zc_163) (zt_dm (by decide) (S_M_fails hca8)) ?_
    obtain ⟨hg, h⟩ := zt_ckE h
    refine zt_if_eq zy_281 (show q_ins q_k281 36 = some (.ifCond .eq 5, 41, 0) from rfl) (hg) (fun hc => ?_) (fun hc => ?_)
    · rw [if_pos hc] at h
      refine zt_aload_n zy_281 (show q_ins q_k281 41 = some (.aload_n 0, 0, 0) from rfl) (v := 163) rfl ?_
      refine zt_getR zy_281 (show q_ins q_k281 42 = some (.getfield 13, 11, 1) from rfl) (r := 164) zk_163_1 ?_
      refine zt_bipush zy_281 (show q_ins q_k281 45 = some (.bipush 12, 0, 0) from rfl) (by decide) ?_
      refine zt_ald zy_281 (show q_ins q_k281 47 = some (.iaload, 0, 0) from rfl) za_164 (by decide) (by decide) ?_
      obtain ⟨hg, h⟩ := zt_ckE h
      refine zt_if_le zy_281 (show q_ins q_k281 48 = some (.ifCond .le 6, 54, 0) from rfl) (hg) (fun hc => ?_) (fun hc => ?_)
      · rw [if_pos hc] at h
        refine zt_bipush zy_281 (show q_ins q_k281 51 = some (.bipush (-2), 0, 0) from rfl) (by decide) ?_
        cases h
        exact zt_iret zy_281 (show q_ins q_k281 53 = some (.ireturn, 0, 0) from rfl)
      · rw [if_neg hc] at h
        refine zt_aload_n zy_281 (show q_ins q_k281 54 = some (.aload_n 0, 0, 0) from rfl) (v := 163) rfl ?_
        obtain ⟨a10, s11, hca10, h⟩ := zt_bdE h
        refine zt_callV (d := 1) zy_281 (show q_ins q_k281 55 = some (.invokevirtual 374, 276, 0) from rfl) zy_276 (by decide) ⟨zq_lt (by decide), by decide⟩ rfl (by simp [Value.category]) (by simp [lg_sl, Value.category]) (zt_rcv zc_163) (zt_dm (by decide) (S_M_keeps hca10)) ?_
        refine zt_aload_n zy_281 (show q_ins q_k281 58 = some (.aload_n 0, 0, 0) from rfl) (v := 163) rfl ?_
        refine zt_getR zy_281 (show q_ins q_k281 59 = some (.getfield 13, 11, 1) from rfl) (r := 164) zk_163_1 ?_
        refine zt_bipush zy_281 (show q_ins q_k281 62 = some (.bipush 16, 0, 0) from rfl) (by decide) ?_
        refine zt_iload_n zy_281 (show q_ins q_k281 64 = some (.iload_n 1, 0, 0) from rfl) (v := Int32.ofInt v1) rfl ?_
        refine zt_iadd zy_281 (show q_ins q_k281 65 = some (.iadd, 0, 0) from rfl) ?_
        obtain ⟨hg, h⟩ := zt_ckE h
        refine zt_ald zy_281 (show q_ins q_k281 66 = some (.iaload, 0, 0) from rfl) za_164 (by decide) hg ?_
        refine zt_istore_n zy_281 (show q_ins q_k281 67 = some (.istore_n 3, 0, 0) from rfl) (by decide) ?_
        refine zt_aload_n zy_281 (show q_ins q_k281 68 = some (.aload_n 0, 0, 0) from rfl) (v := 163) rfl ?_
        refine zt_getR zy_281 (show q_ins q_k281 69 = some (.getfield 13, 11, 1) from rfl) (r := 164) zk_163_1 ?_
        refine zt_bipush zy_281 (show q_ins q_k281 72 = some (.bipush 16, 0, 0) from rfl) (by decide) ?_
        refine zt_iload_n zy_281 (show q_ins q_k281 74 = some (.iload_n 1, 0, 0) from rfl) (v := Int32.ofInt v1) rfl ?_
        refine zt_iadd zy_281 (show q_ins q_k281 75 = some (.iadd, 0, 0) from rfl) ?_
        refine zt_iload_n zy_281 (show q_ins q_k281 76 = some (.iload_n 2, 0, 0) from rfl) (v := Int32.ofInt v2) rfl ?_
        obtain ⟨hg, h⟩ := zt_ckE h
        obtain ⟨s12, hs12, h⟩ := zt_letE h
        refine zt_ast zy_281 (show q_ins q_k281 77 = some (.iastore, 0, 0) from rfl) za_164 (by decide) hg ?_
        rw [← hs12]
        refine zt_iload_n zy_281 (show q_ins q_k281 78 = some (.iload_n 3, 0, 0) from rfl) (v := Int32.ofInt (s11.1 164 ((16 : Int) + v1))) rfl ?_
        refine zt_iconst zy_281 (show q_ins q_k281 79 = some (.iconst 1, 0, 0) from rfl) ?_
        refine zt_iadd zy_281 (show q_ins q_k281 80 = some (.iadd, 0, 0) from rfl) ?_
        cases h
        exact zt_iret zy_281 (show q_ins q_k281 81 = some (.ireturn, 0, 0) from rfl)
    · rw [if_neg hc] at h
      exact zt_wk (zt_cov_nil) (S_M_tell_39  _ _ h)
  · rw [if_neg hc] at h
    exact zt_wk (zt_cov_nil) (S_M_tell_39  _ _ h)
theorem S_M_deal {X : q_X}   {v1 : Int} {σ : zt_S} {o : (Int × zt_S)} (h : F_M_deal  v1 σ = some o) : zt_Ex X 2 282 0 (lv_args 0 [.ref 163, .int (Int32.ofInt v1)]) [] (zt_M σ) (zo_I o) := by
  unfold F_M_deal at h
  refine zt_aload_n zy_282 (show q_ins q_k282 0 = some (.aload_n 0, 0, 0) from rfl) (v := 163) rfl ?_
  refine zt_iconst zy_282 (show q_ins q_k282 1 = some (.iconst 0, 0, 0) from rfl) ?_
  obtain ⟨s1, hs1, h⟩ := zt_letE h
  refine zt_putI zy_282 (show q_ins q_k282 2 = some (.putfield 1, 11, 0) from rfl) (j := 0) zk_163_0 rfl rfl rfl ?_
  rw [← hs1]
  refine zt_aload_n zy_282 (show q_ins q_k282 5 = some (.aload_n 0, 0, 0) from rfl) (v := 163) rfl ?_
  refine zt_iload_n zy_282 (show q_ins q_k282 6 = some (.iload_n 1, 0, 0) from rfl) (v := Int32.ofInt v1) rfl ?_
  refine zt_i2l zy_282 (show q_ins q_k282 7 = some (.i2l, 0, 0) from rfl) ?_
  refine zt_lconst zy_282 (show q_ins q_k282 8 = some (.lconst 0, 0, 0) from rfl) (v := (0 : Int64)) (by decide) ?_
  refine zt_ldc2 zy_282 (show q_ins q_k282 9 = some (.ldc2_w 391, 0, 99999) from rfl) (v := (99999 : Int64)) (by decide) ?_
  obtain ⟨a2, s3, hca2, h⟩ := zt_bdE h
  refine zt_callS (d := 1) zy_282 (show q_ins q_k282 12 = some (.invokestatic 170, 171, 3) from rfl) zy_171 (by decide) ⟨zq_lt (by decide), by decide⟩ rfl (by simp [Value.category]) (by simp [lg_sl, Value.category]) rfl (zt_dm (by decide) (S_M_in hca2)) ?_
  refine zt_iconst zy_282 (show q_ins q_k282 15 = some (.iconst 1, 0, 0) from rfl) ?_
  obtain ⟨a4, s5, hca4, h⟩ := zt_bdE h
  refine zt_callV (d := 1) zy_282 (show q_ins q_k282 16 = some (.invokevirtual 227, 174, 2) from rfl) zy_174 (by decide) ⟨zq_lt (by decide), by decide⟩ rfl (by simp [Value.category]) (by simp [lg_sl, Value.category]) (zt_rcv zc_163) (zt_dm (by decide) (S_M_fails hca4)) ?_
  obtain ⟨hg, h⟩ := zt_ckE h
  refine zt_if_eq zy_282 (show q_ins q_k282 19 = some (.ifCond .eq 5, 24, 0) from rfl) (hg) (fun hc => ?_) (fun hc => ?_)
  · rw [if_pos hc] at h
    refine zt_aload_n zy_282 (show q_ins q_k282 24 = some (.aload_n 0, 0, 0) from rfl) (v := 163) rfl ?_
    obtain ⟨a6, s7, hca6, h⟩ := zt_bdE h
    refine zt_callV (d := 1) zy_282 (show q_ins q_k282 25 = some (.invokevirtual 248, 211, 0) from rfl) zy_211 (by decide) ⟨zq_lt (by decide), by decide⟩ rfl (by simp [Value.category]) (by simp [lg_sl, Value.category]) (zt_rcv zc_163) (zt_dm (by decide) (S_M_isOver hca6)) ?_
    obtain ⟨hg, h⟩ := zt_ckE h
    refine zt_if_ne zy_282 (show q_ins q_k282 28 = some (.ifCond .ne 6, 34, 0) from rfl) (hg) (fun hc => ?_) (fun hc => ?_)
    · rw [if_pos hc] at h
      refine zt_bipush zy_282 (show q_ins q_k282 31 = some (.bipush (-2), 0, 0) from rfl) (by decide) ?_
      cases h
      exact zt_iret zy_282 (show q_ins q_k282 33 = some (.ireturn, 0, 0) from rfl)
    · rw [if_neg hc] at h
      refine zt_aload_n zy_282 (show q_ins q_k282 34 = some (.aload_n 0, 0, 0) from rfl) (v := 163) rfl ?_
      obtain ⟨a8, s9, hca8, h⟩ := zt_bdE h
      refine zt_callV (d := 1) zy_282 (show q_ins q_k282 35 = some (.invokevirtual 374, 276, 0) from rfl) zy_276 (by decide) ⟨zq_lt (by decide), by decide⟩ rfl (by simp [Value.category]) (by simp [lg_sl, Value.category]) (zt_rcv zc_163) (zt_dm (by decide) (S_M_keeps hca8)) ?_
      refine zt_aload_n zy_282 (show q_ins q_k282 38 = some (.aload_n 0, 0, 0) from rfl) (v := 163) rfl ?_
      refine zt_getR zy_282 (show q_ins q_k282 39 = some (.getfield 13, 11, 1) from rfl) (r := 164) zk_163_1 ?_
      refine zt_bipush zy_282 (show q_ins q_k282 42 = some (.bipush 8, 0, 0) from rfl) (by decide) ?_
      refine zt_aload_n zy_282 (show q_ins q_k282 44 = some (.aload_n 0, 0, 0) from rfl) (v := 163) rfl ?_
      refine zt_getR zy_282 (show q_ins q_k282 45 = some (.getfield 13, 11, 1) from rfl) (r := 164) zk_163_1 ?_
      refine zt_bipush zy_282 (show q_ins q_k282 48 = some (.bipush 8, 0, 0) from rfl) (by decide) ?_
      refine zt_ald zy_282 (show q_ins q_k282 50 = some (.iaload, 0, 0) from rfl) za_164 (by decide) (by decide) ?_
      refine zt_iconst zy_282 (show q_ins q_k282 51 = some (.iconst 1, 0, 0) from rfl) ?_
      refine zt_iadd zy_282 (show q_ins q_k282 52 = some (.iadd, 0, 0) from rfl) ?_
      refine zt_aload_n zy_282 (show q_ins q_k282 53 = some (.aload_n 0, 0, 0) from rfl) (v := 163) rfl ?_
      refine zt_getR zy_282 (show q_ins q_k282 54 = some (.getfield 13, 11, 1) from rfl) (r := 164) zk_163_1 ?_
      refine zt_iconst zy_282 (show q_ins q_k282 57 = some (.iconst 1, 0, 0) from rfl) ?_
      refine zt_ald zy_282 (show q_ins q_k282 58 = some (.iaload, 0, 0) from rfl) za_164 (by decide) (by decide) ?_
      obtain ⟨hg, h⟩ := zt_ckE h
      refine zt_irem zy_282 (show q_ins q_k282 59 = some (.irem, 0, 0) from rfl) hg.1 hg.2 ?_
      obtain ⟨s10, hs10, h⟩ := zt_letE h
      refine zt_ast zy_282 (show q_ins q_k282 60 = some (.iastore, 0, 0) from rfl) za_164 (by decide) (by decide) ?_
      rw [← hs10]
      refine zt_aload_n zy_282 (show q_ins q_k282 61 = some (.aload_n 0, 0, 0) from rfl) (v := 163) rfl ?_
      refine zt_getR zy_282 (show q_ins q_k282 62 = some (.getfield 13, 11, 1) from rfl) (r := 164) zk_163_1 ?_
      obtain ⟨a11, s12, hca11, h⟩ := zt_bdE h
      refine zt_callS (d := 1) zy_282 (show q_ins q_k282 65 = some (.invokestatic 90, 178, 1) from rfl) zy_178 (by decide) ⟨zq_lt (by decide), by decide⟩ rfl (by simp [Value.category]) (by simp [lg_sl, Value.category]) rfl (zt_dm (by decide) (S_M_starts0 za_164 (by decide) hca11)) ?_
      refine zt_aload_n zy_282 (show q_ins q_k282 68 = some (.aload_n 0, 0, 0) from rfl) (v := 163) rfl ?_
      refine zt_aload_n zy_282 (show q_ins q_k282 69 = some (.aload_n 0, 0, 0) from rfl) (v := 163) rfl ?_
      refine zt_getR zy_282 (show q_ins q_k282 70 = some (.getfield 13, 11, 1) from rfl) (r := 164) zk_163_1 ?_
      refine zt_iload_n zy_282 (show q_ins q_k282 73 = some (.iload_n 1, 0, 0) from rfl) (v := Int32.ofInt v1) rfl ?_
      obtain ⟨a13, s14, hca13, h⟩ := zt_bdE h
      refine zt_callV (d := 1) zy_282 (show q_ins q_k282 74 = some (.invokevirtual 82, 181, 2) from rfl) zy_181 (by decide) ⟨zq_lt (by decide), by decide⟩ rfl (by simp [Value.category]) (by simp [lg_sl, Value.category]) (zt_rcv zc_163) (zt_dm (by decide) (S_M_deals za_164 (by decide) hca13)) ?_
      refine zt_aload_n zy_282 (show q_ins q_k282 77 = some (.aload_n 0, 0, 0) from rfl) (v := 163) rfl ?_
      refine zt_getR zy_282 (show q_ins q_k282 78 = some (.getfield 13, 11, 1) from rfl) (r := 164) zk_163_1 ?_
      refine zt_bipush zy_282 (show q_ins q_k282 81 = some (.bipush 9, 0, 0) from rfl) (by decide) ?_
      refine zt_ald zy_282 (show q_ins q_k282 83 = some (.iaload, 0, 0) from rfl) za_164 (by decide) (by decide) ?_
      cases h
      exact zt_iret zy_282 (show q_ins q_k282 84 = some (.ireturn, 0, 0) from rfl)
  · rw [if_neg hc] at h
    refine zt_iconst zy_282 (show q_ins q_k282 22 = some (.iconst 0, 0, 0) from rfl) ?_
    cases h
    exact zt_iret zy_282 (show q_ins q_k282 23 = some (.ireturn, 0, 0) from rfl)
theorem S_M_setTrump {X : q_X}   {v1 : Int} {σ : zt_S} {o : (Int × zt_S)} (h : F_M_setTrump  v1 σ = some o) : zt_Ex X 2 283 0 (lv_args 0 [.ref 163, .int (Int32.ofInt v1)]) [] (zt_M σ) (zo_I o) := by
  unfold F_M_setTrump at h
  refine zt_aload_n zy_283 (show q_ins q_k283 0 = some (.aload_n 0, 0, 0) from rfl) (v := 163) rfl ?_
  refine zt_iconst zy_283 (show q_ins q_k283 1 = some (.iconst 0, 0, 0) from rfl) ?_
  obtain ⟨s1, hs1, h⟩ := zt_letE h
  refine zt_putI zy_283 (show q_ins q_k283 2 = some (.putfield 1, 11, 0) from rfl) (j := 0) zk_163_0 rfl rfl rfl ?_
  rw [← hs1]
  refine zt_aload_n zy_283 (show q_ins q_k283 5 = some (.aload_n 0, 0, 0) from rfl) (v := 163) rfl ?_
  refine zt_iload_n zy_283 (show q_ins q_k283 6 = some (.iload_n 1, 0, 0) from rfl) (v := Int32.ofInt v1) rfl ?_
  refine zt_i2l zy_283 (show q_ins q_k283 7 = some (.i2l, 0, 0) from rfl) ?_
  refine zt_ldc2 zy_283 (show q_ins q_k283 8 = some (.ldc2_w 393, 0, 18446744073709551615) from rfl) (v := (-1 : Int64)) (by decide) ?_
  refine zt_ldc2 zy_283 (show q_ins q_k283 11 = some (.ldc2_w 317, 0, 3) from rfl) (v := (3 : Int64)) (by decide) ?_
  obtain ⟨a2, s3, hca2, h⟩ := zt_bdE h
  refine zt_callS (d := 1) zy_283 (show q_ins q_k283 14 = some (.invokestatic 170, 171, 3) from rfl) zy_171 (by decide) ⟨zq_lt (by decide), by decide⟩ rfl (by simp [Value.category]) (by simp [lg_sl, Value.category]) rfl (zt_dm (by decide) (S_M_in hca2)) ?_
  refine zt_iconst zy_283 (show q_ins q_k283 17 = some (.iconst 1, 0, 0) from rfl) ?_
  obtain ⟨a4, s5, hca4, h⟩ := zt_bdE h
  refine zt_callV (d := 1) zy_283 (show q_ins q_k283 18 = some (.invokevirtual 227, 174, 2) from rfl) zy_174 (by decide) ⟨zq_lt (by decide), by decide⟩ rfl (by simp [Value.category]) (by simp [lg_sl, Value.category]) (zt_rcv zc_163) (zt_dm (by decide) (S_M_fails hca4)) ?_
  obtain ⟨hg, h⟩ := zt_ckE h
  refine zt_if_eq zy_283 (show q_ins q_k283 21 = some (.ifCond .eq 5, 26, 0) from rfl) (hg) (fun hc => ?_) (fun hc => ?_)
  · rw [if_pos hc] at h
    refine zt_aload_n zy_283 (show q_ins q_k283 26 = some (.aload_n 0, 0, 0) from rfl) (v := 163) rfl ?_
    refine zt_getR zy_283 (show q_ins q_k283 27 = some (.getfield 13, 11, 1) from rfl) (r := 164) zk_163_1 ?_
    refine zt_bipush zy_283 (show q_ins q_k283 30 = some (.bipush 12, 0, 0) from rfl) (by decide) ?_
    refine zt_ald zy_283 (show q_ins q_k283 32 = some (.iaload, 0, 0) from rfl) za_164 (by decide) (by decide) ?_
    obtain ⟨hg, h⟩ := zt_ckE h
    refine zt_if_le zy_283 (show q_ins q_k283 33 = some (.ifCond .le 6, 39, 0) from rfl) (hg) (fun hc => ?_) (fun hc => ?_)
    · rw [if_pos hc] at h
      refine zt_bipush zy_283 (show q_ins q_k283 36 = some (.bipush (-2), 0, 0) from rfl) (by decide) ?_
      cases h
      exact zt_iret zy_283 (show q_ins q_k283 38 = some (.ireturn, 0, 0) from rfl)
    · rw [if_neg hc] at h
      refine zt_aload_n zy_283 (show q_ins q_k283 39 = some (.aload_n 0, 0, 0) from rfl) (v := 163) rfl ?_
      obtain ⟨a6, s7, hca6, h⟩ := zt_bdE h
      refine zt_callV (d := 1) zy_283 (show q_ins q_k283 40 = some (.invokevirtual 374, 276, 0) from rfl) zy_276 (by decide) ⟨zq_lt (by decide), by decide⟩ rfl (by simp [Value.category]) (by simp [lg_sl, Value.category]) (zt_rcv zc_163) (zt_dm (by decide) (S_M_keeps hca6)) ?_
      refine zt_aload_n zy_283 (show q_ins q_k283 43 = some (.aload_n 0, 0, 0) from rfl) (v := 163) rfl ?_
      refine zt_getR zy_283 (show q_ins q_k283 44 = some (.getfield 13, 11, 1) from rfl) (r := 164) zk_163_1 ?_
      refine zt_iconst zy_283 (show q_ins q_k283 47 = some (.iconst 4, 0, 0) from rfl) ?_
      refine zt_ald zy_283 (show q_ins q_k283 48 = some (.iaload, 0, 0) from rfl) za_164 (by decide) (by decide) ?_
      refine zt_istore_n zy_283 (show q_ins q_k283 49 = some (.istore_n 2, 0, 0) from rfl) (by decide) ?_
      refine zt_aload_n zy_283 (show q_ins q_k283 50 = some (.aload_n 0, 0, 0) from rfl) (v := 163) rfl ?_
      refine zt_getR zy_283 (show q_ins q_k283 51 = some (.getfield 13, 11, 1) from rfl) (r := 164) zk_163_1 ?_
      refine zt_iconst zy_283 (show q_ins q_k283 54 = some (.iconst 4, 0, 0) from rfl) ?_
      refine zt_iload_n zy_283 (show q_ins q_k283 55 = some (.iload_n 1, 0, 0) from rfl) (v := Int32.ofInt v1) rfl ?_
      obtain ⟨s8, hs8, h⟩ := zt_letE h
      refine zt_ast zy_283 (show q_ins q_k283 56 = some (.iastore, 0, 0) from rfl) za_164 (by decide) (by decide) ?_
      rw [← hs8]
      refine zt_aload_n zy_283 (show q_ins q_k283 57 = some (.aload_n 0, 0, 0) from rfl) (v := 163) rfl ?_
      refine zt_getR zy_283 (show q_ins q_k283 58 = some (.getfield 13, 11, 1) from rfl) (r := 164) zk_163_1 ?_
      obtain ⟨a9, s10, hca9, h⟩ := zt_bdE h
      refine zt_callS (d := 1) zy_283 (show q_ins q_k283 61 = some (.invokestatic 94, 179, 1) from rfl) zy_179 (by decide) ⟨zq_lt (by decide), by decide⟩ rfl (by simp [Value.category]) (by simp [lg_sl, Value.category]) rfl (zt_dm (by decide) (S_M_lights za_164 (by decide) hca9)) ?_
      refine zt_iload_n zy_283 (show q_ins q_k283 64 = some (.iload_n 2, 0, 0) from rfl) (v := Int32.ofInt (s7.1 164 (4 : Int))) rfl ?_
      refine zt_iconst zy_283 (show q_ins q_k283 65 = some (.iconst 1, 0, 0) from rfl) ?_
      refine zt_iadd zy_283 (show q_ins q_k283 66 = some (.iadd, 0, 0) from rfl) ?_
      cases h
      exact zt_iret zy_283 (show q_ins q_k283 67 = some (.ireturn, 0, 0) from rfl)
  · rw [if_neg hc] at h
    refine zt_iconst zy_283 (show q_ins q_k283 24 = some (.iconst 0, 0, 0) from rfl) ?_
    cases h
    exact zt_iret zy_283 (show q_ins q_k283 25 = some (.ireturn, 0, 0) from rfl)
theorem S_M_sets {X : q_X}   {v1 : Int} {v2 : Int} {σ : zt_S} {o : (Int × zt_S)} (h : F_M_sets  v1 v2 σ = some o) : zt_Ex X 2 284 0 (lv_args 0 [.ref 163, .int (Int32.ofInt v1), .int (Int32.ofInt v2)]) [] (zt_M σ) (zo_I o) := by
  unfold F_M_sets at h
  refine zt_aload_n zy_284 (show q_ins q_k284 0 = some (.aload_n 0, 0, 0) from rfl) (v := 163) rfl ?_
  obtain ⟨a1, s2, hca1, h⟩ := zt_bdE h
  refine zt_callV (d := 1) zy_284 (show q_ins q_k284 1 = some (.invokevirtual 374, 276, 0) from rfl) zy_276 (by decide) ⟨zq_lt (by decide), by decide⟩ rfl (by simp [Value.category]) (by simp [lg_sl, Value.category]) (zt_rcv zc_163) (zt_dm (by decide) (S_M_keeps hca1)) ?_
  refine zt_aload_n zy_284 (show q_ins q_k284 4 = some (.aload_n 0, 0, 0) from rfl) (v := 163) rfl ?_
  refine zt_getR zy_284 (show q_ins q_k284 5 = some (.getfield 13, 11, 1) from rfl) (r := 164) zk_163_1 ?_
  refine zt_iload_n zy_284 (show q_ins q_k284 8 = some (.iload_n 1, 0, 0) from rfl) (v := Int32.ofInt v1) rfl ?_
  obtain ⟨hg, h⟩ := zt_ckE h
  refine zt_ald zy_284 (show q_ins q_k284 9 = some (.iaload, 0, 0) from rfl) za_164 (by decide) hg ?_
  refine zt_istore_n zy_284 (show q_ins q_k284 10 = some (.istore_n 3, 0, 0) from rfl) (by decide) ?_
  refine zt_aload_n zy_284 (show q_ins q_k284 11 = some (.aload_n 0, 0, 0) from rfl) (v := 163) rfl ?_
  refine zt_getR zy_284 (show q_ins q_k284 12 = some (.getfield 13, 11, 1) from rfl) (r := 164) zk_163_1 ?_
  refine zt_iload_n zy_284 (show q_ins q_k284 15 = some (.iload_n 1, 0, 0) from rfl) (v := Int32.ofInt v1) rfl ?_
  refine zt_iload_n zy_284 (show q_ins q_k284 16 = some (.iload_n 2, 0, 0) from rfl) (v := Int32.ofInt v2) rfl ?_
  obtain ⟨hg, h⟩ := zt_ckE h
  obtain ⟨s3, hs3, h⟩ := zt_letE h
  refine zt_ast zy_284 (show q_ins q_k284 17 = some (.iastore, 0, 0) from rfl) za_164 (by decide) hg ?_
  rw [← hs3]
  refine zt_iload_n zy_284 (show q_ins q_k284 18 = some (.iload_n 3, 0, 0) from rfl) (v := Int32.ofInt (s2.1 164 v1)) rfl ?_
  cases h
  exact zt_iret zy_284 (show q_ins q_k284 19 = some (.ireturn, 0, 0) from rfl)
theorem S_M_setRule_42 {X : q_X}   : ∀ (x0 : Int) (σ : zt_S) (o : (Int × zt_S)), F_M_setRule_42  x0 σ = some o → zt_Ex X 3 285 42 [] [.int (Int32.ofInt x0)] (zt_M σ) (zo_I o) := by
  intro x0 σ o  h
  unfold F_M_setRule_42 at h
  cases h
  exact zt_iret zy_285 (show q_ins q_k285 42 = some (.ireturn, 0, 0) from rfl)
theorem S_M_setRule {X : q_X}   {v1 : Int} {σ : zt_S} {o : (Int × zt_S)} (h : F_M_setRule  v1 σ = some o) : zt_Ex X 3 285 0 (lv_args 0 [.ref 163, .int (Int32.ofInt v1)]) [] (zt_M σ) (zo_I o) := by
  unfold F_M_setRule at h
  refine zt_aload_n zy_285 (show q_ins q_k285 0 = some (.aload_n 0, 0, 0) from rfl) (v := 163) rfl ?_
  refine zt_iconst zy_285 (show q_ins q_k285 1 = some (.iconst 0, 0, 0) from rfl) ?_
  obtain ⟨s1, hs1, h⟩ := zt_letE h
  refine zt_putI zy_285 (show q_ins q_k285 2 = some (.putfield 1, 11, 0) from rfl) (j := 0) zk_163_0 rfl rfl rfl ?_
  rw [← hs1]
  refine zt_aload_n zy_285 (show q_ins q_k285 5 = some (.aload_n 0, 0, 0) from rfl) (v := 163) rfl ?_
  refine zt_iload_n zy_285 (show q_ins q_k285 6 = some (.iload_n 1, 0, 0) from rfl) (v := Int32.ofInt v1) rfl ?_
  refine zt_i2l zy_285 (show q_ins q_k285 7 = some (.i2l, 0, 0) from rfl) ?_
  refine zt_lconst zy_285 (show q_ins q_k285 8 = some (.lconst 0, 0, 0) from rfl) (v := (0 : Int64)) (by decide) ?_
  refine zt_ldc2 zy_285 (show q_ins q_k285 9 = some (.ldc2_w 317, 0, 3) from rfl) (v := (3 : Int64)) (by decide) ?_
  obtain ⟨a2, s3, hca2, h⟩ := zt_bdE h
  refine zt_callS (d := 2) zy_285 (show q_ins q_k285 12 = some (.invokestatic 170, 171, 3) from rfl) zy_171 (by decide) ⟨zq_lt (by decide), by decide⟩ rfl (by simp [Value.category]) (by simp [lg_sl, Value.category]) rfl (zt_dm (by decide) (S_M_in hca2)) ?_
  refine zt_iconst zy_285 (show q_ins q_k285 15 = some (.iconst 1, 0, 0) from rfl) ?_
  obtain ⟨a4, s5, hca4, h⟩ := zt_bdE h
  refine zt_callV (d := 2) zy_285 (show q_ins q_k285 16 = some (.invokevirtual 227, 174, 2) from rfl) zy_174 (by decide) ⟨zq_lt (by decide), by decide⟩ rfl (by simp [Value.category]) (by simp [lg_sl, Value.category]) (zt_rcv zc_163) (zt_dm (by decide) (S_M_fails hca4)) ?_
  obtain ⟨hg, h⟩ := zt_ckE h
  refine zt_if_eq zy_285 (show q_ins q_k285 19 = some (.ifCond .eq 5, 24, 0) from rfl) (hg) (fun hc => ?_) (fun hc => ?_)
  · rw [if_pos hc] at h
    refine zt_aload_n zy_285 (show q_ins q_k285 24 = some (.aload_n 0, 0, 0) from rfl) (v := 163) rfl ?_
    obtain ⟨a6, s7, hca6, h⟩ := zt_bdE h
    refine zt_callV (d := 2) zy_285 (show q_ins q_k285 25 = some (.invokevirtual 251, 212, 0) from rfl) zy_212 (by decide) ⟨zq_lt (by decide), by decide⟩ rfl (by simp [Value.category]) (by simp [lg_sl, Value.category]) (zt_rcv zc_163) (zt_dm (by decide) (S_M_inTrick hca6)) ?_
    obtain ⟨hg, h⟩ := zt_ckE h
    refine zt_if_le zy_285 (show q_ins q_k285 28 = some (.ifCond .le 8, 36, 0) from rfl) (hg) (fun hc => ?_) (fun hc => ?_)
    · rw [if_pos hc] at h
      refine zt_bipush zy_285 (show q_ins q_k285 31 = some (.bipush (-2), 0, 0) from rfl) (by decide) ?_
      refine zt_goto zy_285 (show q_ins q_k285 33 = some (.goto 9, 42, 0) from rfl) ?_
      exact zt_wk (zt_cov_nil) (S_M_setRule_42  _ _ _ h)
    · rw [if_neg hc] at h
      refine zt_aload_n zy_285 (show q_ins q_k285 36 = some (.aload_n 0, 0, 0) from rfl) (v := 163) rfl ?_
      refine zt_iconst zy_285 (show q_ins q_k285 37 = some (.iconst 3, 0, 0) from rfl) ?_
      refine zt_iload_n zy_285 (show q_ins q_k285 38 = some (.iload_n 1, 0, 0) from rfl) (v := Int32.ofInt v1) rfl ?_
      obtain ⟨a8, s9, hca8, h⟩ := zt_bdE h
      refine zt_callV (d := 2) zy_285 (show q_ins q_k285 39 = some (.invokevirtual 395, 284, 2) from rfl) zy_284 (by decide) ⟨zq_lt (by decide), by decide⟩ rfl (by simp [Value.category]) (by simp [lg_sl, Value.category]) (zt_rcv zc_163) (zt_dm (by decide) (S_M_sets hca8)) ?_
      exact zt_wk (zt_cov_nil) (S_M_setRule_42  _ _ _ h)
  · rw [if_neg hc] at h
    refine zt_iconst zy_285 (show q_ins q_k285 22 = some (.iconst 0, 0, 0) from rfl) ?_
    cases h
    exact zt_iret zy_285 (show q_ins q_k285 23 = some (.ireturn, 0, 0) from rfl)
theorem S_M_setFade_33 {X : q_X}   : ∀ (x0 : Int) (σ : zt_S) (o : (Int × zt_S)), F_M_setFade_33  x0 σ = some o → zt_Ex X 3 286 33 [] [.int (Int32.ofInt x0)] (zt_M σ) (zo_I o) := by
  intro x0 σ o  h
  unfold F_M_setFade_33 at h
  cases h
  exact zt_iret zy_286 (show q_ins q_k286 33 = some (.ireturn, 0, 0) from rfl)
theorem S_M_setFade {X : q_X}   {v1 : Int} {σ : zt_S} {o : (Int × zt_S)} (h : F_M_setFade  v1 σ = some o) : zt_Ex X 3 286 0 (lv_args 0 [.ref 163, .int (Int32.ofInt v1)]) [] (zt_M σ) (zo_I o) := by
  unfold F_M_setFade at h
  refine zt_aload_n zy_286 (show q_ins q_k286 0 = some (.aload_n 0, 0, 0) from rfl) (v := 163) rfl ?_
  refine zt_iconst zy_286 (show q_ins q_k286 1 = some (.iconst 0, 0, 0) from rfl) ?_
  obtain ⟨s1, hs1, h⟩ := zt_letE h
  refine zt_putI zy_286 (show q_ins q_k286 2 = some (.putfield 1, 11, 0) from rfl) (j := 0) zk_163_0 rfl rfl rfl ?_
  rw [← hs1]
  refine zt_aload_n zy_286 (show q_ins q_k286 5 = some (.aload_n 0, 0, 0) from rfl) (v := 163) rfl ?_
  refine zt_iload_n zy_286 (show q_ins q_k286 6 = some (.iload_n 1, 0, 0) from rfl) (v := Int32.ofInt v1) rfl ?_
  refine zt_i2l zy_286 (show q_ins q_k286 7 = some (.i2l, 0, 0) from rfl) ?_
  refine zt_lconst zy_286 (show q_ins q_k286 8 = some (.lconst 0, 0, 0) from rfl) (v := (0 : Int64)) (by decide) ?_
  refine zt_ldc2 zy_286 (show q_ins q_k286 9 = some (.ldc2_w 398, 0, 9) from rfl) (v := (9 : Int64)) (by decide) ?_
  obtain ⟨a2, s3, hca2, h⟩ := zt_bdE h
  refine zt_callS (d := 2) zy_286 (show q_ins q_k286 12 = some (.invokestatic 170, 171, 3) from rfl) zy_171 (by decide) ⟨zq_lt (by decide), by decide⟩ rfl (by simp [Value.category]) (by simp [lg_sl, Value.category]) rfl (zt_dm (by decide) (S_M_in hca2)) ?_
  refine zt_iconst zy_286 (show q_ins q_k286 15 = some (.iconst 1, 0, 0) from rfl) ?_
  obtain ⟨a4, s5, hca4, h⟩ := zt_bdE h
  refine zt_callV (d := 2) zy_286 (show q_ins q_k286 16 = some (.invokevirtual 227, 174, 2) from rfl) zy_174 (by decide) ⟨zq_lt (by decide), by decide⟩ rfl (by simp [Value.category]) (by simp [lg_sl, Value.category]) (zt_rcv zc_163) (zt_dm (by decide) (S_M_fails hca4)) ?_
  obtain ⟨hg, h⟩ := zt_ckE h
  refine zt_if_eq zy_286 (show q_ins q_k286 19 = some (.ifCond .eq 7, 26, 0) from rfl) (hg) (fun hc => ?_) (fun hc => ?_)
  · rw [if_pos hc] at h
    refine zt_aload_n zy_286 (show q_ins q_k286 26 = some (.aload_n 0, 0, 0) from rfl) (v := 163) rfl ?_
    refine zt_bipush zy_286 (show q_ins q_k286 27 = some (.bipush 6, 0, 0) from rfl) (by decide) ?_
    refine zt_iload_n zy_286 (show q_ins q_k286 29 = some (.iload_n 1, 0, 0) from rfl) (v := Int32.ofInt v1) rfl ?_
    obtain ⟨a6, s7, hca6, h⟩ := zt_bdE h
    refine zt_callV (d := 2) zy_286 (show q_ins q_k286 30 = some (.invokevirtual 395, 284, 2) from rfl) zy_284 (by decide) ⟨zq_lt (by decide), by decide⟩ rfl (by simp [Value.category]) (by simp [lg_sl, Value.category]) (zt_rcv zc_163) (zt_dm (by decide) (S_M_sets hca6)) ?_
    exact zt_wk (zt_cov_nil) (S_M_setFade_33  _ _ _ h)
  · rw [if_neg hc] at h
    refine zt_iconst zy_286 (show q_ins q_k286 22 = some (.iconst 0, 0, 0) from rfl) ?_
    refine zt_goto zy_286 (show q_ins q_k286 23 = some (.goto 10, 33, 0) from rfl) ?_
    exact zt_wk (zt_cov_nil) (S_M_setFade_33  _ _ _ h)
theorem S_M_setRevive_17 {X : q_X}   : ∀ (x0 : Int) (x1 : Int) (σ : zt_S) (o : (Int × zt_S)), F_M_setRevive_17  x0 x1 σ = some o → zt_Ex X 3 287 17 [] [.int (Int32.ofInt x0), .int (Int32.ofInt x1), .ref 163] (zt_M σ) (zo_I o) := by
  intro x0 x1 σ o  h
  unfold F_M_setRevive_17 at h
  obtain ⟨a2, s3, hca2, h⟩ := zt_bdE h
  refine zt_callV (d := 2) zy_287 (show q_ins q_k287 17 = some (.invokevirtual 395, 284, 2) from rfl) zy_284 (by decide) ⟨zq_lt (by decide), by decide⟩ rfl (by simp [Value.category]) (by simp [lg_sl, Value.category]) (zt_rcv zc_163) (zt_dm (by decide) (S_M_sets hca2)) ?_
  cases h
  exact zt_iret zy_287 (show q_ins q_k287 20 = some (.ireturn, 0, 0) from rfl)
theorem S_M_setRevive {X : q_X}   {v1 : Int} {σ : zt_S} {o : (Int × zt_S)} (h : F_M_setRevive  v1 σ = some o) : zt_Ex X 3 287 0 (lv_args 0 [.ref 163, .int (Int32.ofInt v1)]) [] (zt_M σ) (zo_I o) := by
  unfold F_M_setRevive at h
  refine zt_aload_n zy_287 (show q_ins q_k287 0 = some (.aload_n 0, 0, 0) from rfl) (v := 163) rfl ?_
  refine zt_iconst zy_287 (show q_ins q_k287 1 = some (.iconst 0, 0, 0) from rfl) ?_
  obtain ⟨s1, hs1, h⟩ := zt_letE h
  refine zt_putI zy_287 (show q_ins q_k287 2 = some (.putfield 1, 11, 0) from rfl) (j := 0) zk_163_0 rfl rfl rfl ?_
  rw [← hs1]
  refine zt_aload_n zy_287 (show q_ins q_k287 5 = some (.aload_n 0, 0, 0) from rfl) (v := 163) rfl ?_
  refine zt_bipush zy_287 (show q_ins q_k287 6 = some (.bipush 7, 0, 0) from rfl) (by decide) ?_
  refine zt_iload_n zy_287 (show q_ins q_k287 8 = some (.iload_n 1, 0, 0) from rfl) (v := Int32.ofInt v1) rfl ?_
  obtain ⟨hg, h⟩ := zt_ckE h
  refine zt_if_eq zy_287 (show q_ins q_k287 9 = some (.ifCond .eq 7, 16, 0) from rfl) (hg) (fun hc => ?_) (fun hc => ?_)
  · rw [if_pos hc] at h
    refine zt_iconst zy_287 (show q_ins q_k287 16 = some (.iconst 0, 0, 0) from rfl) ?_
    exact zt_wk (zt_cov_nil) (S_M_setRevive_17  _ _ _ _ h)
  · rw [if_neg hc] at h
    refine zt_iconst zy_287 (show q_ins q_k287 12 = some (.iconst 1, 0, 0) from rfl) ?_
    refine zt_goto zy_287 (show q_ins q_k287 13 = some (.goto 4, 17, 0) from rfl) ?_
    exact zt_wk (zt_cov_nil) (S_M_setRevive_17  _ _ _ _ h)
theorem S_M_undoCount {X : q_X}    {σ : zt_S} {o : (Int × zt_S)} (h : F_M_undoCount   σ = some o) : zt_Ex X 0 288 0 (lv_args 0 [.ref 163]) [] (zt_M σ) (zo_I o) := by
  unfold F_M_undoCount at h
  refine zt_aload_n zy_288 (show q_ins q_k288 0 = some (.aload_n 0, 0, 0) from rfl) (v := 163) rfl ?_
  refine zt_iconst zy_288 (show q_ins q_k288 1 = some (.iconst 0, 0, 0) from rfl) ?_
  obtain ⟨s1, hs1, h⟩ := zt_letE h
  refine zt_putI zy_288 (show q_ins q_k288 2 = some (.putfield 1, 11, 0) from rfl) (j := 0) zk_163_0 rfl rfl rfl ?_
  rw [← hs1]
  refine zt_aload_n zy_288 (show q_ins q_k288 5 = some (.aload_n 0, 0, 0) from rfl) (v := 163) rfl ?_
  refine zt_getI zy_288 (show q_ins q_k288 6 = some (.getfield 237, 11, 5) from rfl) (j := 5) zk_163_5 rfl ?_
  cases h
  exact zt_iret zy_288 (show q_ins q_k288 9 = some (.ireturn, 0, 0) from rfl)
theorem S_M_undo {X : q_X}    {σ : zt_S} {o : (Int × zt_S)} (h : F_M_undo   σ = some o) : zt_Ex X 1 289 0 (lv_args 0 [.ref 163]) [] (zt_M σ) (zo_I o) := by
  unfold F_M_undo at h
  refine zt_aload_n zy_289 (show q_ins q_k289 0 = some (.aload_n 0, 0, 0) from rfl) (v := 163) rfl ?_
  refine zt_iconst zy_289 (show q_ins q_k289 1 = some (.iconst 0, 0, 0) from rfl) ?_
  obtain ⟨s1, hs1, h⟩ := zt_letE h
  refine zt_putI zy_289 (show q_ins q_k289 2 = some (.putfield 1, 11, 0) from rfl) (j := 0) zk_163_0 rfl rfl rfl ?_
  rw [← hs1]
  refine zt_aload_n zy_289 (show q_ins q_k289 5 = some (.aload_n 0, 0, 0) from rfl) (v := 163) rfl ?_
  refine zt_getI zy_289 (show q_ins q_k289 6 = some (.getfield 237, 11, 5) from rfl) (j := 5) zk_163_5 rfl ?_
  obtain ⟨hg, h⟩ := zt_ckE h
  refine zt_if_ne zy_289 (show q_ins q_k289 9 = some (.ifCond .ne 5, 14, 0) from rfl) (hg) (fun hc => ?_) (fun hc => ?_)
  · rw [if_pos hc] at h
    refine zt_iconst zy_289 (show q_ins q_k289 12 = some (.iconst (-1), 0, 0) from rfl) ?_
    cases h
    exact zt_iret zy_289 (show q_ins q_k289 13 = some (.ireturn, 0, 0) from rfl)
  · rw [if_neg hc] at h
    refine zt_aload_n zy_289 (show q_ins q_k289 14 = some (.aload_n 0, 0, 0) from rfl) (v := 163) rfl ?_
    refine zt_dup zy_289 (show q_ins q_k289 15 = some (.dup, 0, 0) from rfl) rfl ?_
    refine zt_getI zy_289 (show q_ins q_k289 16 = some (.getfield 237, 11, 5) from rfl) (j := 5) zk_163_5 rfl ?_
    refine zt_iconst zy_289 (show q_ins q_k289 19 = some (.iconst 1, 0, 0) from rfl) ?_
    refine zt_isub zy_289 (show q_ins q_k289 20 = some (.isub, 0, 0) from rfl) ?_
    obtain ⟨s2, hs2, h⟩ := zt_letE h
    refine zt_putI zy_289 (show q_ins q_k289 21 = some (.putfield 237, 11, 5) from rfl) (j := 5) zk_163_5 rfl rfl rfl ?_
    rw [← hs2]
    refine zt_aload_n zy_289 (show q_ins q_k289 24 = some (.aload_n 0, 0, 0) from rfl) (v := 163) rfl ?_
    refine zt_getR zy_289 (show q_ins q_k289 25 = some (.getfield 23, 11, 4) from rfl) (r := 167) zk_163_4 ?_
    refine zt_sipush zy_289 (show q_ins q_k289 28 = some (.sipush 274, 0, 0) from rfl) (by decide) ?_
    refine zt_aload_n zy_289 (show q_ins q_k289 31 = some (.aload_n 0, 0, 0) from rfl) (v := 163) rfl ?_
    refine zt_getI zy_289 (show q_ins q_k289 32 = some (.getfield 237, 11, 5) from rfl) (j := 5) zk_163_5 rfl ?_
    refine zt_imul zy_289 (show q_ins q_k289 35 = some (.imul, 0, 0) from rfl) ?_
    refine zt_aload_n zy_289 (show q_ins q_k289 36 = some (.aload_n 0, 0, 0) from rfl) (v := 163) rfl ?_
    refine zt_getR zy_289 (show q_ins q_k289 37 = some (.getfield 13, 11, 1) from rfl) (r := 164) zk_163_1 ?_
    refine zt_iconst zy_289 (show q_ins q_k289 40 = some (.iconst 0, 0, 0) from rfl) ?_
    obtain ⟨a3, s4, hca3, h⟩ := zt_bdE h
    refine zt_callS (d := 0) zy_289 (show q_ins q_k289 41 = some (.invokestatic 86, 176, 4) from rfl) zy_176 (by decide) ⟨zq_lt (by decide), by decide⟩ rfl (by simp [Value.category]) (by simp [lg_sl, Value.category]) rfl (zt_dm (by decide) (S_M_copies za_167 (by decide) za_164 (by decide) hca3)) ?_
    refine zt_aload_n zy_289 (show q_ins q_k289 44 = some (.aload_n 0, 0, 0) from rfl) (v := 163) rfl ?_
    refine zt_getI zy_289 (show q_ins q_k289 45 = some (.getfield 237, 11, 5) from rfl) (j := 5) zk_163_5 rfl ?_
    cases h
    exact zt_iret zy_289 (show q_ins q_k289 48 = some (.ireturn, 0, 0) from rfl)
theorem S_M_saveSnapshot {X : q_X}    {σ : zt_S} {o : (Unit × zt_S)} (h : F_M_saveSnapshot   σ = some o) : zt_Ex X 1 290 0 (lv_args 0 [.ref 163]) [] (zt_M σ) (zo_V o) := by
  unfold F_M_saveSnapshot at h
  refine zt_aload_n zy_290 (show q_ins q_k290 0 = some (.aload_n 0, 0, 0) from rfl) (v := 163) rfl ?_
  refine zt_iconst zy_290 (show q_ins q_k290 1 = some (.iconst 0, 0, 0) from rfl) ?_
  obtain ⟨s1, hs1, h⟩ := zt_letE h
  refine zt_putI zy_290 (show q_ins q_k290 2 = some (.putfield 1, 11, 0) from rfl) (j := 0) zk_163_0 rfl rfl rfl ?_
  rw [← hs1]
  refine zt_aload_n zy_290 (show q_ins q_k290 5 = some (.aload_n 0, 0, 0) from rfl) (v := 163) rfl ?_
  refine zt_getR zy_290 (show q_ins q_k290 6 = some (.getfield 13, 11, 1) from rfl) (r := 164) zk_163_1 ?_
  refine zt_iconst zy_290 (show q_ins q_k290 9 = some (.iconst 0, 0, 0) from rfl) ?_
  refine zt_aload_n zy_290 (show q_ins q_k290 10 = some (.aload_n 0, 0, 0) from rfl) (v := 163) rfl ?_
  refine zt_getR zy_290 (show q_ins q_k290 11 = some (.getfield 20, 11, 3) from rfl) (r := 166) zk_163_3 ?_
  refine zt_iconst zy_290 (show q_ins q_k290 14 = some (.iconst 0, 0, 0) from rfl) ?_
  obtain ⟨a2, s3, hca2, h⟩ := zt_bdE h
  refine zt_callS (d := 0) zy_290 (show q_ins q_k290 15 = some (.invokestatic 86, 176, 4) from rfl) zy_176 (by decide) ⟨zq_lt (by decide), by decide⟩ rfl (by simp [Value.category]) (by simp [lg_sl, Value.category]) rfl (zt_dm (by decide) (S_M_copies za_164 (by decide) za_166 (by decide) hca2)) ?_
  refine zt_aload_n zy_290 (show q_ins q_k290 18 = some (.aload_n 0, 0, 0) from rfl) (v := 163) rfl ?_
  refine zt_iconst zy_290 (show q_ins q_k290 19 = some (.iconst 1, 0, 0) from rfl) ?_
  obtain ⟨s4, hs4, h⟩ := zt_letE h
  refine zt_putZ zy_290 (show q_ins q_k290 20 = some (.putfield 240, 11, 6) from rfl) (j := 6) zk_163_6 rfl rfl (by decide) rfl ?_
  rw [← hs4]
  cases h
  exact zt_ret zy_290 (show q_ins q_k290 23 = some (.return_, 0, 0) from rfl)
theorem S_M_restoreSnapshot {X : q_X}    {σ : zt_S} {o : (Int × zt_S)} (h : F_M_restoreSnapshot   σ = some o) : zt_Ex X 1 291 0 (lv_args 0 [.ref 163]) [] (zt_M σ) (zo_I o) := by
  unfold F_M_restoreSnapshot at h
  refine zt_aload_n zy_291 (show q_ins q_k291 0 = some (.aload_n 0, 0, 0) from rfl) (v := 163) rfl ?_
  refine zt_iconst zy_291 (show q_ins q_k291 1 = some (.iconst 0, 0, 0) from rfl) ?_
  obtain ⟨s1, hs1, h⟩ := zt_letE h
  refine zt_putI zy_291 (show q_ins q_k291 2 = some (.putfield 1, 11, 0) from rfl) (j := 0) zk_163_0 rfl rfl rfl ?_
  rw [← hs1]
  refine zt_aload_n zy_291 (show q_ins q_k291 5 = some (.aload_n 0, 0, 0) from rfl) (v := 163) rfl ?_
  refine zt_getI zy_291 (show q_ins q_k291 6 = some (.getfield 240, 11, 6) from rfl) (j := 6) zk_163_6 rfl ?_
  obtain ⟨hg, h⟩ := zt_ckE h
  refine zt_if_ne zy_291 (show q_ins q_k291 9 = some (.ifCond .ne 5, 14, 0) from rfl) (hg) (fun hc => ?_) (fun hc => ?_)
  · rw [if_pos hc] at h
    refine zt_iconst zy_291 (show q_ins q_k291 12 = some (.iconst 0, 0, 0) from rfl) ?_
    cases h
    exact zt_zret zy_291 (show q_ins q_k291 13 = some (.ireturn, 0, 0) from rfl) (by decide)
  · rw [if_neg hc] at h
    refine zt_aload_n zy_291 (show q_ins q_k291 14 = some (.aload_n 0, 0, 0) from rfl) (v := 163) rfl ?_
    refine zt_getR zy_291 (show q_ins q_k291 15 = some (.getfield 20, 11, 3) from rfl) (r := 166) zk_163_3 ?_
    refine zt_iconst zy_291 (show q_ins q_k291 18 = some (.iconst 0, 0, 0) from rfl) ?_
    refine zt_aload_n zy_291 (show q_ins q_k291 19 = some (.aload_n 0, 0, 0) from rfl) (v := 163) rfl ?_
    refine zt_getR zy_291 (show q_ins q_k291 20 = some (.getfield 13, 11, 1) from rfl) (r := 164) zk_163_1 ?_
    refine zt_iconst zy_291 (show q_ins q_k291 23 = some (.iconst 0, 0, 0) from rfl) ?_
    obtain ⟨a2, s3, hca2, h⟩ := zt_bdE h
    refine zt_callS (d := 0) zy_291 (show q_ins q_k291 24 = some (.invokestatic 86, 176, 4) from rfl) zy_176 (by decide) ⟨zq_lt (by decide), by decide⟩ rfl (by simp [Value.category]) (by simp [lg_sl, Value.category]) rfl (zt_dm (by decide) (S_M_copies za_166 (by decide) za_164 (by decide) hca2)) ?_
    refine zt_aload_n zy_291 (show q_ins q_k291 27 = some (.aload_n 0, 0, 0) from rfl) (v := 163) rfl ?_
    refine zt_iconst zy_291 (show q_ins q_k291 28 = some (.iconst 0, 0, 0) from rfl) ?_
    obtain ⟨s4, hs4, h⟩ := zt_letE h
    refine zt_putI zy_291 (show q_ins q_k291 29 = some (.putfield 237, 11, 5) from rfl) (j := 5) zk_163_5 rfl rfl rfl ?_
    rw [← hs4]
    refine zt_iconst zy_291 (show q_ins q_k291 32 = some (.iconst 1, 0, 0) from rfl) ?_
    cases h
    exact zt_zret zy_291 (show q_ins q_k291 33 = some (.ireturn, 0, 0) from rfl) (by decide)
theorem S_M_writes {X : q_X}   {v1 : Int} {σ : zt_S} {o : (Unit × zt_S)} (h : F_M_writes  v1 σ = some o) : zt_Ex X 0 292 0 (lv_args 0 [.ref 163, .int (Int32.ofInt v1)]) [] (zt_M σ) (zo_V o) := by
  unfold F_M_writes at h
  refine zt_aload_n zy_292 (show q_ins q_k292 0 = some (.aload_n 0, 0, 0) from rfl) (v := 163) rfl ?_
  refine zt_getR zy_292 (show q_ins q_k292 1 = some (.getfield 66, 11, 30) from rfl) (r := 180) zk_163_30 ?_
  refine zt_aload_n zy_292 (show q_ins q_k292 4 = some (.aload_n 0, 0, 0) from rfl) (v := 163) rfl ?_
  refine zt_getI zy_292 (show q_ins q_k292 5 = some (.getfield 400, 11, 31) from rfl) (j := 31) zk_163_31 rfl ?_
  refine zt_iload_n zy_292 (show q_ins q_k292 8 = some (.iload_n 1, 0, 0) from rfl) (v := Int32.ofInt v1) rfl ?_
  obtain ⟨hg, h⟩ := zt_ckE h
  obtain ⟨s1, hs1, h⟩ := zt_letE h
  refine zt_ast zy_292 (show q_ins q_k292 9 = some (.iastore, 0, 0) from rfl) za_180 (by decide) hg ?_
  rw [← hs1]
  refine zt_aload_n zy_292 (show q_ins q_k292 10 = some (.aload_n 0, 0, 0) from rfl) (v := 163) rfl ?_
  refine zt_dup zy_292 (show q_ins q_k292 11 = some (.dup, 0, 0) from rfl) rfl ?_
  refine zt_getI zy_292 (show q_ins q_k292 12 = some (.getfield 400, 11, 31) from rfl) (j := 31) zk_163_31 rfl ?_
  refine zt_iconst zy_292 (show q_ins q_k292 15 = some (.iconst 1, 0, 0) from rfl) ?_
  refine zt_iadd zy_292 (show q_ins q_k292 16 = some (.iadd, 0, 0) from rfl) ?_
  obtain ⟨s2, hs2, h⟩ := zt_letE h
  refine zt_putI zy_292 (show q_ins q_k292 17 = some (.putfield 400, 11, 31) from rfl) (j := 31) zk_163_31 rfl rfl rfl ?_
  rw [← hs2]
  cases h
  exact zt_ret zy_292 (show q_ins q_k292 20 = some (.return_, 0, 0) from rfl)
theorem S_M_format_132 {X : q_X}   {r27 : Int → Int → zt_S → Option (Int × zt_S)} (hr27 : ∀ (v1 : Int) (v2 : Int) (σ : zt_S) (o : (Int × zt_S)), r27 v1 v2 σ = some o → zt_Ex X 2 293 27 [(0, .ref 163), (1, .int (Int32.ofInt v1)), (2, .int (Int32.ofInt v2))] [] (zt_M σ) (zo_I o)) : ∀ (v1 : Int) (v2 : Int) (σ : zt_S) (o : (Int × zt_S)), F_M_format_132  r27 v1 v2 σ = some o → zt_Ex X 2 293 132 [(0, .ref 163), (1, .int (Int32.ofInt v1)), (2, .int (Int32.ofInt v2))] [] (zt_M σ) (zo_I o) := by
  intro v1 v2 σ o  h
  unfold F_M_format_132 at h
  refine zt_iinc zy_293 (show q_ins q_k293 132 = some (.iinc 2 1, 0, 0) from rfl) (v := v2) (by decide) rfl ?_
  refine zt_goto zy_293 (show q_ins q_k293 135 = some (.goto (-108), 27, 0) from rfl) ?_
  exact zt_wk (zt_cov_cons rfl (zt_cov_cons rfl (zt_cov_cons rfl (zt_cov_nil)))) (hr27 _ _ _ _ h)
theorem S_M_format_117 {X : q_X}   {r27 : Int → Int → zt_S → Option (Int × zt_S)} (hr27 : ∀ (v1 : Int) (v2 : Int) (σ : zt_S) (o : (Int × zt_S)), r27 v1 v2 σ = some o → zt_Ex X 2 293 27 [(0, .ref 163), (1, .int (Int32.ofInt v1)), (2, .int (Int32.ofInt v2))] [] (zt_M σ) (zo_I o)) : ∀ (v1 : Int) (v2 : Int) (σ : zt_S) (o : (Int × zt_S)), F_M_format_117  r27 v1 v2 σ = some o → zt_Ex X 2 293 117 [(0, .ref 163), (1, .int (Int32.ofInt v1)), (2, .int (Int32.ofInt v2))] [] (zt_M σ) (zo_I o) := by
  intro v1 v2 σ o  h
  unfold F_M_format_117 at h
  refine zt_aload_n zy_293 (show q_ins q_k293 117 = some (.aload_n 0, 0, 0) from rfl) (v := 163) rfl ?_
  refine zt_bipush zy_293 (show q_ins q_k293 118 = some (.bipush 48, 0, 0) from rfl) (by decide) ?_
  refine zt_aload_n zy_293 (show q_ins q_k293 120 = some (.aload_n 0, 0, 0) from rfl) (v := 163) rfl ?_
  refine zt_iload_n zy_293 (show q_ins q_k293 121 = some (.iload_n 2, 0, 0) from rfl) (v := Int32.ofInt v2) rfl ?_
  obtain ⟨a21, s22, hca21, h⟩ := zt_bdE h
  refine zt_callV (d := 1) zy_293 (show q_ins q_k293 122 = some (.invokevirtual 260, 210, 1) from rfl) zy_210 (by decide) ⟨zq_lt (by decide), by decide⟩ rfl (by simp [Value.category]) (by simp [lg_sl, Value.category]) (zt_rcv zc_163) (zt_dm (by decide) (S_M_rankOf hca21)) ?_
  refine zt_bipush zy_293 (show q_ins q_k293 125 = some (.bipush 10, 0, 0) from rfl) (by decide) ?_
  obtain ⟨hg, h⟩ := zt_ckE h
  refine zt_irem zy_293 (show q_ins q_k293 127 = some (.irem, 0, 0) from rfl) hg (by decide) ?_
  refine zt_iadd zy_293 (show q_ins q_k293 128 = some (.iadd, 0, 0) from rfl) ?_
  obtain ⟨a23, s24, hca23, h⟩ := zt_bdE h
  refine zt_callV (d := 1) zy_293 (show q_ins q_k293 129 = some (.invokevirtual 403, 292, 1) from rfl) zy_292 (by decide) ⟨zq_lt (by decide), by decide⟩ rfl (by simp [Value.category]) (by simp [lg_sl, Value.category]) (zt_rcv zc_163) (zt_dm (by decide) (S_M_writes hca23)) ?_
  exact zt_wk (zt_cov_cons rfl (zt_cov_cons rfl (zt_cov_cons rfl (zt_cov_nil)))) (S_M_format_132  hr27 _ _ _ _ h)
theorem S_M_format_98 {X : q_X}   {r27 : Int → Int → zt_S → Option (Int × zt_S)} (hr27 : ∀ (v1 : Int) (v2 : Int) (σ : zt_S) (o : (Int × zt_S)), r27 v1 v2 σ = some o → zt_Ex X 2 293 27 [(0, .ref 163), (1, .int (Int32.ofInt v1)), (2, .int (Int32.ofInt v2))] [] (zt_M σ) (zo_I o)) : ∀ (v1 : Int) (v2 : Int) (x0 : Int) (σ : zt_S) (o : (Int × zt_S)), F_M_format_98  r27 v1 v2 x0 σ = some o → zt_Ex X 2 293 98 [(0, .ref 163), (1, .int (Int32.ofInt v1)), (2, .int (Int32.ofInt v2))] [.int (Int32.ofInt x0), .ref 163] (zt_M σ) (zo_I o) := by
  intro v1 v2 x0 σ o  h
  unfold F_M_format_98 at h
  obtain ⟨a15, s16, hca15, h⟩ := zt_bdE h
  refine zt_callV (d := 1) zy_293 (show q_ins q_k293 98 = some (.invokevirtual 403, 292, 1) from rfl) zy_292 (by decide) ⟨zq_lt (by decide), by decide⟩ rfl (by simp [Value.category]) (by simp [lg_sl, Value.category]) (zt_rcv zc_163) (zt_dm (by decide) (S_M_writes hca15)) ?_
  refine zt_aload_n zy_293 (show q_ins q_k293 101 = some (.aload_n 0, 0, 0) from rfl) (v := 163) rfl ?_
  refine zt_iload_n zy_293 (show q_ins q_k293 102 = some (.iload_n 2, 0, 0) from rfl) (v := Int32.ofInt v2) rfl ?_
  obtain ⟨a17, s18, hca17, h⟩ := zt_bdE h
  refine zt_callV (d := 1) zy_293 (show q_ins q_k293 103 = some (.invokevirtual 260, 210, 1) from rfl) zy_210 (by decide) ⟨zq_lt (by decide), by decide⟩ rfl (by simp [Value.category]) (by simp [lg_sl, Value.category]) (zt_rcv zc_163) (zt_dm (by decide) (S_M_rankOf hca17)) ?_
  refine zt_bipush zy_293 (show q_ins q_k293 106 = some (.bipush 9, 0, 0) from rfl) (by decide) ?_
  obtain ⟨hg, h⟩ := zt_ckE h
  refine zt_icmp_le zy_293 (show q_ins q_k293 108 = some (.if_icmp .le 9, 117, 0) from rfl) (⟨hg, by decide⟩) (fun hc => ?_) (fun hc => ?_)
  · rw [if_pos hc] at h
    refine zt_aload_n zy_293 (show q_ins q_k293 111 = some (.aload_n 0, 0, 0) from rfl) (v := 163) rfl ?_
    refine zt_bipush zy_293 (show q_ins q_k293 112 = some (.bipush 49, 0, 0) from rfl) (by decide) ?_
    obtain ⟨a19, s20, hca19, h⟩ := zt_bdE h
    refine zt_callV (d := 1) zy_293 (show q_ins q_k293 114 = some (.invokevirtual 403, 292, 1) from rfl) zy_292 (by decide) ⟨zq_lt (by decide), by decide⟩ rfl (by simp [Value.category]) (by simp [lg_sl, Value.category]) (zt_rcv zc_163) (zt_dm (by decide) (S_M_writes hca19)) ?_
    exact zt_wk (zt_cov_cons rfl (zt_cov_cons rfl (zt_cov_cons rfl (zt_cov_nil)))) (S_M_format_117  hr27 _ _ _ _ h)
  · rw [if_neg hc] at h
    exact zt_wk (zt_cov_cons rfl (zt_cov_cons rfl (zt_cov_cons rfl (zt_cov_nil)))) (S_M_format_117  hr27 _ _ _ _ h)
theorem S_M_format_60 {X : q_X}   {r27 : Int → Int → zt_S → Option (Int × zt_S)} (hr27 : ∀ (v1 : Int) (v2 : Int) (σ : zt_S) (o : (Int × zt_S)), r27 v1 v2 σ = some o → zt_Ex X 2 293 27 [(0, .ref 163), (1, .int (Int32.ofInt v1)), (2, .int (Int32.ofInt v2))] [] (zt_M σ) (zo_I o)) : ∀ (v1 : Int) (v2 : Int) (σ : zt_S) (o : (Int × zt_S)), F_M_format_60  r27 v1 v2 σ = some o → zt_Ex X 2 293 60 [(0, .ref 163), (1, .int (Int32.ofInt v1)), (2, .int (Int32.ofInt v2))] [] (zt_M σ) (zo_I o) := by
  intro v1 v2 σ o  h
  unfold F_M_format_60 at h
  refine zt_aload_n zy_293 (show q_ins q_k293 60 = some (.aload_n 0, 0, 0) from rfl) (v := 163) rfl ?_
  refine zt_iload_n zy_293 (show q_ins q_k293 61 = some (.iload_n 2, 0, 0) from rfl) (v := Int32.ofInt v2) rfl ?_
  obtain ⟨a13, s14, hca13, h⟩ := zt_bdE h
  refine zt_callV (d := 1) zy_293 (show q_ins q_k293 62 = some (.invokevirtual 257, 209, 1) from rfl) zy_209 (by decide) ⟨zq_lt (by decide), by decide⟩ rfl (by simp [Value.category]) (by simp [lg_sl, Value.category]) (zt_rcv zc_163) (zt_dm (by decide) (S_M_suitOf hca13)) ?_
  refine zt_istore_n zy_293 (show q_ins q_k293 65 = some (.istore_n 3, 0, 0) from rfl) (by decide) ?_
  refine zt_aload_n zy_293 (show q_ins q_k293 66 = some (.aload_n 0, 0, 0) from rfl) (v := 163) rfl ?_
  refine zt_iload_n zy_293 (show q_ins q_k293 67 = some (.iload_n 3, 0, 0) from rfl) (v := Int32.ofInt a13) rfl ?_
  obtain ⟨hg, h⟩ := zt_ckE h
  refine zt_if_ne zy_293 (show q_ins q_k293 68 = some (.ifCond .ne 8, 76, 0) from rfl) (hg) (fun hc => ?_) (fun hc => ?_)
  · rw [if_pos hc] at h
    refine zt_bipush zy_293 (show q_ins q_k293 71 = some (.bipush 115, 0, 0) from rfl) (by decide) ?_
    refine zt_goto zy_293 (show q_ins q_k293 73 = some (.goto 25, 98, 0) from rfl) ?_
    exact zt_wk (zt_cov_cons rfl (zt_cov_cons rfl (zt_cov_cons rfl (zt_cov_nil)))) (S_M_format_98  hr27 _ _ _ _ _ h)
  · rw [if_neg hc] at h
    refine zt_iload_n zy_293 (show q_ins q_k293 76 = some (.iload_n 3, 0, 0) from rfl) (v := Int32.ofInt a13) rfl ?_
    refine zt_iconst zy_293 (show q_ins q_k293 77 = some (.iconst 1, 0, 0) from rfl) ?_
    obtain ⟨hg, h⟩ := zt_ckE h
    refine zt_icmp_ne zy_293 (show q_ins q_k293 78 = some (.if_icmp .ne 8, 86, 0) from rfl) (⟨hg, by decide⟩) (fun hc => ?_) (fun hc => ?_)
    · rw [if_pos hc] at h
      refine zt_bipush zy_293 (show q_ins q_k293 81 = some (.bipush 101, 0, 0) from rfl) (by decide) ?_
      refine zt_goto zy_293 (show q_ins q_k293 83 = some (.goto 15, 98, 0) from rfl) ?_
      exact zt_wk (zt_cov_cons rfl (zt_cov_cons rfl (zt_cov_cons rfl (zt_cov_nil)))) (S_M_format_98  hr27 _ _ _ _ _ h)
    · rw [if_neg hc] at h
      refine zt_iload_n zy_293 (show q_ins q_k293 86 = some (.iload_n 3, 0, 0) from rfl) (v := Int32.ofInt a13) rfl ?_
      refine zt_iconst zy_293 (show q_ins q_k293 87 = some (.iconst 2, 0, 0) from rfl) ?_
      obtain ⟨hg, h⟩ := zt_ckE h
      refine zt_icmp_ne zy_293 (show q_ins q_k293 88 = some (.if_icmp .ne 8, 96, 0) from rfl) (⟨hg, by decide⟩) (fun hc => ?_) (fun hc => ?_)
      · rw [if_pos hc] at h
        refine zt_bipush zy_293 (show q_ins q_k293 91 = some (.bipush 105, 0, 0) from rfl) (by decide) ?_
        refine zt_goto zy_293 (show q_ins q_k293 93 = some (.goto 5, 98, 0) from rfl) ?_
        exact zt_wk (zt_cov_cons rfl (zt_cov_cons rfl (zt_cov_cons rfl (zt_cov_nil)))) (S_M_format_98  hr27 _ _ _ _ _ h)
      · rw [if_neg hc] at h
        refine zt_bipush zy_293 (show q_ins q_k293 96 = some (.bipush 97, 0, 0) from rfl) (by decide) ?_
        exact zt_wk (zt_cov_cons rfl (zt_cov_cons rfl (zt_cov_cons rfl (zt_cov_nil)))) (S_M_format_98  hr27 _ _ _ _ _ h)
theorem S_M_format_151 {X : q_X}   : ∀  (σ : zt_S) (o : (Int × zt_S)), F_M_format_151   σ = some o → zt_Ex X 2 293 151 [(0, .ref 163)] [] (zt_M σ) (zo_I o) := by
  intro  σ o  h
  unfold F_M_format_151 at h
  refine zt_aload_n zy_293 (show q_ins q_k293 151 = some (.aload_n 0, 0, 0) from rfl) (v := 163) rfl ?_
  refine zt_getI zy_293 (show q_ins q_k293 152 = some (.getfield 400, 11, 31) from rfl) (j := 31) zk_163_31 rfl ?_
  cases h
  exact zt_iret zy_293 (show q_ins q_k293 155 = some (.ireturn, 0, 0) from rfl)
theorem S_M_format_138 {X : q_X}   : ∀  (σ : zt_S) (o : (Int × zt_S)), F_M_format_138   σ = some o → zt_Ex X 2 293 138 [(0, .ref 163)] [] (zt_M σ) (zo_I o) := by
  intro  σ o  h
  unfold F_M_format_138 at h
  refine zt_aload_n zy_293 (show q_ins q_k293 138 = some (.aload_n 0, 0, 0) from rfl) (v := 163) rfl ?_
  refine zt_getI zy_293 (show q_ins q_k293 139 = some (.getfield 400, 11, 31) from rfl) (j := 31) zk_163_31 rfl ?_
  obtain ⟨hg, h⟩ := zt_ckE h
  refine zt_if_ne zy_293 (show q_ins q_k293 142 = some (.ifCond .ne 9, 151, 0) from rfl) (hg) (fun hc => ?_) (fun hc => ?_)
  · rw [if_pos hc] at h
    refine zt_aload_n zy_293 (show q_ins q_k293 145 = some (.aload_n 0, 0, 0) from rfl) (v := 163) rfl ?_
    refine zt_bipush zy_293 (show q_ins q_k293 146 = some (.bipush 45, 0, 0) from rfl) (by decide) ?_
    obtain ⟨a25, s26, hca25, h⟩ := zt_bdE h
    refine zt_callV (d := 1) zy_293 (show q_ins q_k293 148 = some (.invokevirtual 403, 292, 1) from rfl) zy_292 (by decide) ⟨zq_lt (by decide), by decide⟩ rfl (by simp [Value.category]) (by simp [lg_sl, Value.category]) (zt_rcv zc_163) (zt_dm (by decide) (S_M_writes hca25)) ?_
    exact zt_wk (zt_cov_cons rfl (zt_cov_nil)) (S_M_format_151  _ _ h)
  · rw [if_neg hc] at h
    exact zt_wk (zt_cov_cons rfl (zt_cov_nil)) (S_M_format_151  _ _ h)
theorem S_M_format_27 {X : q_X}   : ∀ (n : Nat) (v1 : Int) (v2 : Int) (σ : zt_S) (o : (Int × zt_S)), F_M_format_27  n v1 v2 σ = some o → zt_Ex X 2 293 27 [(0, .ref 163), (1, .int (Int32.ofInt v1)), (2, .int (Int32.ofInt v2))] [] (zt_M σ) (zo_I o) := by
  intro n
  induction n with
  | zero => intro v1 v2 σ o  h; cases h
  | succ n ih =>
  intro v1 v2 σ o  h
  rw [F_M_format_27] at h
  refine zt_iload_n zy_293 (show q_ins q_k293 27 = some (.iload_n 2, 0, 0) from rfl) (v := Int32.ofInt v2) rfl ?_
  refine zt_aload_n zy_293 (show q_ins q_k293 28 = some (.aload_n 0, 0, 0) from rfl) (v := 163) rfl ?_
  obtain ⟨a7, s8, hca7, h⟩ := zt_bdE h
  refine zt_callV (d := 1) zy_293 (show q_ins q_k293 29 = some (.invokevirtual 244, 207, 0) from rfl) zy_207 (by decide) ⟨zq_lt (by decide), by decide⟩ rfl (by simp [Value.category]) (by simp [lg_sl, Value.category]) (zt_rcv zc_163) (zt_dm (by decide) (S_M_cards hca7)) ?_
  obtain ⟨hg, h⟩ := zt_ckE h
  refine zt_icmp_ge zy_293 (show q_ins q_k293 32 = some (.if_icmp .ge 106, 138, 0) from rfl) (⟨hg.1, hg.2⟩) (fun hc => ?_) (fun hc => ?_)
  · rw [if_pos hc] at h
    refine zt_aload_n zy_293 (show q_ins q_k293 35 = some (.aload_n 0, 0, 0) from rfl) (v := 163) rfl ?_
    refine zt_iload_n zy_293 (show q_ins q_k293 36 = some (.iload_n 2, 0, 0) from rfl) (v := Int32.ofInt v2) rfl ?_
    obtain ⟨a9, s10, hca9, h⟩ := zt_bdE h
    refine zt_callV (d := 1) zy_293 (show q_ins q_k293 37 = some (.invokevirtual 275, 220, 1) from rfl) zy_220 (by decide) ⟨zq_lt (by decide), by decide⟩ rfl (by simp [Value.category]) (by simp [lg_sl, Value.category]) (zt_rcv zc_163) (zt_dm (by decide) (S_M_holderOf hca9)) ?_
    refine zt_iload_n zy_293 (show q_ins q_k293 40 = some (.iload_n 1, 0, 0) from rfl) (v := Int32.ofInt v1) rfl ?_
    obtain ⟨hg, h⟩ := zt_ckE h
    refine zt_icmp_eq zy_293 (show q_ins q_k293 41 = some (.if_icmp .eq 6, 47, 0) from rfl) (⟨hg.1, hg.2⟩) (fun hc => ?_) (fun hc => ?_)
    · rw [if_pos hc] at h
      refine zt_aload_n zy_293 (show q_ins q_k293 47 = some (.aload_n 0, 0, 0) from rfl) (v := 163) rfl ?_
      refine zt_getI zy_293 (show q_ins q_k293 48 = some (.getfield 400, 11, 31) from rfl) (j := 31) zk_163_31 rfl ?_
      obtain ⟨hg, h⟩ := zt_ckE h
      refine zt_if_le zy_293 (show q_ins q_k293 51 = some (.ifCond .le 9, 60, 0) from rfl) (hg) (fun hc => ?_) (fun hc => ?_)
      · rw [if_pos hc] at h
        refine zt_aload_n zy_293 (show q_ins q_k293 54 = some (.aload_n 0, 0, 0) from rfl) (v := 163) rfl ?_
        refine zt_bipush zy_293 (show q_ins q_k293 55 = some (.bipush 32, 0, 0) from rfl) (by decide) ?_
        obtain ⟨a11, s12, hca11, h⟩ := zt_bdE h
        refine zt_callV (d := 1) zy_293 (show q_ins q_k293 57 = some (.invokevirtual 403, 292, 1) from rfl) zy_292 (by decide) ⟨zq_lt (by decide), by decide⟩ rfl (by simp [Value.category]) (by simp [lg_sl, Value.category]) (zt_rcv zc_163) (zt_dm (by decide) (S_M_writes hca11)) ?_
        exact zt_wk (zt_cov_cons rfl (zt_cov_cons rfl (zt_cov_cons rfl (zt_cov_nil)))) (S_M_format_60  ih _ _ _ _ h)
      · rw [if_neg hc] at h
        exact zt_wk (zt_cov_cons rfl (zt_cov_cons rfl (zt_cov_cons rfl (zt_cov_nil)))) (S_M_format_60  ih _ _ _ _ h)
    · rw [if_neg hc] at h
      refine zt_goto zy_293 (show q_ins q_k293 44 = some (.goto 88, 132, 0) from rfl) ?_
      exact zt_wk (zt_cov_cons rfl (zt_cov_cons rfl (zt_cov_cons rfl (zt_cov_nil)))) (S_M_format_132  ih _ _ _ _ h)
  · rw [if_neg hc] at h
    exact zt_wk (zt_cov_cons rfl (zt_cov_nil)) (S_M_format_138  _ _ h)
theorem S_M_format {X : q_X}   {v1 : Int} {σ : zt_S} {o : (Int × zt_S)} (h : F_M_format  v1 σ = some o) : zt_Ex X 2 293 0 (lv_args 0 [.ref 163, .int (Int32.ofInt v1)]) [] (zt_M σ) (zo_I o) := by
  unfold F_M_format at h
  refine zt_aload_n zy_293 (show q_ins q_k293 0 = some (.aload_n 0, 0, 0) from rfl) (v := 163) rfl ?_
  refine zt_iconst zy_293 (show q_ins q_k293 1 = some (.iconst 0, 0, 0) from rfl) ?_
  obtain ⟨s1, hs1, h⟩ := zt_letE h
  refine zt_putI zy_293 (show q_ins q_k293 2 = some (.putfield 1, 11, 0) from rfl) (j := 0) zk_163_0 rfl rfl rfl ?_
  rw [← hs1]
  refine zt_aload_n zy_293 (show q_ins q_k293 5 = some (.aload_n 0, 0, 0) from rfl) (v := 163) rfl ?_
  refine zt_aload_n zy_293 (show q_ins q_k293 6 = some (.aload_n 0, 0, 0) from rfl) (v := 163) rfl ?_
  refine zt_iload_n zy_293 (show q_ins q_k293 7 = some (.iload_n 1, 0, 0) from rfl) (v := Int32.ofInt v1) rfl ?_
  obtain ⟨a2, s3, hca2, h⟩ := zt_bdE h
  refine zt_callV (d := 1) zy_293 (show q_ins q_k293 8 = some (.invokevirtual 319, 236, 1) from rfl) zy_236 (by decide) ⟨zq_lt (by decide), by decide⟩ rfl (by simp [Value.category]) (by simp [lg_sl, Value.category]) (zt_rcv zc_163) (zt_dm (by decide) (S_M_isPlayer hca2)) ?_
  refine zt_iconst zy_293 (show q_ins q_k293 11 = some (.iconst 1, 0, 0) from rfl) ?_
  obtain ⟨a4, s5, hca4, h⟩ := zt_bdE h
  refine zt_callV (d := 1) zy_293 (show q_ins q_k293 12 = some (.invokevirtual 227, 174, 2) from rfl) zy_174 (by decide) ⟨zq_lt (by decide), by decide⟩ rfl (by simp [Value.category]) (by simp [lg_sl, Value.category]) (zt_rcv zc_163) (zt_dm (by decide) (S_M_fails hca4)) ?_
  obtain ⟨hg, h⟩ := zt_ckE h
  refine zt_if_eq zy_293 (show q_ins q_k293 15 = some (.ifCond .eq 5, 20, 0) from rfl) (hg) (fun hc => ?_) (fun hc => ?_)
  · rw [if_pos hc] at h
    refine zt_aload_n zy_293 (show q_ins q_k293 20 = some (.aload_n 0, 0, 0) from rfl) (v := 163) rfl ?_
    refine zt_iconst zy_293 (show q_ins q_k293 21 = some (.iconst 0, 0, 0) from rfl) ?_
    obtain ⟨s6, hs6, h⟩ := zt_letE h
    refine zt_putI zy_293 (show q_ins q_k293 22 = some (.putfield 400, 11, 31) from rfl) (j := 31) zk_163_31 rfl rfl rfl ?_
    rw [← hs6]
    refine zt_iconst zy_293 (show q_ins q_k293 25 = some (.iconst 0, 0, 0) from rfl) ?_
    refine zt_istore_n zy_293 (show q_ins q_k293 26 = some (.istore_n 2, 0, 0) from rfl) (by decide) ?_
    exact zt_wk (zt_cov_cons rfl (zt_cov_cons rfl (zt_cov_cons rfl (zt_cov_nil)))) (S_M_format_27  _ _ _ _ _ h)
  · rw [if_neg hc] at h
    refine zt_iconst zy_293 (show q_ins q_k293 18 = some (.iconst 0, 0, 0) from rfl) ?_
    cases h
    exact zt_iret zy_293 (show q_ins q_k293 19 = some (.ireturn, 0, 0) from rfl)
