/-! the mini-machine does what the law's functions say (by program) -/
set_option maxRecDepth 100000 in
theorem S_P_areTricks_67 {X : q_X}   : ∀  (σ : zt_S) (T : zt_T) (o : (Int × zt_S × zt_T)), F_P_areTricks_67   σ T = some o → zt_Ex X 4 182 67 [] [] (zt_M T σ) (zl_I o) := by
  intro  σ T o  h
  unfold F_P_areTricks_67 at h
  refine zt_iconst zy_182 (show q_ins q_k182 67 = some (.iconst 0, 0, 0) from rfl) ?_
  cases h
  exact zt_zret zy_182 (show q_ins q_k182 68 = some (.ireturn, 0, 0) from rfl) (by decide)
set_option maxRecDepth 100000 in
theorem S_P_areTricks_332 {X : q_X}   {r284 : Int → Nat → Int → zt_S → zt_T → Option (Int × zt_S × zt_T)} (hr284 : ∀ (v1 : Int) (v2 : Nat) (v3 : Int) (σ : zt_S) (T : zt_T) (o : (Int × zt_S × zt_T)), r284 v1 v2 v3 σ T = some o → zt_Ex X 4 182 284 [(0, .ref 0), (1, .int (Int32.ofInt v1)), (2, .ref (163 + v2)), (3, .int (Int32.ofInt v3))] [] (zt_M T σ) (zl_I o)) : ∀ (v1 : Int) (v2 : Nat) (v3 : Int) (σ : zt_S) (T : zt_T) (o : (Int × zt_S × zt_T)), F_P_areTricks_332  r284 v1 v2 v3 σ T = some o → zt_Ex X 4 182 332 [(0, .ref 0), (1, .int (Int32.ofInt v1)), (2, .ref (163 + v2)), (3, .int (Int32.ofInt v3))] [] (zt_M T σ) (zl_I o) := by
  intro v1 v2 v3 σ T o  h
  unfold F_P_areTricks_332 at h
  refine zt_iinc zy_182 (show q_ins q_k182 332 = some (.iinc 3 1, 0, 0) from rfl) (v := v3) (by decide) rfl ?_
  refine zt_goto zy_182 (show q_ins q_k182 335 = some (.goto (-51), 284, 0) from rfl) ?_
  exact zt_wk (zt_cov_cons rfl (zt_cov_cons rfl (zt_cov_cons rfl (zt_cov_cons rfl (zt_cov_nil))))) (hr284 _ _ _ _ _ _ h)
set_option maxRecDepth 100000 in
theorem S_P_areTricks_330 {X : q_X}   : ∀  (σ : zt_S) (T : zt_T) (o : (Int × zt_S × zt_T)), F_P_areTricks_330   σ T = some o → zt_Ex X 4 182 330 [] [] (zt_M T σ) (zl_I o) := by
  intro  σ T o  h
  unfold F_P_areTricks_330 at h
  refine zt_iconst zy_182 (show q_ins q_k182 330 = some (.iconst 0, 0, 0) from rfl) ?_
  cases h
  exact zt_zret zy_182 (show q_ins q_k182 331 = some (.ireturn, 0, 0) from rfl) (by decide)
set_option maxRecDepth 100000 in
theorem S_P_areTricks_284 {X : q_X}   : ∀ (n : Nat) (v1 : Int) (v2 : Nat) (v3 : Int) (σ : zt_S) (T : zt_T) (o : (Int × zt_S × zt_T)), F_P_areTricks_284  n v1 v2 v3 σ T = some o → zt_Ex X 4 182 284 [(0, .ref 0), (1, .int (Int32.ofInt v1)), (2, .ref (163 + v2)), (3, .int (Int32.ofInt v3))] [] (zt_M T σ) (zl_I o) := by
  intro n
  induction n with
  | zero => intro v1 v2 v3 σ T o  h; cases h
  | succ n ih =>
  intro v1 v2 v3 σ T o  h
  rw [F_P_areTricks_284] at h
  refine zt_iload_n zy_182 (show q_ins q_k182 284 = some (.iload_n 3, 0, 0) from rfl) (v := Int32.ofInt v3) rfl ?_
  refine zt_iload_n zy_182 (show q_ins q_k182 285 = some (.iload_n 1, 0, 0) from rfl) (v := Int32.ofInt v1) rfl ?_
  obtain ⟨hg, h⟩ := zt_ckE h
  refine zt_icmp_ge zy_182 (show q_ins q_k182 286 = some (.if_icmp .ge 52, 338, 0) from rfl) (⟨hg.1, hg.2⟩) (fun hc => ?_) (fun hc => ?_)
  · rw [if_pos hc] at h
    refine zt_aload_n zy_182 (show q_ins q_k182 289 = some (.aload_n 0, 0, 0) from rfl) (v := 0) rfl ?_
    refine zt_iload_n zy_182 (show q_ins q_k182 290 = some (.iload_n 3, 0, 0) from rfl) (v := Int32.ofInt v3) rfl ?_
    obtain ⟨a62, s63, hca62, h⟩ := zt_byE h
    refine zt_callV (d := 3) zy_182 (show q_ins q_k182 291 = some (.invokevirtual 191, 137, 1) from rfl) zy_137 (by decide) ⟨zq_lt (by decide), by decide⟩ rfl (by simp [Value.category]) (by simp [lg_sl, Value.category]) (zt_rcv zc_0) (zt_dm (by decide) (S_C_tricks hca62)) ?_
    refine zt_aload_n zy_182 (show q_ins q_k182 294 = some (.aload_n 2, 0, 0) from rfl) (v := (163 + v2)) rfl ?_
    refine zt_iload_n zy_182 (show q_ins q_k182 295 = some (.iload_n 3, 0, 0) from rfl) (v := Int32.ofInt v3) rfl ?_
    obtain ⟨hg, h⟩ := zt_ckE h
    refine zt_tld zy_182 (show q_ins q_k182 296 = some (.iaload, 0, 0) from rfl) hg ?_
    obtain ⟨hg, h⟩ := zt_ckE h
    refine zt_icmp_ne zy_182 (show q_ins q_k182 297 = some (.if_icmp .ne 33, 330, 0) from rfl) (⟨hg.1, hg.2⟩) (fun hc => ?_) (fun hc => ?_)
    · rw [if_pos hc] at h
      refine zt_aload_n zy_182 (show q_ins q_k182 300 = some (.aload_n 0, 0, 0) from rfl) (v := 0) rfl ?_
      refine zt_bipush zy_182 (show q_ins q_k182 301 = some (.bipush 11, 0, 0) from rfl) (by decide) ?_
      obtain ⟨a64, s65, hca64, h⟩ := zt_byE h
      refine zt_callV (d := 3) zy_182 (show q_ins q_k182 303 = some (.invokevirtual 86, 122, 1) from rfl) zy_122 (by decide) ⟨zq_lt (by decide), by decide⟩ rfl (by simp [Value.category]) (by simp [lg_sl, Value.category]) (zt_rcv zc_0) (zt_dm (by decide) (S_C_size hca64)) ?_
      obtain ⟨hg, h⟩ := zt_ckE h
      refine zt_if_le zy_182 (show q_ins q_k182 306 = some (.ifCond .le 26, 332, 0) from rfl) (hg) (fun hc => ?_) (fun hc => ?_)
      · rw [if_pos hc] at h
        refine zt_aload_n zy_182 (show q_ins q_k182 309 = some (.aload_n 0, 0, 0) from rfl) (v := 0) rfl ?_
        refine zt_iload_n zy_182 (show q_ins q_k182 310 = some (.iload_n 3, 0, 0) from rfl) (v := Int32.ofInt v3) rfl ?_
        obtain ⟨a66, s67, hca66, h⟩ := zt_byE h
        refine zt_callV (d := 3) zy_182 (show q_ins q_k182 311 = some (.invokevirtual 194, 151, 1) from rfl) zy_151 (by decide) ⟨zq_lt (by decide), by decide⟩ rfl (by simp [Value.category]) (by simp [lg_sl, Value.category]) (zt_rcv zc_0) (zt_dm (by decide) (S_C_share hca66)) ?_
        refine zt_aload_n zy_182 (show q_ins q_k182 314 = some (.aload_n 2, 0, 0) from rfl) (v := (163 + v2)) rfl ?_
        refine zt_iload_n zy_182 (show q_ins q_k182 315 = some (.iload_n 3, 0, 0) from rfl) (v := Int32.ofInt v3) rfl ?_
        obtain ⟨hg, h⟩ := zt_ckE h
        refine zt_tld zy_182 (show q_ins q_k182 316 = some (.iaload, 0, 0) from rfl) hg ?_
        refine zt_i2f zy_182 (show q_ins q_k182 317 = some (.i2f, 0, 0) from rfl) ?_
        refine zt_aload_n zy_182 (show q_ins q_k182 318 = some (.aload_n 0, 0, 0) from rfl) (v := 0) rfl ?_
        refine zt_bipush zy_182 (show q_ins q_k182 319 = some (.bipush 11, 0, 0) from rfl) (by decide) ?_
        obtain ⟨a68, s69, hca68, h⟩ := zt_byE h
        refine zt_callV (d := 3) zy_182 (show q_ins q_k182 321 = some (.invokevirtual 86, 122, 1) from rfl) zy_122 (by decide) ⟨zq_lt (by decide), by decide⟩ rfl (by simp [Value.category]) (by simp [lg_sl, Value.category]) (zt_rcv zc_0) (zt_dm (by decide) (S_C_size hca68)) ?_
        refine zt_i2f zy_182 (show q_ins q_k182 324 = some (.i2f, 0, 0) from rfl) ?_
        obtain ⟨hg, h⟩ := zt_ckE h
        refine zt_fdiv zy_182 (show q_ins q_k182 325 = some (.fdiv, 0, 0) from rfl) hg ?_
        refine zt_fcmp zy_182 (show q_ins q_k182 326 = some (.fcmp .l, 0, 0) from rfl) ?_
        refine zt_if_eq zy_182 (show q_ins q_k182 327 = some (.ifCond .eq 5, 332, 0) from rfl) (zt_inT _) (fun hc => ?_) (fun hc => ?_)
        · rw [if_pos hc] at h
          exact zt_wk (zt_cov_cons rfl (zt_cov_cons rfl (zt_cov_cons rfl (zt_cov_cons rfl (zt_cov_nil))))) (S_P_areTricks_332  ih _ _ _ _ _ _ h)
        · rw [if_neg hc] at h
          exact zt_wk (zt_cov_nil) (S_P_areTricks_330  _ _ _ h)
      · rw [if_neg hc] at h
        exact zt_wk (zt_cov_cons rfl (zt_cov_cons rfl (zt_cov_cons rfl (zt_cov_cons rfl (zt_cov_nil))))) (S_P_areTricks_332  ih _ _ _ _ _ _ h)
    · rw [if_neg hc] at h
      exact zt_wk (zt_cov_nil) (S_P_areTricks_330  _ _ _ h)
  · rw [if_neg hc] at h
    refine zt_iconst zy_182 (show q_ins q_k182 338 = some (.iconst 1, 0, 0) from rfl) ?_
    cases h
    exact zt_zret zy_182 (show q_ins q_k182 339 = some (.ireturn, 0, 0) from rfl) (by decide)
set_option maxRecDepth 100000 in
theorem S_P_areTricks_12 {X : q_X}   : ∀ (n : Nat) (v1 : Int) (v2 : Nat) (v3 : Int) (σ : zt_S) (T : zt_T) (o : (Int × zt_S × zt_T)), F_P_areTricks_12  n v1 v2 v3 σ T = some o → zt_Ex X 4 182 12 [(0, .ref 0), (1, .int (Int32.ofInt v1)), (2, .ref (163 + v2)), (3, .int (Int32.ofInt v3))] [] (zt_M T σ) (zl_I o) := by
  intro n
  induction n with
  | zero => intro v1 v2 v3 σ T o  h; cases h
  | succ n ih =>
  intro v1 v2 v3 σ T o  h
  rw [F_P_areTricks_12] at h
  refine zt_iload_n zy_182 (show q_ins q_k182 12 = some (.iload_n 3, 0, 0) from rfl) (v := Int32.ofInt v3) rfl ?_
  refine zt_aload_n zy_182 (show q_ins q_k182 13 = some (.aload_n 0, 0, 0) from rfl) (v := 0) rfl ?_
  refine zt_bipush zy_182 (show q_ins q_k182 14 = some (.bipush 11, 0, 0) from rfl) (by decide) ?_
  obtain ⟨a5, s6, hca5, h⟩ := zt_byE h
  refine zt_callV (d := 3) zy_182 (show q_ins q_k182 16 = some (.invokevirtual 86, 122, 1) from rfl) zy_122 (by decide) ⟨zq_lt (by decide), by decide⟩ rfl (by simp [Value.category]) (by simp [lg_sl, Value.category]) (zt_rcv zc_0) (zt_dm (by decide) (S_C_size hca5)) ?_
  obtain ⟨hg, h⟩ := zt_ckE h
  refine zt_icmp_ge zy_182 (show q_ins q_k182 19 = some (.if_icmp .ge 263, 282, 0) from rfl) (⟨hg.1, hg.2⟩) (fun hc => ?_) (fun hc => ?_)
  · rw [if_pos hc] at h
    refine zt_aload_n zy_182 (show q_ins q_k182 22 = some (.aload_n 0, 0, 0) from rfl) (v := 0) rfl ?_
    refine zt_iload_n zy_182 (show q_ins q_k182 23 = some (.iload_n 3, 0, 0) from rfl) (v := Int32.ofInt v3) rfl ?_
    refine zt_iconst zy_182 (show q_ins q_k182 24 = some (.iconst 3, 0, 0) from rfl) ?_
    obtain ⟨a7, s8, hca7, h⟩ := zt_byE h
    refine zt_callV (d := 3) zy_182 (show q_ins q_k182 25 = some (.invokevirtual 188, 136, 2) from rfl) zy_136 (by decide) ⟨zq_lt (by decide), by decide⟩ rfl (by simp [Value.category]) (by simp [lg_sl, Value.category]) (zt_rcv zc_0) (zt_dm (by decide) (S_C_trick hca7)) ?_
    refine zt_istore zy_182 (show q_ins q_k182 28 = some (.istore 4, 0, 0) from rfl) (by decide) ?_
    refine zt_iload_n zy_182 (show q_ins q_k182 30 = some (.iload_n 3, 0, 0) from rfl) (v := Int32.ofInt v3) rfl ?_
    refine zt_iload_n zy_182 (show q_ins q_k182 31 = some (.iload_n 1, 0, 0) from rfl) (v := Int32.ofInt v1) rfl ?_
    refine zt_imul zy_182 (show q_ins q_k182 32 = some (.imul, 0, 0) from rfl) ?_
    refine zt_istore zy_182 (show q_ins q_k182 33 = some (.istore 5, 0, 0) from rfl) (by decide) ?_
    refine zt_aload_n zy_182 (show q_ins q_k182 35 = some (.aload_n 0, 0, 0) from rfl) (v := 0) rfl ?_
    refine zt_aload_n zy_182 (show q_ins q_k182 36 = some (.aload_n 0, 0, 0) from rfl) (v := 0) rfl ?_
    refine zt_iload zy_182 (show q_ins q_k182 37 = some (.iload 5, 0, 0) from rfl) (v := Int32.ofInt (v3 * v1)) rfl ?_
    refine zt_iconst zy_182 (show q_ins q_k182 39 = some (.iconst 0, 0, 0) from rfl) ?_
    obtain ⟨a9, s10, hca9, h⟩ := zt_byE h
    refine zt_callV (d := 3) zy_182 (show q_ins q_k182 40 = some (.invokevirtual 154, 135, 2) from rfl) zy_135 (by decide) ⟨zq_lt (by decide), by decide⟩ rfl (by simp [Value.category]) (by simp [lg_sl, Value.category]) (zt_rcv zc_0) (zt_dm (by decide) (S_C_played hca9)) ?_
    obtain ⟨a11, s12, hca11, h⟩ := zt_byE h
    refine zt_callV (d := 3) zy_182 (show q_ins q_k182 43 = some (.invokevirtual 157, 123, 1) from rfl) zy_123 (by decide) ⟨zq_lt (by decide), by decide⟩ rfl (by simp [Value.category]) (by simp [lg_sl, Value.category]) (zt_rcv zc_0) (zt_dm (by decide) (S_C_suit hca11)) ?_
    refine zt_iload zy_182 (show q_ins q_k182 46 = some (.iload 4, 0, 0) from rfl) (v := Int32.ofInt a7) rfl ?_
    obtain ⟨hg, h⟩ := zt_ckE h
    refine zt_icmp_ne zy_182 (show q_ins q_k182 48 = some (.if_icmp .ne 19, 67, 0) from rfl) (⟨hg.1, hg.2⟩) (fun hc => ?_) (fun hc => ?_)
    · rw [if_pos hc] at h
      refine zt_aload_n zy_182 (show q_ins q_k182 51 = some (.aload_n 0, 0, 0) from rfl) (v := 0) rfl ?_
      refine zt_iload zy_182 (show q_ins q_k182 52 = some (.iload 5, 0, 0) from rfl) (v := Int32.ofInt (v3 * v1)) rfl ?_
      refine zt_iconst zy_182 (show q_ins q_k182 54 = some (.iconst 1, 0, 0) from rfl) ?_
      obtain ⟨a13, s14, hca13, h⟩ := zt_byE h
      refine zt_callV (d := 3) zy_182 (show q_ins q_k182 55 = some (.invokevirtual 154, 135, 2) from rfl) zy_135 (by decide) ⟨zq_lt (by decide), by decide⟩ rfl (by simp [Value.category]) (by simp [lg_sl, Value.category]) (zt_rcv zc_0) (zt_dm (by decide) (S_C_played hca13)) ?_
      refine zt_aload_n zy_182 (show q_ins q_k182 58 = some (.aload_n 0, 0, 0) from rfl) (v := 0) rfl ?_
      refine zt_iload_n zy_182 (show q_ins q_k182 59 = some (.iload_n 3, 0, 0) from rfl) (v := Int32.ofInt v3) rfl ?_
      refine zt_iconst zy_182 (show q_ins q_k182 60 = some (.iconst 0, 0, 0) from rfl) ?_
      obtain ⟨a15, s16, hca15, h⟩ := zt_byE h
      refine zt_callV (d := 3) zy_182 (show q_ins q_k182 61 = some (.invokevirtual 188, 136, 2) from rfl) zy_136 (by decide) ⟨zq_lt (by decide), by decide⟩ rfl (by simp [Value.category]) (by simp [lg_sl, Value.category]) (zt_rcv zc_0) (zt_dm (by decide) (S_C_trick hca15)) ?_
      obtain ⟨hg, h⟩ := zt_ckE h
      refine zt_icmp_eq zy_182 (show q_ins q_k182 64 = some (.if_icmp .eq 5, 69, 0) from rfl) (⟨hg.1, hg.2⟩) (fun hc => ?_) (fun hc => ?_)
      · rw [if_pos hc] at h
        refine zt_iconst zy_182 (show q_ins q_k182 69 = some (.iconst 1, 0, 0) from rfl) ?_
        refine zt_istore zy_182 (show q_ins q_k182 70 = some (.istore 6, 0, 0) from rfl) (by decide) ?_
        exact zt_wk (zt_cov_cons rfl (zt_cov_cons rfl (zt_cov_cons rfl (zt_cov_cons rfl (zt_cov_cons rfl (zt_cov_cons rfl (zt_cov_cons rfl (zt_cov_nil)))))))) (S_P_areTricks_72  ih _ _ _ _ _ _ _ _ _ _ h)
      · rw [if_neg hc] at h
        exact zt_wk (zt_cov_nil) (S_P_areTricks_67  _ _ _ h)
    · rw [if_neg hc] at h
      exact zt_wk (zt_cov_nil) (S_P_areTricks_67  _ _ _ h)
  · rw [if_neg hc] at h
    refine zt_iconst zy_182 (show q_ins q_k182 282 = some (.iconst 0, 0, 0) from rfl) ?_
    refine zt_istore_n zy_182 (show q_ins q_k182 283 = some (.istore_n 3, 0, 0) from rfl) (by decide) ?_
    exact zt_wk (zt_cov_cons rfl (zt_cov_cons rfl (zt_cov_cons rfl (zt_cov_cons rfl (zt_cov_nil))))) (S_P_areTricks_284  _ _ _ _ _ _ _ h)
set_option maxRecDepth 100000 in
theorem S_P_areTricks {X : q_X}    {σ : zt_S} {T : zt_T} {o : (Int × zt_S × zt_T)} (h : F_P_areTricks   σ T = some o) : zt_Ex X 4 182 0 (lv_args 0 [.ref 0]) [] (zt_M T σ) (zl_I o) := by
  unfold F_P_areTricks at h
  refine zt_aload_n zy_182 (show q_ins q_k182 0 = some (.aload_n 0, 0, 0) from rfl) (v := 0) rfl ?_
  refine zt_iconst zy_182 (show q_ins q_k182 1 = some (.iconst 1, 0, 0) from rfl) ?_
  obtain ⟨a1, s2, hca1, h⟩ := zt_byE h
  refine zt_callV (d := 3) zy_182 (show q_ins q_k182 2 = some (.invokevirtual 86, 122, 1) from rfl) zy_122 (by decide) ⟨zq_lt (by decide), by decide⟩ rfl (by simp [Value.category]) (by simp [lg_sl, Value.category]) (zt_rcv zc_0) (zt_dm (by decide) (S_C_size hca1)) ?_
  refine zt_istore_n zy_182 (show q_ins q_k182 5 = some (.istore_n 1, 0, 0) from rfl) (by decide) ?_
  refine zt_iconst zy_182 (show q_ins q_k182 6 = some (.iconst 4, 0, 0) from rfl) ?_
  obtain ⟨hg, h⟩ := zt_ckE h
  obtain ⟨k4, t3, hk4, ht3, h⟩ := zt_lTE h
  refine zt_tnw (l := 4) zy_182 (show q_ins q_k182 7 = some (.newarray .int, 0, 0) from rfl) (by decide) hg.2 hg.1 ?_
  rw [← hk4, ← ht3]
  refine zt_astore_n zy_182 (show q_ins q_k182 9 = some (.astore_n 2, 0, 0) from rfl) (by decide) ?_
  refine zt_iconst zy_182 (show q_ins q_k182 10 = some (.iconst 0, 0, 0) from rfl) ?_
  refine zt_istore_n zy_182 (show q_ins q_k182 11 = some (.istore_n 3, 0, 0) from rfl) (by decide) ?_
  exact zt_wk (zt_cov_cons rfl (zt_cov_cons rfl (zt_cov_cons rfl (zt_cov_cons rfl (zt_cov_nil))))) (S_P_areTricks_12  _ _ _ _ _ _ _ h)
set_option maxRecDepth 100000 in
theorem S_P_isPlayed_36 {X : q_X}   : ∀ (x0 : Int) (σ : zt_S) (T : zt_T) (o : (Int × zt_S × zt_T)), F_P_isPlayed_36  x0 σ T = some o → zt_Ex X 6 183 36 [] [.int (Int32.ofInt x0)] (zt_M T σ) (zl_I o) := by
  intro x0 σ T o  h
  unfold F_P_isPlayed_36 at h
  obtain ⟨hg, h⟩ := zt_ckE h
  cases h
  exact zt_zret zy_183 (show q_ins q_k183 36 = some (.ireturn, 0, 0) from rfl) hg
set_option maxRecDepth 100000 in
theorem S_P_isPlayed_35 {X : q_X}   : ∀  (σ : zt_S) (T : zt_T) (o : (Int × zt_S × zt_T)), F_P_isPlayed_35   σ T = some o → zt_Ex X 6 183 35 [] [] (zt_M T σ) (zl_I o) := by
  intro  σ T o  h
  unfold F_P_isPlayed_35 at h
  refine zt_iconst zy_183 (show q_ins q_k183 35 = some (.iconst 0, 0, 0) from rfl) ?_
  exact zt_wk (zt_cov_nil) (S_P_isPlayed_36  _ _ _ _ h)
set_option maxRecDepth 100000 in
theorem S_P_isPlayed_199 {X : q_X}   {r162 : Int → Int → Int → Int → Int → Int → Int → Int → Int → Int → Int → Int → zt_S → zt_T → Option (Int × zt_S × zt_T)} (hr162 : ∀ (v2 : Int) (v3 : Int) (v4 : Int) (v5 : Int) (v6 : Int) (v7 : Int) (v8 : Int) (v9 : Int) (v10 : Int) (v11 : Int) (v12 : Int) (v13 : Int) (σ : zt_S) (T : zt_T) (o : (Int × zt_S × zt_T)), r162 v2 v3 v4 v5 v6 v7 v8 v9 v10 v11 v12 v13 σ T = some o → zt_Ex X 6 183 162 [(0, .ref 0), (2, .int (Int32.ofInt v2)), (3, .int (Int32.ofInt v3)), (4, .int (Int32.ofInt v4)), (5, .int (Int32.ofInt v5)), (6, .int (Int32.ofInt v6)), (7, .int (Int32.ofInt v7)), (8, .int (Int32.ofInt v8)), (9, .int (Int32.ofInt v9)), (10, .int (Int32.ofInt v10)), (11, .int (Int32.ofInt v11)), (12, .int (Int32.ofInt v12)), (13, .int (Int32.ofInt v13))] [] (zt_M T σ) (zl_I o)) : ∀ (v2 : Int) (v3 : Int) (v4 : Int) (v5 : Int) (v6 : Int) (v7 : Int) (v8 : Int) (v9 : Int) (v10 : Int) (v11 : Int) (v12 : Int) (v13 : Int) (σ : zt_S) (T : zt_T) (o : (Int × zt_S × zt_T)), F_P_isPlayed_199  r162 v2 v3 v4 v5 v6 v7 v8 v9 v10 v11 v12 v13 σ T = some o → zt_Ex X 6 183 199 [(0, .ref 0), (2, .int (Int32.ofInt v2)), (3, .int (Int32.ofInt v3)), (4, .int (Int32.ofInt v4)), (5, .int (Int32.ofInt v5)), (6, .int (Int32.ofInt v6)), (7, .int (Int32.ofInt v7)), (8, .int (Int32.ofInt v8)), (9, .int (Int32.ofInt v9)), (10, .int (Int32.ofInt v10)), (11, .int (Int32.ofInt v11)), (12, .int (Int32.ofInt v12)), (13, .int (Int32.ofInt v13))] [] (zt_M T σ) (zl_I o) := by
  intro v2 v3 v4 v5 v6 v7 v8 v9 v10 v11 v12 v13 σ T o  h
  unfold F_P_isPlayed_199 at h
  refine zt_iinc zy_183 (show q_ins q_k183 199 = some (.iinc 13 1, 0, 0) from rfl) (v := v13) (by decide) rfl ?_
  refine zt_goto zy_183 (show q_ins q_k183 202 = some (.goto (-40), 162, 0) from rfl) ?_
  exact zt_wk (zt_cov_cons rfl (zt_cov_cons rfl (zt_cov_cons rfl (zt_cov_cons rfl (zt_cov_cons rfl (zt_cov_cons rfl (zt_cov_cons rfl (zt_cov_cons rfl (zt_cov_cons rfl (zt_cov_cons rfl (zt_cov_cons rfl (zt_cov_cons rfl (zt_cov_cons rfl (zt_cov_nil)))))))))))))) (hr162 _ _ _ _ _ _ _ _ _ _ _ _ _ _ _ h)
set_option maxRecDepth 100000 in
theorem S_P_isPlayed_229 {X : q_X}   : ∀ (x0 : Int) (σ : zt_S) (T : zt_T) (o : (Int × zt_S × zt_T)), F_P_isPlayed_229  x0 σ T = some o → zt_Ex X 6 183 229 [] [.int (Int32.ofInt x0)] (zt_M T σ) (zl_I o) := by
  intro x0 σ T o  h
  unfold F_P_isPlayed_229 at h
  obtain ⟨hg, h⟩ := zt_ckE h
  cases h
  exact zt_zret zy_183 (show q_ins q_k183 229 = some (.ireturn, 0, 0) from rfl) hg
set_option maxRecDepth 100000 in
theorem S_P_isPlayed_247 {X : q_X}   : ∀ (x0 : Int) (σ : zt_S) (T : zt_T) (o : (Int × zt_S × zt_T)), F_P_isPlayed_247  x0 σ T = some o → zt_Ex X 6 183 247 [] [.int (Int32.ofInt x0)] (zt_M T σ) (zl_I o) := by
  intro x0 σ T o  h
  unfold F_P_isPlayed_247 at h
  obtain ⟨hg, h⟩ := zt_ckE h
  cases h
  exact zt_zret zy_183 (show q_ins q_k183 247 = some (.ireturn, 0, 0) from rfl) hg
set_option maxRecDepth 100000 in
theorem S_P_isPlayed_513 {X : q_X}   : ∀ (x0 : Int) (σ : zt_S) (T : zt_T) (o : (Int × zt_S × zt_T)), F_P_isPlayed_513  x0 σ T = some o → zt_Ex X 6 183 513 [] [.int (Int32.ofInt x0)] (zt_M T σ) (zl_I o) := by
  intro x0 σ T o  h
  unfold F_P_isPlayed_513 at h
  obtain ⟨hg, h⟩ := zt_ckE h
  cases h
  exact zt_zret zy_183 (show q_ins q_k183 513 = some (.ireturn, 0, 0) from rfl) hg
set_option maxRecDepth 100000 in
theorem S_P_isPlayed_512 {X : q_X}   : ∀  (σ : zt_S) (T : zt_T) (o : (Int × zt_S × zt_T)), F_P_isPlayed_512   σ T = some o → zt_Ex X 6 183 512 [] [] (zt_M T σ) (zl_I o) := by
  intro  σ T o  h
  unfold F_P_isPlayed_512 at h
  refine zt_iconst zy_183 (show q_ins q_k183 512 = some (.iconst 0, 0, 0) from rfl) ?_
  exact zt_wk (zt_cov_nil) (S_P_isPlayed_513  _ _ _ _ h)
set_option maxRecDepth 100000 in
theorem S_P_isPlayed_472 {X : q_X}   : ∀ (v2 : Int) (v3 : Int) (v5 : Int) (v6 : Int) (σ : zt_S) (T : zt_T) (o : (Int × zt_S × zt_T)), F_P_isPlayed_472  v2 v3 v5 v6 σ T = some o → zt_Ex X 6 183 472 [(0, .ref 0), (2, .int (Int32.ofInt v2)), (3, .int (Int32.ofInt v3)), (5, .int (Int32.ofInt v5)), (6, .int (Int32.ofInt v6))] [] (zt_M T σ) (zl_I o) := by
  intro v2 v3 v5 v6 σ T o  h
  unfold F_P_isPlayed_472 at h
  refine zt_aload_n zy_183 (show q_ins q_k183 472 = some (.aload_n 0, 0, 0) from rfl) (v := 0) rfl ?_
  obtain ⟨a47, s48, hca47, h⟩ := zt_bdE h
  refine zt_callV (d := 5) zy_183 (show q_ins q_k183 473 = some (.invokevirtual 201, 163, 0) from rfl) zy_163 (by decide) ⟨zq_lt (by decide), by decide⟩ rfl (by simp [Value.category]) (by simp [lg_sl, Value.category]) (zt_rcv zc_0) (zt_dm (by decide) (S_C_undo hca47)) ?_
  obtain ⟨hg, h⟩ := zt_ckE h
  refine zt_if_lt zy_183 (show q_ins q_k183 476 = some (.ifCond .lt 36, 512, 0) from rfl) (hg) (fun hc => ?_) (fun hc => ?_)
  · rw [if_pos hc] at h
    exact zt_wk (zt_cov_nil) (S_P_isPlayed_512  _ _ _ h)
  · rw [if_neg hc] at h
    refine zt_aload_n zy_183 (show q_ins q_k183 479 = some (.aload_n 0, 0, 0) from rfl) (v := 0) rfl ?_
    refine zt_iconst zy_183 (show q_ins q_k183 480 = some (.iconst 4, 0, 0) from rfl) ?_
    obtain ⟨a49, s50, hca49, h⟩ := zt_byE h
    refine zt_callV (d := 5) zy_183 (show q_ins q_k183 481 = some (.invokevirtual 86, 122, 1) from rfl) zy_122 (by decide) ⟨zq_lt (by decide), by decide⟩ rfl (by simp [Value.category]) (by simp [lg_sl, Value.category]) (zt_rcv zc_0) (zt_dm (by decide) (S_C_size hca49)) ?_
    refine zt_iload zy_183 (show q_ins q_k183 484 = some (.iload 5, 0, 0) from rfl) (v := Int32.ofInt v5) rfl ?_
    obtain ⟨hg, h⟩ := zt_ckE h
    refine zt_icmp_ne zy_183 (show q_ins q_k183 486 = some (.if_icmp .ne 26, 512, 0) from rfl) (⟨hg.1, hg.2⟩) (fun hc => ?_) (fun hc => ?_)
    · rw [if_pos hc] at h
      refine zt_aload_n zy_183 (show q_ins q_k183 489 = some (.aload_n 0, 0, 0) from rfl) (v := 0) rfl ?_
      refine zt_iconst zy_183 (show q_ins q_k183 490 = some (.iconst 5, 0, 0) from rfl) ?_
      obtain ⟨a51, s52, hca51, h⟩ := zt_byE h
      refine zt_callV (d := 5) zy_183 (show q_ins q_k183 491 = some (.invokevirtual 86, 122, 1) from rfl) zy_122 (by decide) ⟨zq_lt (by decide), by decide⟩ rfl (by simp [Value.category]) (by simp [lg_sl, Value.category]) (zt_rcv zc_0) (zt_dm (by decide) (S_C_size hca51)) ?_
      refine zt_iload zy_183 (show q_ins q_k183 494 = some (.iload 6, 0, 0) from rfl) (v := Int32.ofInt v6) rfl ?_
      obtain ⟨hg, h⟩ := zt_ckE h
      refine zt_icmp_ne zy_183 (show q_ins q_k183 496 = some (.if_icmp .ne 16, 512, 0) from rfl) (⟨hg.1, hg.2⟩) (fun hc => ?_) (fun hc => ?_)
      · rw [if_pos hc] at h
        refine zt_aload_n zy_183 (show q_ins q_k183 499 = some (.aload_n 0, 0, 0) from rfl) (v := 0) rfl ?_
        refine zt_iload_n zy_183 (show q_ins q_k183 500 = some (.iload_n 3, 0, 0) from rfl) (v := Int32.ofInt v3) rfl ?_
        obtain ⟨a53, s54, hca53, h⟩ := zt_byE h
        refine zt_callV (d := 5) zy_183 (show q_ins q_k183 501 = some (.invokevirtual 93, 125, 1) from rfl) zy_125 (by decide) ⟨zq_lt (by decide), by decide⟩ rfl (by simp [Value.category]) (by simp [lg_sl, Value.category]) (zt_rcv zc_0) (zt_dm (by decide) (S_C_holder hca53)) ?_
        refine zt_iload_n zy_183 (show q_ins q_k183 504 = some (.iload_n 2, 0, 0) from rfl) (v := Int32.ofInt v2) rfl ?_
        obtain ⟨hg, h⟩ := zt_ckE h
        refine zt_icmp_ne zy_183 (show q_ins q_k183 505 = some (.if_icmp .ne 7, 512, 0) from rfl) (⟨hg.1, hg.2⟩) (fun hc => ?_) (fun hc => ?_)
        · rw [if_pos hc] at h
          refine zt_iconst zy_183 (show q_ins q_k183 508 = some (.iconst 1, 0, 0) from rfl) ?_
          refine zt_goto zy_183 (show q_ins q_k183 509 = some (.goto 4, 513, 0) from rfl) ?_
          exact zt_wk (zt_cov_nil) (S_P_isPlayed_513  _ _ _ _ h)
        · rw [if_neg hc] at h
          exact zt_wk (zt_cov_nil) (S_P_isPlayed_512  _ _ _ h)
      · rw [if_neg hc] at h
        exact zt_wk (zt_cov_nil) (S_P_isPlayed_512  _ _ _ h)
    · rw [if_neg hc] at h
      exact zt_wk (zt_cov_nil) (S_P_isPlayed_512  _ _ _ h)
set_option maxRecDepth 100000 in
theorem S_P_isPlayed_470 {X : q_X}   : ∀  (σ : zt_S) (T : zt_T) (o : (Int × zt_S × zt_T)), F_P_isPlayed_470   σ T = some o → zt_Ex X 6 183 470 [] [] (zt_M T σ) (zl_I o) := by
  intro  σ T o  h
  unfold F_P_isPlayed_470 at h
  refine zt_iconst zy_183 (show q_ins q_k183 470 = some (.iconst 0, 0, 0) from rfl) ?_
  cases h
  exact zt_zret zy_183 (show q_ins q_k183 471 = some (.ireturn, 0, 0) from rfl) (by decide)
set_option maxRecDepth 100000 in
theorem S_P_isPlayed_424 {X : q_X}   : ∀ (v2 : Int) (v3 : Int) (v5 : Int) (v6 : Int) (v7 : Int) (v11 : Int) (v16 : Int) (x0 : Int) (σ : zt_S) (T : zt_T) (o : (Int × zt_S × zt_T)), F_P_isPlayed_424  v2 v3 v5 v6 v7 v11 v16 x0 σ T = some o → zt_Ex X 6 183 424 [(0, .ref 0), (2, .int (Int32.ofInt v2)), (3, .int (Int32.ofInt v3)), (5, .int (Int32.ofInt v5)), (6, .int (Int32.ofInt v6)), (7, .int (Int32.ofInt v7)), (11, .int (Int32.ofInt v11)), (16, .int (Int32.ofInt v16))] [.int (Int32.ofInt x0)] (zt_M T σ) (zl_I o) := by
  intro v2 v3 v5 v6 v7 v11 v16 x0 σ T o  h
  unfold F_P_isPlayed_424 at h
  refine zt_istore zy_183 (show q_ins q_k183 424 = some (.istore 17, 0, 0) from rfl) (by decide) ?_
  refine zt_aload_n zy_183 (show q_ins q_k183 426 = some (.aload_n 0, 0, 0) from rfl) (v := 0) rfl ?_
  refine zt_iconst zy_183 (show q_ins q_k183 427 = some (.iconst 4, 0, 0) from rfl) ?_
  obtain ⟨a57, s58, hca57, h⟩ := zt_byE h
  refine zt_callV (d := 5) zy_183 (show q_ins q_k183 428 = some (.invokevirtual 86, 122, 1) from rfl) zy_122 (by decide) ⟨zq_lt (by decide), by decide⟩ rfl (by simp [Value.category]) (by simp [lg_sl, Value.category]) (zt_rcv zc_0) (zt_dm (by decide) (S_C_size hca57)) ?_
  refine zt_iload zy_183 (show q_ins q_k183 431 = some (.iload 16, 0, 0) from rfl) (v := Int32.ofInt v16) rfl ?_
  obtain ⟨hg, h⟩ := zt_ckE h
  refine zt_icmp_ne zy_183 (show q_ins q_k183 433 = some (.if_icmp .ne 37, 470, 0) from rfl) (⟨hg.1, hg.2⟩) (fun hc => ?_) (fun hc => ?_)
  · rw [if_pos hc] at h
    refine zt_aload_n zy_183 (show q_ins q_k183 436 = some (.aload_n 0, 0, 0) from rfl) (v := 0) rfl ?_
    refine zt_iconst zy_183 (show q_ins q_k183 437 = some (.iconst 5, 0, 0) from rfl) ?_
    obtain ⟨a59, s60, hca59, h⟩ := zt_byE h
    refine zt_callV (d := 5) zy_183 (show q_ins q_k183 438 = some (.invokevirtual 86, 122, 1) from rfl) zy_122 (by decide) ⟨zq_lt (by decide), by decide⟩ rfl (by simp [Value.category]) (by simp [lg_sl, Value.category]) (zt_rcv zc_0) (zt_dm (by decide) (S_C_size hca59)) ?_
    refine zt_iload zy_183 (show q_ins q_k183 441 = some (.iload 17, 0, 0) from rfl) (v := Int32.ofInt x0) rfl ?_
    obtain ⟨hg, h⟩ := zt_ckE h
    refine zt_icmp_ne zy_183 (show q_ins q_k183 443 = some (.if_icmp .ne 27, 470, 0) from rfl) (⟨hg.1, hg.2⟩) (fun hc => ?_) (fun hc => ?_)
    · rw [if_pos hc] at h
      refine zt_aload_n zy_183 (show q_ins q_k183 446 = some (.aload_n 0, 0, 0) from rfl) (v := 0) rfl ?_
      refine zt_bipush zy_183 (show q_ins q_k183 447 = some (.bipush 11, 0, 0) from rfl) (by decide) ?_
      obtain ⟨a61, s62, hca61, h⟩ := zt_byE h
      refine zt_callV (d := 5) zy_183 (show q_ins q_k183 449 = some (.invokevirtual 86, 122, 1) from rfl) zy_122 (by decide) ⟨zq_lt (by decide), by decide⟩ rfl (by simp [Value.category]) (by simp [lg_sl, Value.category]) (zt_rcv zc_0) (zt_dm (by decide) (S_C_size hca61)) ?_
      refine zt_iload zy_183 (show q_ins q_k183 452 = some (.iload 7, 0, 0) from rfl) (v := Int32.ofInt v7) rfl ?_
      refine zt_iconst zy_183 (show q_ins q_k183 454 = some (.iconst 1, 0, 0) from rfl) ?_
      refine zt_iadd zy_183 (show q_ins q_k183 455 = some (.iadd, 0, 0) from rfl) ?_
      obtain ⟨hg, h⟩ := zt_ckE h
      refine zt_icmp_ne zy_183 (show q_ins q_k183 456 = some (.if_icmp .ne 14, 470, 0) from rfl) (⟨hg.1, hg.2⟩) (fun hc => ?_) (fun hc => ?_)
      · rw [if_pos hc] at h
        refine zt_aload_n zy_183 (show q_ins q_k183 459 = some (.aload_n 0, 0, 0) from rfl) (v := 0) rfl ?_
        refine zt_bipush zy_183 (show q_ins q_k183 460 = some (.bipush 10, 0, 0) from rfl) (by decide) ?_
        obtain ⟨a63, s64, hca63, h⟩ := zt_byE h
        refine zt_callV (d := 5) zy_183 (show q_ins q_k183 462 = some (.invokevirtual 86, 122, 1) from rfl) zy_122 (by decide) ⟨zq_lt (by decide), by decide⟩ rfl (by simp [Value.category]) (by simp [lg_sl, Value.category]) (zt_rcv zc_0) (zt_dm (by decide) (S_C_size hca63)) ?_
        refine zt_iload zy_183 (show q_ins q_k183 465 = some (.iload 11, 0, 0) from rfl) (v := Int32.ofInt v11) rfl ?_
        obtain ⟨hg, h⟩ := zt_ckE h
        refine zt_icmp_eq zy_183 (show q_ins q_k183 467 = some (.if_icmp .eq 5, 472, 0) from rfl) (⟨hg.1, hg.2⟩) (fun hc => ?_) (fun hc => ?_)
        · rw [if_pos hc] at h
          exact zt_wk (zt_cov_cons rfl (zt_cov_cons rfl (zt_cov_cons rfl (zt_cov_cons rfl (zt_cov_cons rfl (zt_cov_nil)))))) (S_P_isPlayed_472  _ _ _ _ _ _ _ h)
        · rw [if_neg hc] at h
          exact zt_wk (zt_cov_nil) (S_P_isPlayed_470  _ _ _ h)
      · rw [if_neg hc] at h
        exact zt_wk (zt_cov_nil) (S_P_isPlayed_470  _ _ _ h)
    · rw [if_neg hc] at h
      exact zt_wk (zt_cov_nil) (S_P_isPlayed_470  _ _ _ h)
  · rw [if_neg hc] at h
    exact zt_wk (zt_cov_nil) (S_P_isPlayed_470  _ _ _ h)
set_option maxRecDepth 100000 in
theorem S_P_isPlayed_392 {X : q_X}   : ∀ (v2 : Int) (v3 : Int) (v5 : Int) (v6 : Int) (v7 : Int) (v11 : Int) (v14 : Int) (v15 : Int) (x0 : Int) (σ : zt_S) (T : zt_T) (o : (Int × zt_S × zt_T)), F_P_isPlayed_392  v2 v3 v5 v6 v7 v11 v14 v15 x0 σ T = some o → zt_Ex X 6 183 392 [(0, .ref 0), (2, .int (Int32.ofInt v2)), (3, .int (Int32.ofInt v3)), (5, .int (Int32.ofInt v5)), (6, .int (Int32.ofInt v6)), (7, .int (Int32.ofInt v7)), (11, .int (Int32.ofInt v11)), (14, .int (Int32.ofInt v14)), (15, .int (Int32.ofInt v15))] [.int (Int32.ofInt x0)] (zt_M T σ) (zl_I o) := by
  intro v2 v3 v5 v6 v7 v11 v14 v15 x0 σ T o  h
  unfold F_P_isPlayed_392 at h
  refine zt_istore zy_183 (show q_ins q_k183 392 = some (.istore 16, 0, 0) from rfl) (by decide) ?_
  refine zt_iload zy_183 (show q_ins q_k183 394 = some (.iload 15, 0, 0) from rfl) (v := Int32.ofInt v15) rfl ?_
  obtain ⟨hg, h⟩ := zt_ckE h
  refine zt_if_ne zy_183 (show q_ins q_k183 396 = some (.ifCond .ne 8, 404, 0) from rfl) (hg) (fun hc => ?_) (fun hc => ?_)
  · rw [if_pos hc] at h
    refine zt_iload zy_183 (show q_ins q_k183 399 = some (.iload 14, 0, 0) from rfl) (v := Int32.ofInt v14) rfl ?_
    refine zt_goto zy_183 (show q_ins q_k183 401 = some (.goto 23, 424, 0) from rfl) ?_
    exact zt_wk (zt_cov_cons rfl (zt_cov_cons rfl (zt_cov_cons rfl (zt_cov_cons rfl (zt_cov_cons rfl (zt_cov_cons rfl (zt_cov_cons rfl (zt_cov_cons rfl (zt_cov_nil))))))))) (S_P_isPlayed_424  _ _ _ _ _ _ _ _ _ _ _ h)
  · rw [if_neg hc] at h
    refine zt_aload_n zy_183 (show q_ins q_k183 404 = some (.aload_n 0, 0, 0) from rfl) (v := 0) rfl ?_
    refine zt_bipush zy_183 (show q_ins q_k183 405 = some (.bipush 8, 0, 0) from rfl) (by decide) ?_
    obtain ⟨a65, s66, hca65, h⟩ := zt_byE h
    refine zt_callV (d := 5) zy_183 (show q_ins q_k183 407 = some (.invokevirtual 86, 122, 1) from rfl) zy_122 (by decide) ⟨zq_lt (by decide), by decide⟩ rfl (by simp [Value.category]) (by simp [lg_sl, Value.category]) (zt_rcv zc_0) (zt_dm (by decide) (S_C_size hca65)) ?_
    refine zt_iconst zy_183 (show q_ins q_k183 410 = some (.iconst 1, 0, 0) from rfl) ?_
    obtain ⟨hg, h⟩ := zt_ckE h
    refine zt_icmp_ne zy_183 (show q_ins q_k183 411 = some (.if_icmp .ne 12, 423, 0) from rfl) (⟨hg, by decide⟩) (fun hc => ?_) (fun hc => ?_)
    · rw [if_pos hc] at h
      refine zt_aload_n zy_183 (show q_ins q_k183 414 = some (.aload_n 0, 0, 0) from rfl) (v := 0) rfl ?_
      refine zt_bipush zy_183 (show q_ins q_k183 415 = some (.bipush 6, 0, 0) from rfl) (by decide) ?_
      obtain ⟨a67, s68, hca67, h⟩ := zt_byE h
      refine zt_callV (d := 5) zy_183 (show q_ins q_k183 417 = some (.invokevirtual 86, 122, 1) from rfl) zy_122 (by decide) ⟨zq_lt (by decide), by decide⟩ rfl (by simp [Value.category]) (by simp [lg_sl, Value.category]) (zt_rcv zc_0) (zt_dm (by decide) (S_C_size hca67)) ?_
      refine zt_goto zy_183 (show q_ins q_k183 420 = some (.goto 4, 424, 0) from rfl) ?_
      exact zt_wk (zt_cov_cons rfl (zt_cov_cons rfl (zt_cov_cons rfl (zt_cov_cons rfl (zt_cov_cons rfl (zt_cov_cons rfl (zt_cov_cons rfl (zt_cov_cons rfl (zt_cov_nil))))))))) (S_P_isPlayed_424  _ _ _ _ _ _ _ _ _ _ _ h)
    · rw [if_neg hc] at h
      refine zt_iconst zy_183 (show q_ins q_k183 423 = some (.iconst 0, 0, 0) from rfl) ?_
      exact zt_wk (zt_cov_cons rfl (zt_cov_cons rfl (zt_cov_cons rfl (zt_cov_cons rfl (zt_cov_cons rfl (zt_cov_cons rfl (zt_cov_cons rfl (zt_cov_cons rfl (zt_cov_nil))))))))) (S_P_isPlayed_424  _ _ _ _ _ _ _ _ _ _ _ h)
set_option maxRecDepth 100000 in
theorem S_P_isPlayed_360 {X : q_X}   : ∀ (v2 : Int) (v3 : Int) (v5 : Int) (v6 : Int) (v7 : Int) (v11 : Int) (v12 : Int) (v14 : Int) (x0 : Int) (σ : zt_S) (T : zt_T) (o : (Int × zt_S × zt_T)), F_P_isPlayed_360  v2 v3 v5 v6 v7 v11 v12 v14 x0 σ T = some o → zt_Ex X 6 183 360 [(0, .ref 0), (2, .int (Int32.ofInt v2)), (3, .int (Int32.ofInt v3)), (5, .int (Int32.ofInt v5)), (6, .int (Int32.ofInt v6)), (7, .int (Int32.ofInt v7)), (11, .int (Int32.ofInt v11)), (12, .int (Int32.ofInt v12)), (14, .int (Int32.ofInt v14))] [.int (Int32.ofInt x0)] (zt_M T σ) (zl_I o) := by
  intro v2 v3 v5 v6 v7 v11 v12 v14 x0 σ T o  h
  unfold F_P_isPlayed_360 at h
  refine zt_istore zy_183 (show q_ins q_k183 360 = some (.istore 15, 0, 0) from rfl) (by decide) ?_
  refine zt_iload zy_183 (show q_ins q_k183 362 = some (.iload 15, 0, 0) from rfl) (v := Int32.ofInt x0) rfl ?_
  obtain ⟨hg, h⟩ := zt_ckE h
  refine zt_if_ne zy_183 (show q_ins q_k183 364 = some (.ifCond .ne 8, 372, 0) from rfl) (hg) (fun hc => ?_) (fun hc => ?_)
  · rw [if_pos hc] at h
    refine zt_iload zy_183 (show q_ins q_k183 367 = some (.iload 5, 0, 0) from rfl) (v := Int32.ofInt v5) rfl ?_
    refine zt_goto zy_183 (show q_ins q_k183 369 = some (.goto 23, 392, 0) from rfl) ?_
    exact zt_wk (zt_cov_cons rfl (zt_cov_cons rfl (zt_cov_cons rfl (zt_cov_cons rfl (zt_cov_cons rfl (zt_cov_cons rfl (zt_cov_cons rfl (zt_cov_cons rfl (zt_cov_cons rfl (zt_cov_nil)))))))))) (S_P_isPlayed_392  _ _ _ _ _ _ _ _ _ _ _ _ h)
  · rw [if_neg hc] at h
    refine zt_aload_n zy_183 (show q_ins q_k183 372 = some (.aload_n 0, 0, 0) from rfl) (v := 0) rfl ?_
    refine zt_bipush zy_183 (show q_ins q_k183 373 = some (.bipush 8, 0, 0) from rfl) (by decide) ?_
    obtain ⟨a69, s70, hca69, h⟩ := zt_byE h
    refine zt_callV (d := 5) zy_183 (show q_ins q_k183 375 = some (.invokevirtual 86, 122, 1) from rfl) zy_122 (by decide) ⟨zq_lt (by decide), by decide⟩ rfl (by simp [Value.category]) (by simp [lg_sl, Value.category]) (zt_rcv zc_0) (zt_dm (by decide) (S_C_size hca69)) ?_
    refine zt_iconst zy_183 (show q_ins q_k183 378 = some (.iconst 1, 0, 0) from rfl) ?_
    obtain ⟨hg, h⟩ := zt_ckE h
    refine zt_icmp_ne zy_183 (show q_ins q_k183 379 = some (.if_icmp .ne 12, 391, 0) from rfl) (⟨hg, by decide⟩) (fun hc => ?_) (fun hc => ?_)
    · rw [if_pos hc] at h
      refine zt_aload_n zy_183 (show q_ins q_k183 382 = some (.aload_n 0, 0, 0) from rfl) (v := 0) rfl ?_
      refine zt_iload zy_183 (show q_ins q_k183 383 = some (.iload 12, 0, 0) from rfl) (v := Int32.ofInt v12) rfl ?_
      obtain ⟨a71, s72, hca71, h⟩ := zt_byE h
      refine zt_callV (d := 5) zy_183 (show q_ins q_k183 385 = some (.invokevirtual 157, 123, 1) from rfl) zy_123 (by decide) ⟨zq_lt (by decide), by decide⟩ rfl (by simp [Value.category]) (by simp [lg_sl, Value.category]) (zt_rcv zc_0) (zt_dm (by decide) (S_C_suit hca71)) ?_
      refine zt_goto zy_183 (show q_ins q_k183 388 = some (.goto 4, 392, 0) from rfl) ?_
      exact zt_wk (zt_cov_cons rfl (zt_cov_cons rfl (zt_cov_cons rfl (zt_cov_cons rfl (zt_cov_cons rfl (zt_cov_cons rfl (zt_cov_cons rfl (zt_cov_cons rfl (zt_cov_cons rfl (zt_cov_nil)))))))))) (S_P_isPlayed_392  _ _ _ _ _ _ _ _ _ _ _ _ h)
    · rw [if_neg hc] at h
      refine zt_iconst zy_183 (show q_ins q_k183 391 = some (.iconst (-1), 0, 0) from rfl) ?_
      exact zt_wk (zt_cov_cons rfl (zt_cov_cons rfl (zt_cov_cons rfl (zt_cov_cons rfl (zt_cov_cons rfl (zt_cov_cons rfl (zt_cov_cons rfl (zt_cov_cons rfl (zt_cov_cons rfl (zt_cov_nil)))))))))) (S_P_isPlayed_392  _ _ _ _ _ _ _ _ _ _ _ _ h)
set_option maxRecDepth 100000 in
theorem S_P_isPlayed_359 {X : q_X}   : ∀ (v2 : Int) (v3 : Int) (v5 : Int) (v6 : Int) (v7 : Int) (v11 : Int) (v12 : Int) (v14 : Int) (σ : zt_S) (T : zt_T) (o : (Int × zt_S × zt_T)), F_P_isPlayed_359  v2 v3 v5 v6 v7 v11 v12 v14 σ T = some o → zt_Ex X 6 183 359 [(0, .ref 0), (2, .int (Int32.ofInt v2)), (3, .int (Int32.ofInt v3)), (5, .int (Int32.ofInt v5)), (6, .int (Int32.ofInt v6)), (7, .int (Int32.ofInt v7)), (11, .int (Int32.ofInt v11)), (12, .int (Int32.ofInt v12)), (14, .int (Int32.ofInt v14))] [] (zt_M T σ) (zl_I o) := by
  intro v2 v3 v5 v6 v7 v11 v12 v14 σ T o  h
  unfold F_P_isPlayed_359 at h
  refine zt_iconst zy_183 (show q_ins q_k183 359 = some (.iconst 0, 0, 0) from rfl) ?_
  exact zt_wk (zt_cov_cons rfl (zt_cov_cons rfl (zt_cov_cons rfl (zt_cov_cons rfl (zt_cov_cons rfl (zt_cov_cons rfl (zt_cov_cons rfl (zt_cov_cons rfl (zt_cov_cons rfl (zt_cov_nil)))))))))) (S_P_isPlayed_360  _ _ _ _ _ _ _ _ _ _ _ _ h)
set_option maxRecDepth 100000 in
theorem S_P_isPlayed_325 {X : q_X}   : ∀ (v2 : Int) (v3 : Int) (v5 : Int) (v6 : Int) (v7 : Int) (v10 : Int) (v11 : Int) (v12 : Int) (σ : zt_S) (T : zt_T) (o : (Int × zt_S × zt_T)), F_P_isPlayed_325  v2 v3 v5 v6 v7 v10 v11 v12 σ T = some o → zt_Ex X 6 183 325 [(0, .ref 0), (2, .int (Int32.ofInt v2)), (3, .int (Int32.ofInt v3)), (5, .int (Int32.ofInt v5)), (6, .int (Int32.ofInt v6)), (7, .int (Int32.ofInt v7)), (10, .int (Int32.ofInt v10)), (11, .int (Int32.ofInt v11)), (12, .int (Int32.ofInt v12))] [] (zt_M T σ) (zl_I o) := by
  intro v2 v3 v5 v6 v7 v10 v11 v12 σ T o  h
  unfold F_P_isPlayed_325 at h
  refine zt_iload zy_183 (show q_ins q_k183 325 = some (.iload 10, 0, 0) from rfl) (v := Int32.ofInt v10) rfl ?_
  obtain ⟨hg, h⟩ := zt_ckE h
  refine zt_if_eq zy_183 (show q_ins q_k183 327 = some (.ifCond .eq 145, 472, 0) from rfl) (hg) (fun hc => ?_) (fun hc => ?_)
  · rw [if_pos hc] at h
    exact zt_wk (zt_cov_cons rfl (zt_cov_cons rfl (zt_cov_cons rfl (zt_cov_cons rfl (zt_cov_cons rfl (zt_cov_nil)))))) (S_P_isPlayed_472  _ _ _ _ _ _ _ h)
  · rw [if_neg hc] at h
    refine zt_iconst zy_183 (show q_ins q_k183 330 = some (.iconst 0, 0, 0) from rfl) ?_
    refine zt_iload zy_183 (show q_ins q_k183 331 = some (.iload 6, 0, 0) from rfl) (v := Int32.ofInt v6) rfl ?_
    refine zt_aload_n zy_183 (show q_ins q_k183 333 = some (.aload_n 0, 0, 0) from rfl) (v := 0) rfl ?_
    refine zt_bipush zy_183 (show q_ins q_k183 334 = some (.bipush 7, 0, 0) from rfl) (by decide) ?_
    obtain ⟨a55, s56, hca55, h⟩ := zt_byE h
    refine zt_callV (d := 5) zy_183 (show q_ins q_k183 336 = some (.invokevirtual 86, 122, 1) from rfl) zy_122 (by decide) ⟨zq_lt (by decide), by decide⟩ rfl (by simp [Value.category]) (by simp [lg_sl, Value.category]) (zt_rcv zc_0) (zt_dm (by decide) (S_C_size hca55)) ?_
    refine zt_isub zy_183 (show q_ins q_k183 339 = some (.isub, 0, 0) from rfl) ?_
    obtain ⟨hg, h⟩ := zt_ckE h
    refine zt_max zy_183 (show q_ins q_k183 340 = some (.invokestatic 198, 910, 2) from rfl) rfl ⟨by decide, hg⟩ (by simp [Value.category]) ?_
    refine zt_istore zy_183 (show q_ins q_k183 343 = some (.istore 14, 0, 0) from rfl) (by decide) ?_
    refine zt_iload zy_183 (show q_ins q_k183 345 = some (.iload 6, 0, 0) from rfl) (v := Int32.ofInt v6) rfl ?_
    obtain ⟨hg, h⟩ := zt_ckE h
    refine zt_if_le zy_183 (show q_ins q_k183 347 = some (.ifCond .le 12, 359, 0) from rfl) (hg) (fun hc => ?_) (fun hc => ?_)
    · rw [if_pos hc] at h
      refine zt_iload zy_183 (show q_ins q_k183 350 = some (.iload 14, 0, 0) from rfl) (v := Int32.ofInt (if (0 : Int) < (v6 - a55) then (v6 - a55) else (0 : Int))) rfl ?_
      obtain ⟨hg, h⟩ := zt_ckE h
      refine zt_if_ne zy_183 (show q_ins q_k183 352 = some (.ifCond .ne 7, 359, 0) from rfl) (hg) (fun hc => ?_) (fun hc => ?_)
      · rw [if_pos hc] at h
        refine zt_iconst zy_183 (show q_ins q_k183 355 = some (.iconst 1, 0, 0) from rfl) ?_
        refine zt_goto zy_183 (show q_ins q_k183 356 = some (.goto 4, 360, 0) from rfl) ?_
        exact zt_wk (zt_cov_cons rfl (zt_cov_cons rfl (zt_cov_cons rfl (zt_cov_cons rfl (zt_cov_cons rfl (zt_cov_cons rfl (zt_cov_cons rfl (zt_cov_cons rfl (zt_cov_cons rfl (zt_cov_nil)))))))))) (S_P_isPlayed_360  _ _ _ _ _ _ _ _ _ _ _ _ h)
      · rw [if_neg hc] at h
        exact zt_wk (zt_cov_cons rfl (zt_cov_cons rfl (zt_cov_cons rfl (zt_cov_cons rfl (zt_cov_cons rfl (zt_cov_cons rfl (zt_cov_cons rfl (zt_cov_cons rfl (zt_cov_cons rfl (zt_cov_nil)))))))))) (S_P_isPlayed_359  _ _ _ _ _ _ _ _ _ _ _ h)
    · rw [if_neg hc] at h
      exact zt_wk (zt_cov_cons rfl (zt_cov_cons rfl (zt_cov_cons rfl (zt_cov_cons rfl (zt_cov_cons rfl (zt_cov_cons rfl (zt_cov_cons rfl (zt_cov_cons rfl (zt_cov_cons rfl (zt_cov_nil)))))))))) (S_P_isPlayed_359  _ _ _ _ _ _ _ _ _ _ _ h)
set_option maxRecDepth 100000 in
theorem S_P_isPlayed_323 {X : q_X}   : ∀  (σ : zt_S) (T : zt_T) (o : (Int × zt_S × zt_T)), F_P_isPlayed_323   σ T = some o → zt_Ex X 6 183 323 [] [] (zt_M T σ) (zl_I o) := by
  intro  σ T o  h
  unfold F_P_isPlayed_323 at h
  refine zt_iconst zy_183 (show q_ins q_k183 323 = some (.iconst 0, 0, 0) from rfl) ?_
  cases h
  exact zt_zret zy_183 (show q_ins q_k183 324 = some (.ireturn, 0, 0) from rfl) (by decide)
set_option maxRecDepth 100000 in
theorem S_P_isPlayed_281 {X : q_X}   : ∀  (σ : zt_S) (T : zt_T) (o : (Int × zt_S × zt_T)), F_P_isPlayed_281   σ T = some o → zt_Ex X 6 183 281 [] [] (zt_M T σ) (zl_I o) := by
  intro  σ T o  h
  unfold F_P_isPlayed_281 at h
  refine zt_iconst zy_183 (show q_ins q_k183 281 = some (.iconst 0, 0, 0) from rfl) ?_
  cases h
  exact zt_zret zy_183 (show q_ins q_k183 282 = some (.ireturn, 0, 0) from rfl) (by decide)
set_option maxRecDepth 100000 in
theorem S_P_isPlayed_269 {X : q_X}   : ∀ (v2 : Int) (v3 : Int) (v4 : Int) (v5 : Int) (v6 : Int) (v7 : Int) (v10 : Int) (v11 : Int) (v12 : Int) (x0 : Int) (x1 : Int) (σ : zt_S) (T : zt_T) (o : (Int × zt_S × zt_T)), F_P_isPlayed_269  v2 v3 v4 v5 v6 v7 v10 v11 v12 x0 x1 σ T = some o → zt_Ex X 6 183 269 [(0, .ref 0), (2, .int (Int32.ofInt v2)), (3, .int (Int32.ofInt v3)), (4, .int (Int32.ofInt v4)), (5, .int (Int32.ofInt v5)), (6, .int (Int32.ofInt v6)), (7, .int (Int32.ofInt v7)), (10, .int (Int32.ofInt v10)), (11, .int (Int32.ofInt v11)), (12, .int (Int32.ofInt v12))] [.int (Int32.ofInt x0), .int (Int32.ofInt x1)] (zt_M T σ) (zl_I o) := by
  intro v2 v3 v4 v5 v6 v7 v10 v11 v12 x0 x1 σ T o  h
  unfold F_P_isPlayed_269 at h
  obtain ⟨hg, h⟩ := zt_ckE h
  refine zt_icmp_ne zy_183 (show q_ins q_k183 269 = some (.if_icmp .ne 12, 281, 0) from rfl) (⟨hg.1, hg.2⟩) (fun hc => ?_) (fun hc => ?_)
  · rw [if_pos hc] at h
    refine zt_aload_n zy_183 (show q_ins q_k183 272 = some (.aload_n 0, 0, 0) from rfl) (v := 0) rfl ?_
    refine zt_iload_n zy_183 (show q_ins q_k183 273 = some (.iload_n 3, 0, 0) from rfl) (v := Int32.ofInt v3) rfl ?_
    obtain ⟨a39, s40, hca39, h⟩ := zt_byE h
    refine zt_callV (d := 5) zy_183 (show q_ins q_k183 274 = some (.invokevirtual 93, 125, 1) from rfl) zy_125 (by decide) ⟨zq_lt (by decide), by decide⟩ rfl (by simp [Value.category]) (by simp [lg_sl, Value.category]) (zt_rcv zc_0) (zt_dm (by decide) (S_C_holder hca39)) ?_
    refine zt_iconst zy_183 (show q_ins q_k183 277 = some (.iconst (-1), 0, 0) from rfl) ?_
    obtain ⟨hg, h⟩ := zt_ckE h
    refine zt_icmp_eq zy_183 (show q_ins q_k183 278 = some (.if_icmp .eq 5, 283, 0) from rfl) (⟨hg, by decide⟩) (fun hc => ?_) (fun hc => ?_)
    · rw [if_pos hc] at h
      refine zt_iload zy_183 (show q_ins q_k183 283 = some (.iload 10, 0, 0) from rfl) (v := Int32.ofInt v10) rfl ?_
      obtain ⟨hg, h⟩ := zt_ckE h
      refine zt_if_ne zy_183 (show q_ins q_k183 285 = some (.ifCond .ne 40, 325, 0) from rfl) (hg) (fun hc => ?_) (fun hc => ?_)
      · rw [if_pos hc] at h
        refine zt_aload_n zy_183 (show q_ins q_k183 288 = some (.aload_n 0, 0, 0) from rfl) (v := 0) rfl ?_
        refine zt_iconst zy_183 (show q_ins q_k183 289 = some (.iconst 4, 0, 0) from rfl) ?_
        obtain ⟨a41, s42, hca41, h⟩ := zt_byE h
        refine zt_callV (d := 5) zy_183 (show q_ins q_k183 290 = some (.invokevirtual 86, 122, 1) from rfl) zy_122 (by decide) ⟨zq_lt (by decide), by decide⟩ rfl (by simp [Value.category]) (by simp [lg_sl, Value.category]) (zt_rcv zc_0) (zt_dm (by decide) (S_C_size hca41)) ?_
        refine zt_iload zy_183 (show q_ins q_k183 293 = some (.iload 5, 0, 0) from rfl) (v := Int32.ofInt v5) rfl ?_
        obtain ⟨hg, h⟩ := zt_ckE h
        refine zt_icmp_ne zy_183 (show q_ins q_k183 295 = some (.if_icmp .ne 28, 323, 0) from rfl) (⟨hg.1, hg.2⟩) (fun hc => ?_) (fun hc => ?_)
        · rw [if_pos hc] at h
          refine zt_aload_n zy_183 (show q_ins q_k183 298 = some (.aload_n 0, 0, 0) from rfl) (v := 0) rfl ?_
          refine zt_iconst zy_183 (show q_ins q_k183 299 = some (.iconst 5, 0, 0) from rfl) ?_
          obtain ⟨a43, s44, hca43, h⟩ := zt_byE h
          refine zt_callV (d := 5) zy_183 (show q_ins q_k183 300 = some (.invokevirtual 86, 122, 1) from rfl) zy_122 (by decide) ⟨zq_lt (by decide), by decide⟩ rfl (by simp [Value.category]) (by simp [lg_sl, Value.category]) (zt_rcv zc_0) (zt_dm (by decide) (S_C_size hca43)) ?_
          refine zt_iload zy_183 (show q_ins q_k183 303 = some (.iload 6, 0, 0) from rfl) (v := Int32.ofInt v6) rfl ?_
          obtain ⟨hg, h⟩ := zt_ckE h
          refine zt_icmp_ne zy_183 (show q_ins q_k183 305 = some (.if_icmp .ne 18, 323, 0) from rfl) (⟨hg.1, hg.2⟩) (fun hc => ?_) (fun hc => ?_)
          · rw [if_pos hc] at h
            refine zt_aload_n zy_183 (show q_ins q_k183 308 = some (.aload_n 0, 0, 0) from rfl) (v := 0) rfl ?_
            refine zt_bipush zy_183 (show q_ins q_k183 309 = some (.bipush 9, 0, 0) from rfl) (by decide) ?_
            obtain ⟨a45, s46, hca45, h⟩ := zt_byE h
            refine zt_callV (d := 5) zy_183 (show q_ins q_k183 311 = some (.invokevirtual 86, 122, 1) from rfl) zy_122 (by decide) ⟨zq_lt (by decide), by decide⟩ rfl (by simp [Value.category]) (by simp [lg_sl, Value.category]) (zt_rcv zc_0) (zt_dm (by decide) (S_C_size hca45)) ?_
            refine zt_iload_n zy_183 (show q_ins q_k183 314 = some (.iload_n 2, 0, 0) from rfl) (v := Int32.ofInt v2) rfl ?_
            refine zt_iconst zy_183 (show q_ins q_k183 315 = some (.iconst 1, 0, 0) from rfl) ?_
            refine zt_iadd zy_183 (show q_ins q_k183 316 = some (.iadd, 0, 0) from rfl) ?_
            refine zt_iload zy_183 (show q_ins q_k183 317 = some (.iload 4, 0, 0) from rfl) (v := Int32.ofInt v4) rfl ?_
            obtain ⟨hg, h⟩ := zt_ckE h
            refine zt_irem zy_183 (show q_ins q_k183 319 = some (.irem, 0, 0) from rfl) hg.1 hg.2 ?_
            obtain ⟨hg, h⟩ := zt_ckE h
            refine zt_icmp_eq zy_183 (show q_ins q_k183 320 = some (.if_icmp .eq 5, 325, 0) from rfl) (⟨hg.1, hg.2⟩) (fun hc => ?_) (fun hc => ?_)
            · rw [if_pos hc] at h
              exact zt_wk (zt_cov_cons rfl (zt_cov_cons rfl (zt_cov_cons rfl (zt_cov_cons rfl (zt_cov_cons rfl (zt_cov_cons rfl (zt_cov_cons rfl (zt_cov_cons rfl (zt_cov_cons rfl (zt_cov_nil)))))))))) (S_P_isPlayed_325  _ _ _ _ _ _ _ _ _ _ _ h)
            · rw [if_neg hc] at h
              exact zt_wk (zt_cov_nil) (S_P_isPlayed_323  _ _ _ h)
          · rw [if_neg hc] at h
            exact zt_wk (zt_cov_nil) (S_P_isPlayed_323  _ _ _ h)
        · rw [if_neg hc] at h
          exact zt_wk (zt_cov_nil) (S_P_isPlayed_323  _ _ _ h)
      · rw [if_neg hc] at h
        exact zt_wk (zt_cov_cons rfl (zt_cov_cons rfl (zt_cov_cons rfl (zt_cov_cons rfl (zt_cov_cons rfl (zt_cov_cons rfl (zt_cov_cons rfl (zt_cov_cons rfl (zt_cov_cons rfl (zt_cov_nil)))))))))) (S_P_isPlayed_325  _ _ _ _ _ _ _ _ _ _ _ h)
    · rw [if_neg hc] at h
      exact zt_wk (zt_cov_nil) (S_P_isPlayed_281  _ _ _ h)
  · rw [if_neg hc] at h
    exact zt_wk (zt_cov_nil) (S_P_isPlayed_281  _ _ _ h)
set_option maxRecDepth 100000 in
theorem S_P_isPlayed_205 {X : q_X}   : ∀ (v2 : Int) (v3 : Int) (v4 : Int) (v5 : Int) (v6 : Int) (v7 : Int) (v8 : Int) (v9 : Int) (v10 : Int) (v11 : Int) (v12 : Int) (σ : zt_S) (T : zt_T) (o : (Int × zt_S × zt_T)), F_P_isPlayed_205  v2 v3 v4 v5 v6 v7 v8 v9 v10 v11 v12 σ T = some o → zt_Ex X 6 183 205 [(0, .ref 0), (2, .int (Int32.ofInt v2)), (3, .int (Int32.ofInt v3)), (4, .int (Int32.ofInt v4)), (5, .int (Int32.ofInt v5)), (6, .int (Int32.ofInt v6)), (7, .int (Int32.ofInt v7)), (8, .int (Int32.ofInt v8)), (9, .int (Int32.ofInt v9)), (10, .int (Int32.ofInt v10)), (11, .int (Int32.ofInt v11)), (12, .int (Int32.ofInt v12))] [] (zt_M T σ) (zl_I o) := by
  intro v2 v3 v4 v5 v6 v7 v8 v9 v10 v11 v12 σ T o  h
  unfold F_P_isPlayed_205 at h
  refine zt_aload_n zy_183 (show q_ins q_k183 205 = some (.aload_n 0, 0, 0) from rfl) (v := 0) rfl ?_
  refine zt_iload_n zy_183 (show q_ins q_k183 206 = some (.iload_n 3, 0, 0) from rfl) (v := Int32.ofInt v3) rfl ?_
  obtain ⟨a35, s36, hca35, h⟩ := zt_byE h
  refine zt_callV (d := 5) zy_183 (show q_ins q_k183 207 = some (.invokevirtual 105, 152, 1) from rfl) zy_152 (by decide) ⟨zq_lt (by decide), by decide⟩ rfl (by simp [Value.category]) (by simp [lg_sl, Value.category]) (zt_rcv zc_0) (zt_dm (by decide) (S_C_play hca35)) ?_
  refine zt_istore zy_183 (show q_ins q_k183 210 = some (.istore 13, 0, 0) from rfl) (by decide) ?_
  refine zt_iload zy_183 (show q_ins q_k183 212 = some (.iload 8, 0, 0) from rfl) (v := Int32.ofInt v8) rfl ?_
  obtain ⟨hg, h⟩ := zt_ckE h
  refine zt_if_ne zy_183 (show q_ins q_k183 214 = some (.ifCond .ne 16, 230, 0) from rfl) (hg) (fun hc => ?_) (fun hc => ?_)
  · rw [if_pos hc] at h
    refine zt_iload zy_183 (show q_ins q_k183 217 = some (.iload 13, 0, 0) from rfl) (v := Int32.ofInt a35) rfl ?_
    refine zt_bipush zy_183 (show q_ins q_k183 219 = some (.bipush (-3), 0, 0) from rfl) (by decide) ?_
    obtain ⟨hg, h⟩ := zt_ckE h
    refine zt_icmp_ne zy_183 (show q_ins q_k183 221 = some (.if_icmp .ne 7, 228, 0) from rfl) (⟨hg, by decide⟩) (fun hc => ?_) (fun hc => ?_)
    · rw [if_pos hc] at h
      refine zt_iconst zy_183 (show q_ins q_k183 224 = some (.iconst 1, 0, 0) from rfl) ?_
      refine zt_goto zy_183 (show q_ins q_k183 225 = some (.goto 4, 229, 0) from rfl) ?_
      exact zt_wk (zt_cov_nil) (S_P_isPlayed_229  _ _ _ _ h)
    · rw [if_neg hc] at h
      refine zt_iconst zy_183 (show q_ins q_k183 228 = some (.iconst 0, 0, 0) from rfl) ?_
      exact zt_wk (zt_cov_nil) (S_P_isPlayed_229  _ _ _ _ h)
  · rw [if_neg hc] at h
    refine zt_iload zy_183 (show q_ins q_k183 230 = some (.iload 9, 0, 0) from rfl) (v := Int32.ofInt v9) rfl ?_
    obtain ⟨hg, h⟩ := zt_ckE h
    refine zt_if_ne zy_183 (show q_ins q_k183 232 = some (.ifCond .ne 16, 248, 0) from rfl) (hg) (fun hc => ?_) (fun hc => ?_)
    · rw [if_pos hc] at h
      refine zt_iload zy_183 (show q_ins q_k183 235 = some (.iload 13, 0, 0) from rfl) (v := Int32.ofInt a35) rfl ?_
      refine zt_bipush zy_183 (show q_ins q_k183 237 = some (.bipush (-4), 0, 0) from rfl) (by decide) ?_
      obtain ⟨hg, h⟩ := zt_ckE h
      refine zt_icmp_ne zy_183 (show q_ins q_k183 239 = some (.if_icmp .ne 7, 246, 0) from rfl) (⟨hg, by decide⟩) (fun hc => ?_) (fun hc => ?_)
      · rw [if_pos hc] at h
        refine zt_iconst zy_183 (show q_ins q_k183 242 = some (.iconst 1, 0, 0) from rfl) ?_
        refine zt_goto zy_183 (show q_ins q_k183 243 = some (.goto 4, 247, 0) from rfl) ?_
        exact zt_wk (zt_cov_nil) (S_P_isPlayed_247  _ _ _ _ h)
      · rw [if_neg hc] at h
        refine zt_iconst zy_183 (show q_ins q_k183 246 = some (.iconst 0, 0, 0) from rfl) ?_
        exact zt_wk (zt_cov_nil) (S_P_isPlayed_247  _ _ _ _ h)
    · rw [if_neg hc] at h
      refine zt_iload zy_183 (show q_ins q_k183 248 = some (.iload 13, 0, 0) from rfl) (v := Int32.ofInt a35) rfl ?_
      refine zt_iload zy_183 (show q_ins q_k183 250 = some (.iload 10, 0, 0) from rfl) (v := Int32.ofInt v10) rfl ?_
      obtain ⟨hg, h⟩ := zt_ckE h
      refine zt_if_eq zy_183 (show q_ins q_k183 252 = some (.ifCond .eq 8, 260, 0) from rfl) (hg) (fun hc => ?_) (fun hc => ?_)
      · rw [if_pos hc] at h
        refine zt_iload zy_183 (show q_ins q_k183 260 = some (.iload 4, 0, 0) from rfl) (v := Int32.ofInt v4) rfl ?_
        refine zt_aload_n zy_183 (show q_ins q_k183 262 = some (.aload_n 0, 0, 0) from rfl) (v := 0) rfl ?_
        refine zt_bipush zy_183 (show q_ins q_k183 263 = some (.bipush 9, 0, 0) from rfl) (by decide) ?_
        obtain ⟨a37, s38, hca37, h⟩ := zt_byE h
        refine zt_callV (d := 5) zy_183 (show q_ins q_k183 265 = some (.invokevirtual 86, 122, 1) from rfl) zy_122 (by decide) ⟨zq_lt (by decide), by decide⟩ rfl (by simp [Value.category]) (by simp [lg_sl, Value.category]) (zt_rcv zc_0) (zt_dm (by decide) (S_C_size hca37)) ?_
        refine zt_iadd zy_183 (show q_ins q_k183 268 = some (.iadd, 0, 0) from rfl) ?_
        exact zt_wk (zt_cov_cons rfl (zt_cov_cons rfl (zt_cov_cons rfl (zt_cov_cons rfl (zt_cov_cons rfl (zt_cov_cons rfl (zt_cov_cons rfl (zt_cov_cons rfl (zt_cov_cons rfl (zt_cov_cons rfl (zt_cov_nil))))))))))) (S_P_isPlayed_269  _ _ _ _ _ _ _ _ _ _ _ _ _ _ h)
      · rw [if_neg hc] at h
        refine zt_iload zy_183 (show q_ins q_k183 255 = some (.iload 11, 0, 0) from rfl) (v := Int32.ofInt v11) rfl ?_
        refine zt_goto zy_183 (show q_ins q_k183 257 = some (.goto 12, 269, 0) from rfl) ?_
        exact zt_wk (zt_cov_cons rfl (zt_cov_cons rfl (zt_cov_cons rfl (zt_cov_cons rfl (zt_cov_cons rfl (zt_cov_cons rfl (zt_cov_cons rfl (zt_cov_cons rfl (zt_cov_cons rfl (zt_cov_cons rfl (zt_cov_nil))))))))))) (S_P_isPlayed_269  _ _ _ _ _ _ _ _ _ _ _ _ _ _ h)
set_option maxRecDepth 100000 in
theorem S_P_isPlayed_162 {X : q_X}   : ∀ (n : Nat) (v2 : Int) (v3 : Int) (v4 : Int) (v5 : Int) (v6 : Int) (v7 : Int) (v8 : Int) (v9 : Int) (v10 : Int) (v11 : Int) (v12 : Int) (v13 : Int) (σ : zt_S) (T : zt_T) (o : (Int × zt_S × zt_T)), F_P_isPlayed_162  n v2 v3 v4 v5 v6 v7 v8 v9 v10 v11 v12 v13 σ T = some o → zt_Ex X 6 183 162 [(0, .ref 0), (2, .int (Int32.ofInt v2)), (3, .int (Int32.ofInt v3)), (4, .int (Int32.ofInt v4)), (5, .int (Int32.ofInt v5)), (6, .int (Int32.ofInt v6)), (7, .int (Int32.ofInt v7)), (8, .int (Int32.ofInt v8)), (9, .int (Int32.ofInt v9)), (10, .int (Int32.ofInt v10)), (11, .int (Int32.ofInt v11)), (12, .int (Int32.ofInt v12)), (13, .int (Int32.ofInt v13))] [] (zt_M T σ) (zl_I o) := by
  intro n
  induction n with
  | zero => intro v2 v3 v4 v5 v6 v7 v8 v9 v10 v11 v12 v13 σ T o  h; cases h
  | succ n ih =>
  intro v2 v3 v4 v5 v6 v7 v8 v9 v10 v11 v12 v13 σ T o  h
  rw [F_P_isPlayed_162] at h
  refine zt_iload zy_183 (show q_ins q_k183 162 = some (.iload 13, 0, 0) from rfl) (v := Int32.ofInt v13) rfl ?_
  refine zt_aload_n zy_183 (show q_ins q_k183 164 = some (.aload_n 0, 0, 0) from rfl) (v := 0) rfl ?_
  refine zt_bipush zy_183 (show q_ins q_k183 165 = some (.bipush 12, 0, 0) from rfl) (by decide) ?_
  obtain ⟨a29, s30, hca29, h⟩ := zt_byE h
  refine zt_callV (d := 5) zy_183 (show q_ins q_k183 167 = some (.invokevirtual 86, 122, 1) from rfl) zy_122 (by decide) ⟨zq_lt (by decide), by decide⟩ rfl (by simp [Value.category]) (by simp [lg_sl, Value.category]) (zt_rcv zc_0) (zt_dm (by decide) (S_C_size hca29)) ?_
  obtain ⟨hg, h⟩ := zt_ckE h
  refine zt_icmp_ge zy_183 (show q_ins q_k183 170 = some (.if_icmp .ge 35, 205, 0) from rfl) (⟨hg.1, hg.2⟩) (fun hc => ?_) (fun hc => ?_)
  · rw [if_pos hc] at h
    refine zt_iload zy_183 (show q_ins q_k183 173 = some (.iload 12, 0, 0) from rfl) (v := Int32.ofInt v12) rfl ?_
    obtain ⟨hg, h⟩ := zt_ckE h
    refine zt_if_ge zy_183 (show q_ins q_k183 175 = some (.ifCond .ge 30, 205, 0) from rfl) (hg) (fun hc => ?_) (fun hc => ?_)
    · rw [if_pos hc] at h
      refine zt_aload_n zy_183 (show q_ins q_k183 178 = some (.aload_n 0, 0, 0) from rfl) (v := 0) rfl ?_
      refine zt_iload zy_183 (show q_ins q_k183 179 = some (.iload 13, 0, 0) from rfl) (v := Int32.ofInt v13) rfl ?_
      refine zt_iconst zy_183 (show q_ins q_k183 181 = some (.iconst 1, 0, 0) from rfl) ?_
      obtain ⟨a31, s32, hca31, h⟩ := zt_byE h
      refine zt_callV (d := 5) zy_183 (show q_ins q_k183 182 = some (.invokevirtual 154, 135, 2) from rfl) zy_135 (by decide) ⟨zq_lt (by decide), by decide⟩ rfl (by simp [Value.category]) (by simp [lg_sl, Value.category]) (zt_rcv zc_0) (zt_dm (by decide) (S_C_played hca31)) ?_
      refine zt_iload zy_183 (show q_ins q_k183 185 = some (.iload 11, 0, 0) from rfl) (v := Int32.ofInt v11) rfl ?_
      obtain ⟨hg, h⟩ := zt_ckE h
      refine zt_icmp_ne zy_183 (show q_ins q_k183 187 = some (.if_icmp .ne 12, 199, 0) from rfl) (⟨hg.1, hg.2⟩) (fun hc => ?_) (fun hc => ?_)
      · rw [if_pos hc] at h
        refine zt_aload_n zy_183 (show q_ins q_k183 190 = some (.aload_n 0, 0, 0) from rfl) (v := 0) rfl ?_
        refine zt_iload zy_183 (show q_ins q_k183 191 = some (.iload 13, 0, 0) from rfl) (v := Int32.ofInt v13) rfl ?_
        refine zt_iconst zy_183 (show q_ins q_k183 193 = some (.iconst 0, 0, 0) from rfl) ?_
        obtain ⟨a33, s34, hca33, h⟩ := zt_byE h
        refine zt_callV (d := 5) zy_183 (show q_ins q_k183 194 = some (.invokevirtual 154, 135, 2) from rfl) zy_135 (by decide) ⟨zq_lt (by decide), by decide⟩ rfl (by simp [Value.category]) (by simp [lg_sl, Value.category]) (zt_rcv zc_0) (zt_dm (by decide) (S_C_played hca33)) ?_
        refine zt_istore zy_183 (show q_ins q_k183 197 = some (.istore 12, 0, 0) from rfl) (by decide) ?_
        exact zt_wk (zt_cov_cons rfl (zt_cov_cons rfl (zt_cov_cons rfl (zt_cov_cons rfl (zt_cov_cons rfl (zt_cov_cons rfl (zt_cov_cons rfl (zt_cov_cons rfl (zt_cov_cons rfl (zt_cov_cons rfl (zt_cov_cons rfl (zt_cov_cons rfl (zt_cov_cons rfl (zt_cov_nil)))))))))))))) (S_P_isPlayed_199  ih _ _ _ _ _ _ _ _ _ _ _ _ _ _ _ h)
      · rw [if_neg hc] at h
        exact zt_wk (zt_cov_cons rfl (zt_cov_cons rfl (zt_cov_cons rfl (zt_cov_cons rfl (zt_cov_cons rfl (zt_cov_cons rfl (zt_cov_cons rfl (zt_cov_cons rfl (zt_cov_cons rfl (zt_cov_cons rfl (zt_cov_cons rfl (zt_cov_cons rfl (zt_cov_cons rfl (zt_cov_nil)))))))))))))) (S_P_isPlayed_199  ih _ _ _ _ _ _ _ _ _ _ _ _ _ _ _ h)
    · rw [if_neg hc] at h
      exact zt_wk (zt_cov_cons rfl (zt_cov_cons rfl (zt_cov_cons rfl (zt_cov_cons rfl (zt_cov_cons rfl (zt_cov_cons rfl (zt_cov_cons rfl (zt_cov_cons rfl (zt_cov_cons rfl (zt_cov_cons rfl (zt_cov_cons rfl (zt_cov_cons rfl (zt_cov_nil))))))))))))) (S_P_isPlayed_205  _ _ _ _ _ _ _ _ _ _ _ _ _ _ h)
  · rw [if_neg hc] at h
    exact zt_wk (zt_cov_cons rfl (zt_cov_cons rfl (zt_cov_cons rfl (zt_cov_cons rfl (zt_cov_cons rfl (zt_cov_cons rfl (zt_cov_cons rfl (zt_cov_cons rfl (zt_cov_cons rfl (zt_cov_cons rfl (zt_cov_cons rfl (zt_cov_cons rfl (zt_cov_nil))))))))))))) (S_P_isPlayed_205  _ _ _ _ _ _ _ _ _ _ _ _ _ _ h)
set_option maxRecDepth 100000 in
theorem S_P_isPlayed_153 {X : q_X}   : ∀ (v2 : Int) (v3 : Int) (v4 : Int) (v5 : Int) (v6 : Int) (v7 : Int) (v8 : Int) (v9 : Int) (v10 : Int) (v11 : Int) (x0 : Int) (σ : zt_S) (T : zt_T) (o : (Int × zt_S × zt_T)), F_P_isPlayed_153  v2 v3 v4 v5 v6 v7 v8 v9 v10 v11 x0 σ T = some o → zt_Ex X 6 183 153 [(0, .ref 0), (2, .int (Int32.ofInt v2)), (3, .int (Int32.ofInt v3)), (4, .int (Int32.ofInt v4)), (5, .int (Int32.ofInt v5)), (6, .int (Int32.ofInt v6)), (7, .int (Int32.ofInt v7)), (8, .int (Int32.ofInt v8)), (9, .int (Int32.ofInt v9)), (10, .int (Int32.ofInt v10)), (11, .int (Int32.ofInt v11))] [.int (Int32.ofInt x0)] (zt_M T σ) (zl_I o) := by
  intro v2 v3 v4 v5 v6 v7 v8 v9 v10 v11 x0 σ T o  h
  unfold F_P_isPlayed_153 at h
  refine zt_istore zy_183 (show q_ins q_k183 153 = some (.istore 12, 0, 0) from rfl) (by decide) ?_
  refine zt_iload zy_183 (show q_ins q_k183 155 = some (.iload 7, 0, 0) from rfl) (v := Int32.ofInt v7) rfl ?_
  refine zt_iload zy_183 (show q_ins q_k183 157 = some (.iload 4, 0, 0) from rfl) (v := Int32.ofInt v4) rfl ?_
  refine zt_imul zy_183 (show q_ins q_k183 159 = some (.imul, 0, 0) from rfl) ?_
  refine zt_istore zy_183 (show q_ins q_k183 160 = some (.istore 13, 0, 0) from rfl) (by decide) ?_
  exact zt_wk (zt_cov_cons rfl (zt_cov_cons rfl (zt_cov_cons rfl (zt_cov_cons rfl (zt_cov_cons rfl (zt_cov_cons rfl (zt_cov_cons rfl (zt_cov_cons rfl (zt_cov_cons rfl (zt_cov_cons rfl (zt_cov_cons rfl (zt_cov_cons rfl (zt_cov_cons rfl (zt_cov_nil)))))))))))))) (S_P_isPlayed_162  _ _ _ _ _ _ _ _ _ _ _ _ _ _ _ _ h)
set_option maxRecDepth 100000 in
theorem S_P_isPlayed_138 {X : q_X}   : ∀ (v2 : Int) (v3 : Int) (v4 : Int) (v5 : Int) (v6 : Int) (v7 : Int) (v8 : Int) (v9 : Int) (v10 : Int) (x0 : Int) (σ : zt_S) (T : zt_T) (o : (Int × zt_S × zt_T)), F_P_isPlayed_138  v2 v3 v4 v5 v6 v7 v8 v9 v10 x0 σ T = some o → zt_Ex X 6 183 138 [(0, .ref 0), (2, .int (Int32.ofInt v2)), (3, .int (Int32.ofInt v3)), (4, .int (Int32.ofInt v4)), (5, .int (Int32.ofInt v5)), (6, .int (Int32.ofInt v6)), (7, .int (Int32.ofInt v7)), (8, .int (Int32.ofInt v8)), (9, .int (Int32.ofInt v9)), (10, .int (Int32.ofInt v10))] [.int (Int32.ofInt x0)] (zt_M T σ) (zl_I o) := by
  intro v2 v3 v4 v5 v6 v7 v8 v9 v10 x0 σ T o  h
  unfold F_P_isPlayed_138 at h
  refine zt_istore zy_183 (show q_ins q_k183 138 = some (.istore 11, 0, 0) from rfl) (by decide) ?_
  refine zt_aload_n zy_183 (show q_ins q_k183 140 = some (.aload_n 0, 0, 0) from rfl) (v := 0) rfl ?_
  refine zt_iload_n zy_183 (show q_ins q_k183 141 = some (.iload_n 3, 0, 0) from rfl) (v := Int32.ofInt v3) rfl ?_
  obtain ⟨a27, s28, hca27, h⟩ := zt_byE h
  refine zt_callV (d := 5) zy_183 (show q_ins q_k183 142 = some (.invokevirtual 175, 134, 1) from rfl) zy_134 (by decide) ⟨zq_lt (by decide), by decide⟩ rfl (by simp [Value.category]) (by simp [lg_sl, Value.category]) (zt_rcv zc_0) (zt_dm (by decide) (S_C_wouldLead hca27)) ?_
  obtain ⟨hg, h⟩ := zt_ckE h
  refine zt_if_eq zy_183 (show q_ins q_k183 145 = some (.ifCond .eq 7, 152, 0) from rfl) (hg) (fun hc => ?_) (fun hc => ?_)
  · rw [if_pos hc] at h
    refine zt_iconst zy_183 (show q_ins q_k183 152 = some (.iconst (-1), 0, 0) from rfl) ?_
    exact zt_wk (zt_cov_cons rfl (zt_cov_cons rfl (zt_cov_cons rfl (zt_cov_cons rfl (zt_cov_cons rfl (zt_cov_cons rfl (zt_cov_cons rfl (zt_cov_cons rfl (zt_cov_cons rfl (zt_cov_cons rfl (zt_cov_cons rfl (zt_cov_nil)))))))))))) (S_P_isPlayed_153  _ _ _ _ _ _ _ _ _ _ _ _ _ _ h)
  · rw [if_neg hc] at h
    refine zt_iload_n zy_183 (show q_ins q_k183 148 = some (.iload_n 3, 0, 0) from rfl) (v := Int32.ofInt v3) rfl ?_
    refine zt_goto zy_183 (show q_ins q_k183 149 = some (.goto 4, 153, 0) from rfl) ?_
    exact zt_wk (zt_cov_cons rfl (zt_cov_cons rfl (zt_cov_cons rfl (zt_cov_cons rfl (zt_cov_cons rfl (zt_cov_cons rfl (zt_cov_cons rfl (zt_cov_cons rfl (zt_cov_cons rfl (zt_cov_cons rfl (zt_cov_cons rfl (zt_cov_nil)))))))))))) (S_P_isPlayed_153  _ _ _ _ _ _ _ _ _ _ _ _ _ _ h)
set_option maxRecDepth 100000 in
theorem S_P_isPlayed_120 {X : q_X}   : ∀ (v2 : Int) (v3 : Int) (v4 : Int) (v5 : Int) (v6 : Int) (v7 : Int) (v8 : Int) (v9 : Int) (x0 : Int) (σ : zt_S) (T : zt_T) (o : (Int × zt_S × zt_T)), F_P_isPlayed_120  v2 v3 v4 v5 v6 v7 v8 v9 x0 σ T = some o → zt_Ex X 6 183 120 [(0, .ref 0), (2, .int (Int32.ofInt v2)), (3, .int (Int32.ofInt v3)), (4, .int (Int32.ofInt v4)), (5, .int (Int32.ofInt v5)), (6, .int (Int32.ofInt v6)), (7, .int (Int32.ofInt v7)), (8, .int (Int32.ofInt v8)), (9, .int (Int32.ofInt v9))] [.int (Int32.ofInt x0)] (zt_M T σ) (zl_I o) := by
  intro v2 v3 v4 v5 v6 v7 v8 v9 x0 σ T o  h
  unfold F_P_isPlayed_120 at h
  refine zt_istore zy_183 (show q_ins q_k183 120 = some (.istore 10, 0, 0) from rfl) (by decide) ?_
  refine zt_aload_n zy_183 (show q_ins q_k183 122 = some (.aload_n 0, 0, 0) from rfl) (v := 0) rfl ?_
  refine zt_iload_n zy_183 (show q_ins q_k183 123 = some (.iload_n 3, 0, 0) from rfl) (v := Int32.ofInt v3) rfl ?_
  obtain ⟨a23, s24, hca23, h⟩ := zt_byE h
  refine zt_callV (d := 5) zy_183 (show q_ins q_k183 124 = some (.invokevirtual 175, 134, 1) from rfl) zy_134 (by decide) ⟨zq_lt (by decide), by decide⟩ rfl (by simp [Value.category]) (by simp [lg_sl, Value.category]) (zt_rcv zc_0) (zt_dm (by decide) (S_C_wouldLead hca23)) ?_
  obtain ⟨hg, h⟩ := zt_ckE h
  refine zt_if_eq zy_183 (show q_ins q_k183 127 = some (.ifCond .eq 7, 134, 0) from rfl) (hg) (fun hc => ?_) (fun hc => ?_)
  · rw [if_pos hc] at h
    refine zt_aload_n zy_183 (show q_ins q_k183 134 = some (.aload_n 0, 0, 0) from rfl) (v := 0) rfl ?_
    obtain ⟨a25, s26, hca25, h⟩ := zt_bdE h
    refine zt_callV (d := 5) zy_183 (show q_ins q_k183 135 = some (.invokevirtual 170, 133, 0) from rfl) zy_133 (by decide) ⟨zq_lt (by decide), by decide⟩ rfl (by simp [Value.category]) (by simp [lg_sl, Value.category]) (zt_rcv zc_0) (zt_dm (by decide) (S_C_winning hca25)) ?_
    exact zt_wk (zt_cov_cons rfl (zt_cov_cons rfl (zt_cov_cons rfl (zt_cov_cons rfl (zt_cov_cons rfl (zt_cov_cons rfl (zt_cov_cons rfl (zt_cov_cons rfl (zt_cov_cons rfl (zt_cov_cons rfl (zt_cov_nil))))))))))) (S_P_isPlayed_138  _ _ _ _ _ _ _ _ _ _ _ _ _ h)
  · rw [if_neg hc] at h
    refine zt_iload_n zy_183 (show q_ins q_k183 130 = some (.iload_n 2, 0, 0) from rfl) (v := Int32.ofInt v2) rfl ?_
    refine zt_goto zy_183 (show q_ins q_k183 131 = some (.goto 7, 138, 0) from rfl) ?_
    exact zt_wk (zt_cov_cons rfl (zt_cov_cons rfl (zt_cov_cons rfl (zt_cov_cons rfl (zt_cov_cons rfl (zt_cov_cons rfl (zt_cov_cons rfl (zt_cov_cons rfl (zt_cov_cons rfl (zt_cov_cons rfl (zt_cov_nil))))))))))) (S_P_isPlayed_138  _ _ _ _ _ _ _ _ _ _ _ _ _ h)
set_option maxRecDepth 100000 in
theorem S_P_isPlayed_90 {X : q_X}   : ∀ (v2 : Int) (v3 : Int) (v4 : Int) (v5 : Int) (v6 : Int) (v7 : Int) (x0 : Int) (σ : zt_S) (T : zt_T) (o : (Int × zt_S × zt_T)), F_P_isPlayed_90  v2 v3 v4 v5 v6 v7 x0 σ T = some o → zt_Ex X 6 183 90 [(0, .ref 0), (2, .int (Int32.ofInt v2)), (3, .int (Int32.ofInt v3)), (4, .int (Int32.ofInt v4)), (5, .int (Int32.ofInt v5)), (6, .int (Int32.ofInt v6)), (7, .int (Int32.ofInt v7))] [.int (Int32.ofInt x0)] (zt_M T σ) (zl_I o) := by
  intro v2 v3 v4 v5 v6 v7 x0 σ T o  h
  unfold F_P_isPlayed_90 at h
  refine zt_istore zy_183 (show q_ins q_k183 90 = some (.istore 8, 0, 0) from rfl) (by decide) ?_
  refine zt_aload_n zy_183 (show q_ins q_k183 92 = some (.aload_n 0, 0, 0) from rfl) (v := 0) rfl ?_
  refine zt_iload_n zy_183 (show q_ins q_k183 93 = some (.iload_n 3, 0, 0) from rfl) (v := Int32.ofInt v3) rfl ?_
  obtain ⟨a19, s20, hca19, h⟩ := zt_byE h
  refine zt_callV (d := 5) zy_183 (show q_ins q_k183 94 = some (.invokevirtual 182, 129, 1) from rfl) zy_129 (by decide) ⟨zq_lt (by decide), by decide⟩ rfl (by simp [Value.category]) (by simp [lg_sl, Value.category]) (zt_rcv zc_0) (zt_dm (by decide) (S_C_isLegal hca19)) ?_
  refine zt_istore zy_183 (show q_ins q_k183 97 = some (.istore 9, 0, 0) from rfl) (by decide) ?_
  refine zt_aload_n zy_183 (show q_ins q_k183 99 = some (.aload_n 0, 0, 0) from rfl) (v := 0) rfl ?_
  refine zt_bipush zy_183 (show q_ins q_k183 100 = some (.bipush 12, 0, 0) from rfl) (by decide) ?_
  obtain ⟨a21, s22, hca21, h⟩ := zt_byE h
  refine zt_callV (d := 5) zy_183 (show q_ins q_k183 102 = some (.invokevirtual 86, 122, 1) from rfl) zy_122 (by decide) ⟨zq_lt (by decide), by decide⟩ rfl (by simp [Value.category]) (by simp [lg_sl, Value.category]) (zt_rcv zc_0) (zt_dm (by decide) (S_C_size hca21)) ?_
  refine zt_iload zy_183 (show q_ins q_k183 105 = some (.iload 4, 0, 0) from rfl) (v := Int32.ofInt v4) rfl ?_
  obtain ⟨hg, h⟩ := zt_ckE h
  refine zt_irem zy_183 (show q_ins q_k183 107 = some (.irem, 0, 0) from rfl) hg.1 hg.2 ?_
  refine zt_iload zy_183 (show q_ins q_k183 108 = some (.iload 4, 0, 0) from rfl) (v := Int32.ofInt v4) rfl ?_
  refine zt_iconst zy_183 (show q_ins q_k183 110 = some (.iconst 1, 0, 0) from rfl) ?_
  refine zt_isub zy_183 (show q_ins q_k183 111 = some (.isub, 0, 0) from rfl) ?_
  obtain ⟨hg, h⟩ := zt_ckE h
  refine zt_icmp_ne zy_183 (show q_ins q_k183 112 = some (.if_icmp .ne 7, 119, 0) from rfl) (⟨hg.1, hg.2⟩) (fun hc => ?_) (fun hc => ?_)
  · rw [if_pos hc] at h
    refine zt_iconst zy_183 (show q_ins q_k183 115 = some (.iconst 1, 0, 0) from rfl) ?_
    refine zt_goto zy_183 (show q_ins q_k183 116 = some (.goto 4, 120, 0) from rfl) ?_
    exact zt_wk (zt_cov_cons rfl (zt_cov_cons rfl (zt_cov_cons rfl (zt_cov_cons rfl (zt_cov_cons rfl (zt_cov_cons rfl (zt_cov_cons rfl (zt_cov_cons rfl (zt_cov_cons rfl (zt_cov_nil)))))))))) (S_P_isPlayed_120  _ _ _ _ _ _ _ _ _ _ _ _ h)
  · rw [if_neg hc] at h
    refine zt_iconst zy_183 (show q_ins q_k183 119 = some (.iconst 0, 0, 0) from rfl) ?_
    exact zt_wk (zt_cov_cons rfl (zt_cov_cons rfl (zt_cov_cons rfl (zt_cov_cons rfl (zt_cov_cons rfl (zt_cov_cons rfl (zt_cov_cons rfl (zt_cov_cons rfl (zt_cov_cons rfl (zt_cov_nil)))))))))) (S_P_isPlayed_120  _ _ _ _ _ _ _ _ _ _ _ _ h)
set_option maxRecDepth 100000 in
theorem S_P_isPlayed {X : q_X}   {v1 : Int} {σ : zt_S} {T : zt_T} {o : (Int × zt_S × zt_T)} (h : F_P_isPlayed  v1 σ T = some o) : zt_Ex X 6 183 0 (lv_args 0 [.ref 0, .int (Int32.ofInt v1)]) [] (zt_M T σ) (zl_I o) := by
  unfold F_P_isPlayed at h
  refine zt_aload_n zy_183 (show q_ins q_k183 0 = some (.aload_n 0, 0, 0) from rfl) (v := 0) rfl ?_
  refine zt_bipush zy_183 (show q_ins q_k183 1 = some (.bipush 9, 0, 0) from rfl) (by decide) ?_
  obtain ⟨a1, s2, hca1, h⟩ := zt_byE h
  refine zt_callV (d := 5) zy_183 (show q_ins q_k183 3 = some (.invokevirtual 86, 122, 1) from rfl) zy_122 (by decide) ⟨zq_lt (by decide), by decide⟩ rfl (by simp [Value.category]) (by simp [lg_sl, Value.category]) (zt_rcv zc_0) (zt_dm (by decide) (S_C_size hca1)) ?_
  refine zt_istore_n zy_183 (show q_ins q_k183 6 = some (.istore_n 2, 0, 0) from rfl) (by decide) ?_
  refine zt_iload_n zy_183 (show q_ins q_k183 7 = some (.iload_n 2, 0, 0) from rfl) (v := Int32.ofInt a1) rfl ?_
  obtain ⟨hg, h⟩ := zt_ckE h
  refine zt_if_ge zy_183 (show q_ins q_k183 8 = some (.ifCond .ge 29, 37, 0) from rfl) (hg) (fun hc => ?_) (fun hc => ?_)
  · rw [if_pos hc] at h
    refine zt_aload_n zy_183 (show q_ins q_k183 11 = some (.aload_n 0, 0, 0) from rfl) (v := 0) rfl ?_
    refine zt_iconst zy_183 (show q_ins q_k183 12 = some (.iconst 0, 0, 0) from rfl) ?_
    obtain ⟨a3, s4, hca3, h⟩ := zt_byE h
    refine zt_callV (d := 5) zy_183 (show q_ins q_k183 13 = some (.invokevirtual 105, 152, 1) from rfl) zy_152 (by decide) ⟨zq_lt (by decide), by decide⟩ rfl (by simp [Value.category]) (by simp [lg_sl, Value.category]) (zt_rcv zc_0) (zt_dm (by decide) (S_C_play hca3)) ?_
    refine zt_bipush zy_183 (show q_ins q_k183 16 = some (.bipush (-2), 0, 0) from rfl) (by decide) ?_
    obtain ⟨hg, h⟩ := zt_ckE h
    refine zt_icmp_ne zy_183 (show q_ins q_k183 18 = some (.if_icmp .ne 17, 35, 0) from rfl) (⟨hg, by decide⟩) (fun hc => ?_) (fun hc => ?_)
    · rw [if_pos hc] at h
      refine zt_aload_n zy_183 (show q_ins q_k183 21 = some (.aload_n 0, 0, 0) from rfl) (v := 0) rfl ?_
      refine zt_iconst zy_183 (show q_ins q_k183 22 = some (.iconst 1, 0, 0) from rfl) ?_
      obtain ⟨a5, s6, hca5, h⟩ := zt_byE h
      refine zt_callV (d := 5) zy_183 (show q_ins q_k183 23 = some (.invokevirtual 108, 153, 1) from rfl) zy_153 (by decide) ⟨zq_lt (by decide), by decide⟩ rfl (by simp [Value.category]) (by simp [lg_sl, Value.category]) (zt_rcv zc_0) (zt_dm (by decide) (S_C_auto hca5)) ?_
      refine zt_bipush zy_183 (show q_ins q_k183 26 = some (.bipush (-2), 0, 0) from rfl) (by decide) ?_
      obtain ⟨hg, h⟩ := zt_ckE h
      refine zt_icmp_ne zy_183 (show q_ins q_k183 28 = some (.if_icmp .ne 7, 35, 0) from rfl) (⟨hg, by decide⟩) (fun hc => ?_) (fun hc => ?_)
      · rw [if_pos hc] at h
        refine zt_iconst zy_183 (show q_ins q_k183 31 = some (.iconst 1, 0, 0) from rfl) ?_
        refine zt_goto zy_183 (show q_ins q_k183 32 = some (.goto 4, 36, 0) from rfl) ?_
        exact zt_wk (zt_cov_nil) (S_P_isPlayed_36  _ _ _ _ h)
      · rw [if_neg hc] at h
        exact zt_wk (zt_cov_nil) (S_P_isPlayed_35  _ _ _ h)
    · rw [if_neg hc] at h
      exact zt_wk (zt_cov_nil) (S_P_isPlayed_35  _ _ _ h)
  · rw [if_neg hc] at h
    refine zt_iload_n zy_183 (show q_ins q_k183 37 = some (.iload_n 1, 0, 0) from rfl) (v := Int32.ofInt v1) rfl ?_
    refine zt_iconst zy_183 (show q_ins q_k183 38 = some (.iconst 4, 0, 0) from rfl) ?_
    refine zt_aload_n zy_183 (show q_ins q_k183 39 = some (.aload_n 0, 0, 0) from rfl) (v := 0) rfl ?_
    refine zt_iconst zy_183 (show q_ins q_k183 40 = some (.iconst 0, 0, 0) from rfl) ?_
    obtain ⟨a7, s8, hca7, h⟩ := zt_byE h
    refine zt_callV (d := 5) zy_183 (show q_ins q_k183 41 = some (.invokevirtual 86, 122, 1) from rfl) zy_122 (by decide) ⟨zq_lt (by decide), by decide⟩ rfl (by simp [Value.category]) (by simp [lg_sl, Value.category]) (zt_rcv zc_0) (zt_dm (by decide) (S_C_size hca7)) ?_
    refine zt_imul zy_183 (show q_ins q_k183 44 = some (.imul, 0, 0) from rfl) ?_
    obtain ⟨hg, h⟩ := zt_ckE h
    refine zt_irem zy_183 (show q_ins q_k183 45 = some (.irem, 0, 0) from rfl) hg.1 hg.2 ?_
    refine zt_istore_n zy_183 (show q_ins q_k183 46 = some (.istore_n 3, 0, 0) from rfl) (by decide) ?_
    refine zt_aload_n zy_183 (show q_ins q_k183 47 = some (.aload_n 0, 0, 0) from rfl) (v := 0) rfl ?_
    refine zt_iconst zy_183 (show q_ins q_k183 48 = some (.iconst 1, 0, 0) from rfl) ?_
    obtain ⟨a9, s10, hca9, h⟩ := zt_byE h
    refine zt_callV (d := 5) zy_183 (show q_ins q_k183 49 = some (.invokevirtual 86, 122, 1) from rfl) zy_122 (by decide) ⟨zq_lt (by decide), by decide⟩ rfl (by simp [Value.category]) (by simp [lg_sl, Value.category]) (zt_rcv zc_0) (zt_dm (by decide) (S_C_size hca9)) ?_
    refine zt_istore zy_183 (show q_ins q_k183 52 = some (.istore 4, 0, 0) from rfl) (by decide) ?_
    refine zt_aload_n zy_183 (show q_ins q_k183 54 = some (.aload_n 0, 0, 0) from rfl) (v := 0) rfl ?_
    refine zt_iconst zy_183 (show q_ins q_k183 55 = some (.iconst 4, 0, 0) from rfl) ?_
    obtain ⟨a11, s12, hca11, h⟩ := zt_byE h
    refine zt_callV (d := 5) zy_183 (show q_ins q_k183 56 = some (.invokevirtual 86, 122, 1) from rfl) zy_122 (by decide) ⟨zq_lt (by decide), by decide⟩ rfl (by simp [Value.category]) (by simp [lg_sl, Value.category]) (zt_rcv zc_0) (zt_dm (by decide) (S_C_size hca11)) ?_
    refine zt_istore zy_183 (show q_ins q_k183 59 = some (.istore 5, 0, 0) from rfl) (by decide) ?_
    refine zt_aload_n zy_183 (show q_ins q_k183 61 = some (.aload_n 0, 0, 0) from rfl) (v := 0) rfl ?_
    refine zt_iconst zy_183 (show q_ins q_k183 62 = some (.iconst 5, 0, 0) from rfl) ?_
    obtain ⟨a13, s14, hca13, h⟩ := zt_byE h
    refine zt_callV (d := 5) zy_183 (show q_ins q_k183 63 = some (.invokevirtual 86, 122, 1) from rfl) zy_122 (by decide) ⟨zq_lt (by decide), by decide⟩ rfl (by simp [Value.category]) (by simp [lg_sl, Value.category]) (zt_rcv zc_0) (zt_dm (by decide) (S_C_size hca13)) ?_
    refine zt_istore zy_183 (show q_ins q_k183 66 = some (.istore 6, 0, 0) from rfl) (by decide) ?_
    refine zt_aload_n zy_183 (show q_ins q_k183 68 = some (.aload_n 0, 0, 0) from rfl) (v := 0) rfl ?_
    refine zt_bipush zy_183 (show q_ins q_k183 69 = some (.bipush 11, 0, 0) from rfl) (by decide) ?_
    obtain ⟨a15, s16, hca15, h⟩ := zt_byE h
    refine zt_callV (d := 5) zy_183 (show q_ins q_k183 71 = some (.invokevirtual 86, 122, 1) from rfl) zy_122 (by decide) ⟨zq_lt (by decide), by decide⟩ rfl (by simp [Value.category]) (by simp [lg_sl, Value.category]) (zt_rcv zc_0) (zt_dm (by decide) (S_C_size hca15)) ?_
    refine zt_istore zy_183 (show q_ins q_k183 74 = some (.istore 7, 0, 0) from rfl) (by decide) ?_
    refine zt_aload_n zy_183 (show q_ins q_k183 76 = some (.aload_n 0, 0, 0) from rfl) (v := 0) rfl ?_
    refine zt_iload_n zy_183 (show q_ins q_k183 77 = some (.iload_n 3, 0, 0) from rfl) (v := Int32.ofInt (v1 % ((4 : Int) * a7))) rfl ?_
    obtain ⟨a17, s18, hca17, h⟩ := zt_byE h
    refine zt_callV (d := 5) zy_183 (show q_ins q_k183 78 = some (.invokevirtual 93, 125, 1) from rfl) zy_125 (by decide) ⟨zq_lt (by decide), by decide⟩ rfl (by simp [Value.category]) (by simp [lg_sl, Value.category]) (zt_rcv zc_0) (zt_dm (by decide) (S_C_holder hca17)) ?_
    refine zt_iload_n zy_183 (show q_ins q_k183 81 = some (.iload_n 2, 0, 0) from rfl) (v := Int32.ofInt a1) rfl ?_
    obtain ⟨hg, h⟩ := zt_ckE h
    refine zt_icmp_ne zy_183 (show q_ins q_k183 82 = some (.if_icmp .ne 7, 89, 0) from rfl) (⟨hg.1, hg.2⟩) (fun hc => ?_) (fun hc => ?_)
    · rw [if_pos hc] at h
      refine zt_iconst zy_183 (show q_ins q_k183 85 = some (.iconst 1, 0, 0) from rfl) ?_
      refine zt_goto zy_183 (show q_ins q_k183 86 = some (.goto 4, 90, 0) from rfl) ?_
      exact zt_wk (zt_cov_cons rfl (zt_cov_cons rfl (zt_cov_cons rfl (zt_cov_cons rfl (zt_cov_cons rfl (zt_cov_cons rfl (zt_cov_cons rfl (zt_cov_nil)))))))) (S_P_isPlayed_90  _ _ _ _ _ _ _ _ _ _ h)
    · rw [if_neg hc] at h
      refine zt_iconst zy_183 (show q_ins q_k183 89 = some (.iconst 0, 0, 0) from rfl) ?_
      exact zt_wk (zt_cov_cons rfl (zt_cov_cons rfl (zt_cov_cons rfl (zt_cov_cons rfl (zt_cov_cons rfl (zt_cov_cons rfl (zt_cov_cons rfl (zt_cov_nil)))))))) (S_P_isPlayed_90  _ _ _ _ _ _ _ _ _ _ h)
