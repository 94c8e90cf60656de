/-! the mini-machine does what the law's functions say (by program) -/
set_option maxRecDepth 100000 in
theorem S_P_holds_41 {X : q_X} (hX : X.1 ≤ 1000000)   : ∀  (σ : zt_S) (T : zt_T) (o : (Int × zt_S × zt_T)), F_P_holds_41 X   σ T = some o → zt_Ex X 7 178 41 [] [] (zt_M T σ) (zl_I o) := by
  intro  σ T o  h
  unfold F_P_holds_41 at h
  refine zt_iconst zy_178 (show q_ins q_k178 41 = some (.iconst 0, 0, 0) from rfl) ?_
  cases h
  exact zt_zret zy_178 (show q_ins q_k178 42 = some (.ireturn, 0, 0) from rfl) (by decide)
set_option maxRecDepth 100000 in
theorem S_P_holds_78 {X : q_X} (hX : X.1 ≤ 1000000)   : ∀ (x0 : Int) (σ : zt_S) (T : zt_T) (o : (Int × zt_S × zt_T)), F_P_holds_78 X  x0 σ T = some o → zt_Ex X 7 178 78 [] [.int (Int32.ofInt x0)] (zt_M T σ) (zl_I o) := by
  intro x0 σ T o  h
  unfold F_P_holds_78 at h
  obtain ⟨hg, h⟩ := zt_ckE h
  cases h
  exact zt_zret zy_178 (show q_ins q_k178 78 = some (.ireturn, 0, 0) from rfl) hg
set_option maxRecDepth 100000 in
theorem S_P_holds_77 {X : q_X} (hX : X.1 ≤ 1000000)   : ∀  (σ : zt_S) (T : zt_T) (o : (Int × zt_S × zt_T)), F_P_holds_77 X   σ T = some o → zt_Ex X 7 178 77 [] [] (zt_M T σ) (zl_I o) := by
  intro  σ T o  h
  unfold F_P_holds_77 at h
  refine zt_iconst zy_178 (show q_ins q_k178 77 = some (.iconst 0, 0, 0) from rfl) ?_
  exact zt_wk (zt_cov_nil) (S_P_holds_78 hX  _ _ _ _ h)
set_option maxRecDepth 100000 in
theorem S_P_holds_59 {X : q_X} (hX : X.1 ≤ 1000000)   : ∀  (σ : zt_S) (T : zt_T) (o : (Int × zt_S × zt_T)), F_P_holds_59 X   σ T = some o → zt_Ex X 7 178 59 [(0, .ref 0)] [] (zt_M T σ) (zl_I o) := by
  intro  σ T o  h
  unfold F_P_holds_59 at h
  refine zt_aload_n zy_178 (show q_ins q_k178 59 = some (.aload_n 0, 0, 0) from rfl) (v := 0) rfl ?_
  obtain ⟨a22, s23, t24, hca22, h⟩ := zt_btE h
  refine zt_callS (d := 6) zy_178 (show q_ins q_k178 60 = some (.invokestatic 136, 179, 1) from rfl) zy_179 (by decide) ⟨zq_lt (by decide), by decide⟩ rfl (by simp [Value.category]) (by simp [lg_sl, Value.category]) rfl (zt_dm (by decide) (S_P_isOnce hca22)) ?_
  obtain ⟨hg, h⟩ := zt_ckE h
  refine zt_if_eq zy_178 (show q_ins q_k178 63 = some (.ifCond .eq 14, 77, 0) from rfl) (hg) (fun hc => ?_) (fun hc => ?_)
  · rw [if_pos hc] at h
    exact zt_wk (zt_cov_nil) (S_P_holds_77 hX  _ _ _ h)
  · rw [if_neg hc] at h
    refine zt_aload_n zy_178 (show q_ins q_k178 66 = some (.aload_n 0, 0, 0) from rfl) (v := 0) rfl ?_
    obtain ⟨a25, s26, t27, hca25, h⟩ := zt_btE h
    refine zt_callS (d := 6) zy_178 (show q_ins q_k178 67 = some (.invokestatic 143, 182, 1) from rfl) zy_182 (by decide) ⟨zq_lt (by decide), by decide⟩ rfl (by simp [Value.category]) (by simp [lg_sl, Value.category]) rfl (zt_dm (by decide) (S_P_areTricks hca25)) ?_
    obtain ⟨hg, h⟩ := zt_ckE h
    refine zt_if_eq zy_178 (show q_ins q_k178 70 = some (.ifCond .eq 7, 77, 0) from rfl) (hg) (fun hc => ?_) (fun hc => ?_)
    · rw [if_pos hc] at h
      exact zt_wk (zt_cov_nil) (S_P_holds_77 hX  _ _ _ h)
    · rw [if_neg hc] at h
      refine zt_iconst zy_178 (show q_ins q_k178 73 = some (.iconst 1, 0, 0) from rfl) ?_
      refine zt_goto zy_178 (show q_ins q_k178 74 = some (.goto 4, 78, 0) from rfl) ?_
      exact zt_wk (zt_cov_nil) (S_P_holds_78 hX  _ _ _ _ h)
set_option maxRecDepth 100000 in
theorem S_P_holds_2 {X : q_X} (hX : X.1 ≤ 1000000)   : ∀ (n : Nat) (v2 : Int) (σ : zt_S) (T : zt_T) (o : (Int × zt_S × zt_T)), F_P_holds_2 X  n v2 σ T = some o → zt_Ex X 7 178 2 [(0, .ref 0), (1, .ref q_big), (2, .int (Int32.ofInt v2))] [] (zt_M T σ) (zl_I o) := by
  intro n
  induction n with
  | zero => intro v2 σ T o  h; cases h
  | succ n ih =>
  intro v2 σ T o  h
  rw [F_P_holds_2] at h
  refine zt_iload_n zy_178 (show q_ins q_k178 2 = some (.iload_n 2, 0, 0) from rfl) (v := Int32.ofInt v2) rfl ?_
  refine zt_bipush zy_178 (show q_ins q_k178 3 = some (.bipush 26, 0, 0) from rfl) (by decide) ?_
  obtain ⟨hg, h⟩ := zt_ckE h
  refine zt_icmp_ge zy_178 (show q_ins q_k178 5 = some (.if_icmp .ge 54, 59, 0) from rfl) (⟨hg, by decide⟩) (fun hc => ?_) (fun hc => ?_)
  · rw [if_pos hc] at h
    refine zt_aload_n zy_178 (show q_ins q_k178 8 = some (.aload_n 0, 0, 0) from rfl) (v := 0) rfl ?_
    obtain ⟨a1, s2, t3, hca1, h⟩ := zt_btE h
    refine zt_callS (d := 6) zy_178 (show q_ins q_k178 9 = some (.invokestatic 136, 179, 1) from rfl) zy_179 (by decide) ⟨zq_lt (by decide), by decide⟩ rfl (by simp [Value.category]) (by simp [lg_sl, Value.category]) rfl (zt_dm (by decide) (S_P_isOnce hca1)) ?_
    obtain ⟨hg, h⟩ := zt_ckE h
    refine zt_if_eq zy_178 (show q_ins q_k178 12 = some (.ifCond .eq 29, 41, 0) from rfl) (hg) (fun hc => ?_) (fun hc => ?_)
    · rw [if_pos hc] at h
      exact zt_wk (zt_cov_nil) (S_P_holds_41 hX  _ _ _ h)
    · rw [if_neg hc] at h
      refine zt_aload_n zy_178 (show q_ins q_k178 15 = some (.aload_n 0, 0, 0) from rfl) (v := 0) rfl ?_
      obtain ⟨a4, s5, t6, hca4, h⟩ := zt_btE h
      refine zt_callS (d := 6) zy_178 (show q_ins q_k178 16 = some (.invokestatic 140, 181, 1) from rfl) zy_181 (by decide) ⟨zq_lt (by decide), by decide⟩ rfl (by simp [Value.category]) (by simp [lg_sl, Value.category]) rfl (zt_dm (by decide) (S_P_areLegal hca4)) ?_
      obtain ⟨hg, h⟩ := zt_ckE h
      refine zt_if_eq zy_178 (show q_ins q_k178 19 = some (.ifCond .eq 22, 41, 0) from rfl) (hg) (fun hc => ?_) (fun hc => ?_)
      · rw [if_pos hc] at h
        exact zt_wk (zt_cov_nil) (S_P_holds_41 hX  _ _ _ h)
      · rw [if_neg hc] at h
        refine zt_aload_n zy_178 (show q_ins q_k178 22 = some (.aload_n 0, 0, 0) from rfl) (v := 0) rfl ?_
        obtain ⟨a7, s8, t9, hca7, h⟩ := zt_btE h
        refine zt_callS (d := 6) zy_178 (show q_ins q_k178 23 = some (.invokestatic 143, 182, 1) from rfl) zy_182 (by decide) ⟨zq_lt (by decide), by decide⟩ rfl (by simp [Value.category]) (by simp [lg_sl, Value.category]) rfl (zt_dm (by decide) (S_P_areTricks hca7)) ?_
        obtain ⟨hg, h⟩ := zt_ckE h
        refine zt_if_eq zy_178 (show q_ins q_k178 26 = some (.ifCond .eq 15, 41, 0) from rfl) (hg) (fun hc => ?_) (fun hc => ?_)
        · rw [if_pos hc] at h
          exact zt_wk (zt_cov_nil) (S_P_holds_41 hX  _ _ _ h)
        · rw [if_neg hc] at h
          refine zt_aload_n zy_178 (show q_ins q_k178 29 = some (.aload_n 0, 0, 0) from rfl) (v := 0) rfl ?_
          refine zt_aload_n zy_178 (show q_ins q_k178 30 = some (.aload_n 1, 0, 0) from rfl) (v := q_big) rfl ?_
          refine zt_iload_n zy_178 (show q_ins q_k178 31 = some (.iload_n 2, 0, 0) from rfl) (v := Int32.ofInt v2) rfl ?_
          obtain ⟨a10, s11, t12, hca10, h⟩ := zt_btE h
          refine zt_callS (d := 6) zy_178 (show q_ins q_k178 32 = some (.invokestatic 40, 173, 2) from rfl) zy_173 (by decide) ⟨zq_lt (by decide), by decide⟩ rfl (by simp [Value.category]) (by simp [lg_sl, Value.category]) rfl (zt_dm (by decide) (S_P_cell hX hca10)) ?_
          obtain ⟨a13, s14, t15, hca13, h⟩ := zt_btE h
          refine zt_callS (d := 6) zy_178 (show q_ins q_k178 35 = some (.invokestatic 146, 183, 2) from rfl) zy_183 (by decide) ⟨zq_lt (by decide), by decide⟩ rfl (by simp [Value.category]) (by simp [lg_sl, Value.category]) rfl (zt_dm (by decide) (S_P_isPlayed hca13)) ?_
          obtain ⟨hg, h⟩ := zt_ckE h
          refine zt_if_ne zy_178 (show q_ins q_k178 38 = some (.ifCond .ne 5, 43, 0) from rfl) (hg) (fun hc => ?_) (fun hc => ?_)
          · rw [if_pos hc] at h
            exact zt_wk (zt_cov_nil) (S_P_holds_41 hX  _ _ _ h)
          · rw [if_neg hc] at h
            refine zt_aload_n zy_178 (show q_ins q_k178 43 = some (.aload_n 0, 0, 0) from rfl) (v := 0) rfl ?_
            refine zt_aload_n zy_178 (show q_ins q_k178 44 = some (.aload_n 1, 0, 0) from rfl) (v := q_big) rfl ?_
            refine zt_iload_n zy_178 (show q_ins q_k178 45 = some (.iload_n 2, 0, 0) from rfl) (v := Int32.ofInt v2) rfl ?_
            obtain ⟨a16, s17, t18, hca16, h⟩ := zt_btE h
            refine zt_callS (d := 6) zy_178 (show q_ins q_k178 46 = some (.invokestatic 40, 173, 2) from rfl) zy_173 (by decide) ⟨zq_lt (by decide), by decide⟩ rfl (by simp [Value.category]) (by simp [lg_sl, Value.category]) rfl (zt_dm (by decide) (S_P_cell hX hca16)) ?_
            obtain ⟨a19, s20, t21, hca19, h⟩ := zt_btE h
            refine zt_callS (d := 6) zy_178 (show q_ins q_k178 49 = some (.invokestatic 150, 177, 2) from rfl) zy_177 (by decide) ⟨zq_lt (by decide), by decide⟩ rfl (by simp [Value.category]) (by simp [lg_sl, Value.category]) rfl (zt_dm (by decide) (S_P_acts hca19)) ?_
            refine zt_istore_n zy_178 (show q_ins q_k178 52 = some (.istore_n 3, 0, 0) from rfl) (by decide) ?_
            refine zt_iinc zy_178 (show q_ins q_k178 53 = some (.iinc 2 1, 0, 0) from rfl) (v := v2) (by decide) rfl ?_
            refine zt_goto zy_178 (show q_ins q_k178 56 = some (.goto (-54), 2, 0) from rfl) ?_
            exact zt_wk (zt_cov_cons rfl (zt_cov_cons rfl (zt_cov_cons rfl (zt_cov_nil)))) (ih _ _ _ _ h)
  · rw [if_neg hc] at h
    exact zt_wk (zt_cov_cons rfl (zt_cov_nil)) (S_P_holds_59 hX  _ _ _ h)
set_option maxRecDepth 100000 in
theorem S_P_holds {X : q_X} (hX : X.1 ≤ 1000000)    {σ : zt_S} {T : zt_T} {o : (Int × zt_S × zt_T)} (h : F_P_holds X   σ T = some o) : zt_Ex X 7 178 0 (lv_args 0 [.ref 0, .ref q_big]) [] (zt_M T σ) (zl_I o) := by
  unfold F_P_holds at h
  refine zt_iconst zy_178 (show q_ins q_k178 0 = some (.iconst 2, 0, 0) from rfl) ?_
  refine zt_istore_n zy_178 (show q_ins q_k178 1 = some (.istore_n 2, 0, 0) from rfl) (by decide) ?_
  exact zt_wk (zt_cov_cons rfl (zt_cov_cons rfl (zt_cov_cons rfl (zt_cov_nil)))) (S_P_holds_2 hX  _ _ _ _ _ h)
set_option maxRecDepth 100000 in
theorem S_P_law_38 {X : q_X} (hX : X.1 ≤ 1000000)   : ∀ (x0 : Int) (σ : zt_S) (T : zt_T) (o : (Int × zt_S × zt_T)), F_P_law_38 X  x0 σ T = some o → zt_Ex X 8 351 38 [] [.int (Int32.ofInt x0)] (zt_M T σ) (zl_I o) := by
  intro x0 σ T o  h
  unfold F_P_law_38 at h
  obtain ⟨hg, h⟩ := zt_ckE h
  cases h
  exact zt_zret zy_351 (show q_ins q_k351 38 = some (.ireturn, 0, 0) from rfl) hg
set_option maxRecDepth 100000 in
theorem S_P_law_37 {X : q_X} (hX : X.1 ≤ 1000000)   : ∀  (σ : zt_S) (T : zt_T) (o : (Int × zt_S × zt_T)), F_P_law_37 X   σ T = some o → zt_Ex X 8 351 37 [] [] (zt_M T σ) (zl_I o) := by
  intro  σ T o  h
  unfold F_P_law_37 at h
  refine zt_iconst zy_351 (show q_ins q_k351 37 = some (.iconst 0, 0, 0) from rfl) ?_
  exact zt_wk (zt_cov_nil) (S_P_law_38 hX  _ _ _ _ h)
set_option maxRecDepth 100000 in
theorem S_P_law_16 {X : q_X} (hX : X.1 ≤ 1000000)   : ∀  (σ : zt_S) (T : zt_T) (o : (Int × zt_S × zt_T)), F_P_law_16 X   σ T = some o → zt_Ex X 8 351 16 [(0, .ref q_big), (1, .ref 163), (2, .ref 0)] [] (zt_M T σ) (zl_I o) := by
  intro  σ T o  h
  unfold F_P_law_16 at h
  refine zt_aload_n zy_351 (show q_ins q_k351 16 = some (.aload_n 1, 0, 0) from rfl) (v := 163) rfl ?_
  refine zt_aload_n zy_351 (show q_ins q_k351 17 = some (.aload_n 2, 0, 0) from rfl) (v := 0) rfl ?_
  refine zt_aload_n zy_351 (show q_ins q_k351 18 = some (.aload_n 0, 0, 0) from rfl) (v := q_big) rfl ?_
  obtain ⟨hT, h⟩ := zt_ckE h
  obtain ⟨a1, s2, t3, hca1, h⟩ := zt_btE h
  refine zt_callV (d := 7) zy_351 (show q_ins q_k351 19 = some (.invokevirtual 129, 175, 2) from rfl) zy_175 (by decide) ⟨zq_lt (by decide), by decide⟩ rfl (by simp [Value.category]) (by simp [lg_sl, Value.category]) (zt_rcvT hT) (zt_dm (by decide) (S_P_loads hX hca1)) ?_
  obtain ⟨hg, h⟩ := zt_ckE h
  refine zt_if_eq zy_351 (show q_ins q_k351 22 = some (.ifCond .eq 15, 37, 0) from rfl) (hg) (fun hc => ?_) (fun hc => ?_)
  · rw [if_pos hc] at h
    exact zt_wk (zt_cov_nil) (S_P_law_37 hX  _ _ _ h)
  · rw [if_neg hc] at h
    refine zt_aload_n zy_351 (show q_ins q_k351 25 = some (.aload_n 2, 0, 0) from rfl) (v := 0) rfl ?_
    refine zt_aload_n zy_351 (show q_ins q_k351 26 = some (.aload_n 0, 0, 0) from rfl) (v := q_big) rfl ?_
    obtain ⟨a4, s5, t6, hca4, h⟩ := zt_btE h
    refine zt_callS (d := 7) zy_351 (show q_ins q_k351 27 = some (.invokestatic 133, 178, 2) from rfl) zy_178 (by decide) ⟨zq_lt (by decide), by decide⟩ rfl (by simp [Value.category]) (by simp [lg_sl, Value.category]) rfl (zt_dm (by decide) (S_P_holds hX hca4)) ?_
    obtain ⟨hg, h⟩ := zt_ckE h
    refine zt_if_eq zy_351 (show q_ins q_k351 30 = some (.ifCond .eq 7, 37, 0) from rfl) (hg) (fun hc => ?_) (fun hc => ?_)
    · rw [if_pos hc] at h
      exact zt_wk (zt_cov_nil) (S_P_law_37 hX  _ _ _ h)
    · rw [if_neg hc] at h
      refine zt_iconst zy_351 (show q_ins q_k351 33 = some (.iconst 1, 0, 0) from rfl) ?_
      refine zt_goto zy_351 (show q_ins q_k351 34 = some (.goto 4, 38, 0) from rfl) ?_
      exact zt_wk (zt_cov_nil) (S_P_law_38 hX  _ _ _ _ h)
