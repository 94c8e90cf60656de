/-! the mini-machine does what the functions say (by program) -/
theorem S_M_starts {X : q_X}   {v1 : Int} {σ : zt_S} {o : (Unit × zt_S)} (h : F_M_starts  v1 σ = some o) : zt_Ex X 3 191 0 (lv_args 0 [.ref 163, .int (Int32.ofInt v1)]) [] (zt_M σ) (zo_V o) := by
  unfold F_M_starts at h
  refine zt_aload_n zy_191 (show q_ins q_k191 0 = some (.aload_n 0, 0, 0) from rfl) (v := 163) rfl ?_
  refine zt_iload_n zy_191 (show q_ins q_k191 1 = some (.iload_n 1, 0, 0) from rfl) (v := Int32.ofInt v1) rfl ?_
  obtain ⟨s1, hs1, h⟩ := zt_letE h
  refine zt_putI zy_191 (show q_ins q_k191 2 = some (.putfield 109, 11, 10) from rfl) (j := 10) zk_163_10 rfl rfl rfl ?_
  rw [← hs1]
  refine zt_aload_n zy_191 (show q_ins q_k191 5 = some (.aload_n 0, 0, 0) from rfl) (v := 163) rfl ?_
  refine zt_iconst zy_191 (show q_ins q_k191 6 = some (.iconst 0, 0, 0) from rfl) ?_
  obtain ⟨s2, hs2, h⟩ := zt_letE h
  refine zt_putI zy_191 (show q_ins q_k191 7 = some (.putfield 102, 11, 9) from rfl) (j := 9) zk_163_9 rfl rfl rfl ?_
  rw [← hs2]
  refine zt_aload_n zy_191 (show q_ins q_k191 10 = some (.aload_n 0, 0, 0) from rfl) (v := 163) rfl ?_
  refine zt_iconst zy_191 (show q_ins q_k191 11 = some (.iconst 0, 0, 0) from rfl) ?_
  obtain ⟨s3, hs3, h⟩ := zt_letE h
  refine zt_putI zy_191 (show q_ins q_k191 12 = some (.putfield 116, 11, 11) from rfl) (j := 11) zk_163_11 rfl rfl rfl ?_
  rw [← hs3]
  refine zt_aload_n zy_191 (show q_ins q_k191 15 = some (.aload_n 0, 0, 0) from rfl) (v := 163) rfl ?_
  refine zt_iconst zy_191 (show q_ins q_k191 16 = some (.iconst 0, 0, 0) from rfl) ?_
  obtain ⟨s4, hs4, h⟩ := zt_letE h
  refine zt_putI zy_191 (show q_ins q_k191 17 = some (.putfield 150, 11, 16) from rfl) (j := 16) zk_163_16 rfl rfl rfl ?_
  rw [← hs4]
  refine zt_aload_n zy_191 (show q_ins q_k191 20 = some (.aload_n 0, 0, 0) from rfl) (v := 163) rfl ?_
  refine zt_iconst zy_191 (show q_ins q_k191 21 = some (.iconst (-1), 0, 0) from rfl) ?_
  obtain ⟨s5, hs5, h⟩ := zt_letE h
  refine zt_putI zy_191 (show q_ins q_k191 22 = some (.putfield 32, 11, 17) from rfl) (j := 17) zk_163_17 rfl rfl rfl ?_
  rw [← hs5]
  refine zt_aload_n zy_191 (show q_ins q_k191 25 = some (.aload_n 0, 0, 0) from rfl) (v := 163) rfl ?_
  obtain ⟨a6, s7, hca6, h⟩ := zt_bdE h
  refine zt_callV (d := 2) zy_191 (show q_ins q_k191 26 = some (.invokevirtual 153, 190, 0) from rfl) zy_190 (by decide) ⟨zq_lt (by decide), by decide⟩ rfl (by simp [Value.category]) (by simp [lg_sl, Value.category]) (zt_rcv zc_163) (zt_dm (by decide) (S_M_next hca6)) ?_
  cases h
  exact zt_ret zy_191 (show q_ins q_k191 29 = some (.return_, 0, 0) from rfl)
theorem S_M_wrongs_20 {X : q_X}   : ∀  (σ : zt_S) (o : (Int × zt_S)), F_M_wrongs_20   σ = some o → zt_Ex X 0 192 20 [] [] (zt_M σ) (zo_I o) := by
  intro  σ o  h
  unfold F_M_wrongs_20 at h
  refine zt_iconst zy_192 (show q_ins q_k192 20 = some (.iconst 0, 0, 0) from rfl) ?_
  cases h
  exact zt_zret zy_192 (show q_ins q_k192 21 = some (.ireturn, 0, 0) from rfl) (by decide)
theorem S_M_wrongs {X : q_X}   {v1 : Int} {σ : zt_S} {o : (Int × zt_S)} (h : F_M_wrongs  v1 σ = some o) : zt_Ex X 0 192 0 (lv_args 0 [.ref 163, .int (Int32.ofInt v1)]) [] (zt_M σ) (zo_I o) := by
  unfold F_M_wrongs at h
  refine zt_aload_n zy_192 (show q_ins q_k192 0 = some (.aload_n 0, 0, 0) from rfl) (v := 163) rfl ?_
  refine zt_getI zy_192 (show q_ins q_k192 1 = some (.getfield 150, 11, 16) from rfl) (j := 16) zk_163_16 rfl ?_
  obtain ⟨hg, h⟩ := zt_ckE h
  refine zt_if_ne zy_192 (show q_ins q_k192 4 = some (.ifCond .ne 16, 20, 0) from rfl) (hg) (fun hc => ?_) (fun hc => ?_)
  · rw [if_pos hc] at h
    refine zt_aload_n zy_192 (show q_ins q_k192 7 = some (.aload_n 0, 0, 0) from rfl) (v := 163) rfl ?_
    refine zt_iload_n zy_192 (show q_ins q_k192 8 = some (.iload_n 1, 0, 0) from rfl) (v := Int32.ofInt v1) rfl ?_
    obtain ⟨s1, hs1, h⟩ := zt_letE h
    refine zt_putI zy_192 (show q_ins q_k192 9 = some (.putfield 150, 11, 16) from rfl) (j := 16) zk_163_16 rfl rfl rfl ?_
    rw [← hs1]
    refine zt_aload_n zy_192 (show q_ins q_k192 12 = some (.aload_n 0, 0, 0) from rfl) (v := 163) rfl ?_
    refine zt_aload_n zy_192 (show q_ins q_k192 13 = some (.aload_n 0, 0, 0) from rfl) (v := 163) rfl ?_
    refine zt_getI zy_192 (show q_ins q_k192 14 = some (.getfield 127, 11, 12) from rfl) (j := 12) zk_163_12 rfl ?_
    obtain ⟨s2, hs2, h⟩ := zt_letE h
    refine zt_putI zy_192 (show q_ins q_k192 17 = some (.putfield 32, 11, 17) from rfl) (j := 17) zk_163_17 rfl rfl rfl ?_
    rw [← hs2]
    exact zt_wk (zt_cov_nil) (S_M_wrongs_20  _ _ h)
  · rw [if_neg hc] at h
    exact zt_wk (zt_cov_nil) (S_M_wrongs_20  _ _ h)
theorem S_M_isGood_12 {X : q_X}   : ∀ (x0 : Int) (σ : zt_S) (o : (Int × zt_S)), F_M_isGood_12  x0 σ = some o → zt_Ex X 0 193 12 [] [.int (Int32.ofInt x0)] (zt_M σ) (zo_I o) := by
  intro x0 σ o  h
  unfold F_M_isGood_12 at h
  obtain ⟨hg, h⟩ := zt_ckE h
  cases h
  exact zt_zret zy_193 (show q_ins q_k193 12 = some (.ireturn, 0, 0) from rfl) hg
theorem S_M_isGood {X : q_X}    {σ : zt_S} {o : (Int × zt_S)} (h : F_M_isGood   σ = some o) : zt_Ex X 0 193 0 (lv_args 0 [.ref 163]) [] (zt_M σ) (zo_I o) := by
  unfold F_M_isGood at h
  refine zt_aload_n zy_193 (show q_ins q_k193 0 = some (.aload_n 0, 0, 0) from rfl) (v := 163) rfl ?_
  refine zt_getI zy_193 (show q_ins q_k193 1 = some (.getfield 150, 11, 16) from rfl) (j := 16) zk_163_16 rfl ?_
  obtain ⟨hg, h⟩ := zt_ckE h
  refine zt_if_ne zy_193 (show q_ins q_k193 4 = some (.ifCond .ne 7, 11, 0) from rfl) (hg) (fun hc => ?_) (fun hc => ?_)
  · rw [if_pos hc] at h
    refine zt_iconst zy_193 (show q_ins q_k193 7 = some (.iconst 1, 0, 0) from rfl) ?_
    refine zt_goto zy_193 (show q_ins q_k193 8 = some (.goto 4, 12, 0) from rfl) ?_
    exact zt_wk (zt_cov_nil) (S_M_isGood_12  _ _ _ h)
  · rw [if_neg hc] at h
    refine zt_iconst zy_193 (show q_ins q_k193 11 = some (.iconst 0, 0, 0) from rfl) ?_
    exact zt_wk (zt_cov_nil) (S_M_isGood_12  _ _ _ h)
theorem S_M_isWord_43 {X : q_X}   : ∀ (x0 : Int) (σ : zt_S) (o : (Int × zt_S)), F_M_isWord_43  x0 σ = some o → zt_Ex X 1 194 43 [] [.int (Int32.ofInt x0)] (zt_M σ) (zo_I o) := by
  intro x0 σ o  h
  unfold F_M_isWord_43 at h
  obtain ⟨hg, h⟩ := zt_ckE h
  cases h
  exact zt_zret zy_194 (show q_ins q_k194 43 = some (.ireturn, 0, 0) from rfl) hg
theorem S_M_isWord_42 {X : q_X}   : ∀  (σ : zt_S) (o : (Int × zt_S)), F_M_isWord_42   σ = some o → zt_Ex X 1 194 42 [] [] (zt_M σ) (zo_I o) := by
  intro  σ o  h
  unfold F_M_isWord_42 at h
  refine zt_iconst zy_194 (show q_ins q_k194 42 = some (.iconst 0, 0, 0) from rfl) ?_
  exact zt_wk (zt_cov_nil) (S_M_isWord_43  _ _ _ h)
theorem S_M_isWord {X : q_X}   {v1 : Int64} {σ : zt_S} {o : (Int × zt_S)} (h : F_M_isWord  v1 σ = some o) : zt_Ex X 1 194 0 (lv_args 0 [.ref 163, .long v1]) [] (zt_M σ) (zo_I o) := by
  unfold F_M_isWord at h
  refine zt_aload_n zy_194 (show q_ins q_k194 0 = some (.aload_n 0, 0, 0) from rfl) (v := 163) rfl ?_
  obtain ⟨a1, s2, hca1, h⟩ := zt_bdE h
  refine zt_callV (d := 0) zy_194 (show q_ins q_k194 1 = some (.invokevirtual 156, 193, 0) from rfl) zy_193 (by decide) ⟨zq_lt (by decide), by decide⟩ rfl (by simp [Value.category]) (by simp [lg_sl, Value.category]) (zt_rcv zc_163) (zt_dm (by decide) (S_M_isGood hca1)) ?_
  obtain ⟨hg, h⟩ := zt_ckE h
  refine zt_if_eq zy_194 (show q_ins q_k194 4 = some (.ifCond .eq 38, 42, 0) from rfl) (hg) (fun hc => ?_) (fun hc => ?_)
  · rw [if_pos hc] at h
    exact zt_wk (zt_cov_nil) (S_M_isWord_42  _ _ h)
  · rw [if_neg hc] at h
    refine zt_aload_n zy_194 (show q_ins q_k194 7 = some (.aload_n 0, 0, 0) from rfl) (v := 163) rfl ?_
    refine zt_getI zy_194 (show q_ins q_k194 8 = some (.getfield 134, 11, 13) from rfl) (j := 13) zk_163_13 rfl ?_
    refine zt_iconst zy_194 (show q_ins q_k194 11 = some (.iconst 1, 0, 0) from rfl) ?_
    obtain ⟨hg, h⟩ := zt_ckE h
    refine zt_icmp_ne zy_194 (show q_ins q_k194 12 = some (.if_icmp .ne 30, 42, 0) from rfl) (⟨hg, by decide⟩) (fun hc => ?_) (fun hc => ?_)
    · rw [if_pos hc] at h
      refine zt_aload_n zy_194 (show q_ins q_k194 15 = some (.aload_n 0, 0, 0) from rfl) (v := 163) rfl ?_
      refine zt_getI zy_194 (show q_ins q_k194 16 = some (.getfield 116, 11, 11) from rfl) (j := 11) zk_163_11 rfl ?_
      refine zt_aload_n zy_194 (show q_ins q_k194 19 = some (.aload_n 0, 0, 0) from rfl) (v := 163) rfl ?_
      refine zt_getI zy_194 (show q_ins q_k194 20 = some (.getfield 127, 11, 12) from rfl) (j := 12) zk_163_12 rfl ?_
      refine zt_isub zy_194 (show q_ins q_k194 23 = some (.isub, 0, 0) from rfl) ?_
      refine zt_bipush zy_194 (show q_ins q_k194 24 = some (.bipush 10, 0, 0) from rfl) (by decide) ?_
      obtain ⟨hg, h⟩ := zt_ckE h
      refine zt_icmp_gt zy_194 (show q_ins q_k194 26 = some (.if_icmp .gt 16, 42, 0) from rfl) (⟨hg, by decide⟩) (fun hc => ?_) (fun hc => ?_)
      · rw [if_pos hc] at h
        exact zt_wk (zt_cov_nil) (S_M_isWord_42  _ _ h)
      · rw [if_neg hc] at h
        refine zt_aload_n zy_194 (show q_ins q_k194 29 = some (.aload_n 0, 0, 0) from rfl) (v := 163) rfl ?_
        refine zt_getL zy_194 (show q_ins q_k194 30 = some (.getfield 112, 11, 15) from rfl) (j := 15) zk_163_15 rfl ?_
        refine zt_lload_n zy_194 (show q_ins q_k194 33 = some (.lload_n 1, 0, 0) from rfl) (v := v1) rfl ?_
        refine zt_lcmp zy_194 (show q_ins q_k194 34 = some (.lcmp, 0, 0) from rfl) ?_
        refine zt_if_ne zy_194 (show q_ins q_k194 35 = some (.ifCond .ne 7, 42, 0) from rfl) (zt_inT _) (fun hc => ?_) (fun hc => ?_)
        · rw [if_pos hc] at h
          refine zt_iconst zy_194 (show q_ins q_k194 38 = some (.iconst 1, 0, 0) from rfl) ?_
          refine zt_goto zy_194 (show q_ins q_k194 39 = some (.goto 4, 43, 0) from rfl) ?_
          exact zt_wk (zt_cov_nil) (S_M_isWord_43  _ _ _ h)
        · rw [if_neg hc] at h
          exact zt_wk (zt_cov_nil) (S_M_isWord_42  _ _ h)
    · rw [if_neg hc] at h
      exact zt_wk (zt_cov_nil) (S_M_isWord_42  _ _ h)
theorem S_M_passes {X : q_X}   {v1 : Int64} {σ : zt_S} {o : (Int × zt_S)} (h : F_M_passes  v1 σ = some o) : zt_Ex X 3 195 0 (lv_args 0 [.ref 163, .long v1]) [] (zt_M σ) (zo_I o) := by
  unfold F_M_passes at h
  refine zt_aload_n zy_195 (show q_ins q_k195 0 = some (.aload_n 0, 0, 0) from rfl) (v := 163) rfl ?_
  refine zt_lload_n zy_195 (show q_ins q_k195 1 = some (.lload_n 1, 0, 0) from rfl) (v := v1) rfl ?_
  obtain ⟨a1, s2, hca1, h⟩ := zt_bdE h
  refine zt_callV (d := 2) zy_195 (show q_ins q_k195 2 = some (.invokevirtual 160, 194, 1) from rfl) zy_194 (by decide) ⟨zq_lt (by decide), by decide⟩ rfl (by simp [Value.category]) (by simp [lg_sl, Value.category]) (zt_rcv zc_163) (zt_dm (by decide) (S_M_isWord hca1)) ?_
  obtain ⟨hg, h⟩ := zt_ckE h
  refine zt_if_ne zy_195 (show q_ins q_k195 5 = some (.ifCond .ne 5, 10, 0) from rfl) (hg) (fun hc => ?_) (fun hc => ?_)
  · rw [if_pos hc] at h
    refine zt_iconst zy_195 (show q_ins q_k195 8 = some (.iconst 0, 0, 0) from rfl) ?_
    cases h
    exact zt_zret zy_195 (show q_ins q_k195 9 = some (.ireturn, 0, 0) from rfl) (by decide)
  · rw [if_neg hc] at h
    refine zt_aload_n zy_195 (show q_ins q_k195 10 = some (.aload_n 0, 0, 0) from rfl) (v := 163) rfl ?_
    obtain ⟨a3, s4, hca3, h⟩ := zt_bdE h
    refine zt_callV (d := 2) zy_195 (show q_ins q_k195 11 = some (.invokevirtual 153, 190, 0) from rfl) zy_190 (by decide) ⟨zq_lt (by decide), by decide⟩ rfl (by simp [Value.category]) (by simp [lg_sl, Value.category]) (zt_rcv zc_163) (zt_dm (by decide) (S_M_next hca3)) ?_
    refine zt_iconst zy_195 (show q_ins q_k195 14 = some (.iconst 1, 0, 0) from rfl) ?_
    cases h
    exact zt_zret zy_195 (show q_ins q_k195 15 = some (.ireturn, 0, 0) from rfl) (by decide)
theorem S_M_isByte_33 {X : q_X}   : ∀ (x0 : Int) (σ : zt_S) (o : (Int × zt_S)), F_M_isByte_33  x0 σ = some o → zt_Ex X 1 196 33 [] [.int (Int32.ofInt x0)] (zt_M σ) (zo_I o) := by
  intro x0 σ o  h
  unfold F_M_isByte_33 at h
  obtain ⟨hg, h⟩ := zt_ckE h
  cases h
  exact zt_zret zy_196 (show q_ins q_k196 33 = some (.ireturn, 0, 0) from rfl) hg
theorem S_M_isByte_32 {X : q_X}   : ∀  (σ : zt_S) (o : (Int × zt_S)), F_M_isByte_32   σ = some o → zt_Ex X 1 196 32 [] [] (zt_M σ) (zo_I o) := by
  intro  σ o  h
  unfold F_M_isByte_32 at h
  refine zt_iconst zy_196 (show q_ins q_k196 32 = some (.iconst 0, 0, 0) from rfl) ?_
  exact zt_wk (zt_cov_nil) (S_M_isByte_33  _ _ _ h)
theorem S_M_isByte {X : q_X}   {v1 : Int} {σ : zt_S} {o : (Int × zt_S)} (h : F_M_isByte  v1 σ = some o) : zt_Ex X 1 196 0 (lv_args 0 [.ref 163, .int (Int32.ofInt v1)]) [] (zt_M σ) (zo_I o) := by
  unfold F_M_isByte at h
  refine zt_aload_n zy_196 (show q_ins q_k196 0 = some (.aload_n 0, 0, 0) from rfl) (v := 163) rfl ?_
  obtain ⟨a1, s2, hca1, h⟩ := zt_bdE h
  refine zt_callV (d := 0) zy_196 (show q_ins q_k196 1 = some (.invokevirtual 156, 193, 0) from rfl) zy_193 (by decide) ⟨zq_lt (by decide), by decide⟩ rfl (by simp [Value.category]) (by simp [lg_sl, Value.category]) (zt_rcv zc_163) (zt_dm (by decide) (S_M_isGood hca1)) ?_
  obtain ⟨hg, h⟩ := zt_ckE h
  refine zt_if_eq zy_196 (show q_ins q_k196 4 = some (.ifCond .eq 28, 32, 0) from rfl) (hg) (fun hc => ?_) (fun hc => ?_)
  · rw [if_pos hc] at h
    exact zt_wk (zt_cov_nil) (S_M_isByte_32  _ _ h)
  · rw [if_neg hc] at h
    refine zt_aload_n zy_196 (show q_ins q_k196 7 = some (.aload_n 0, 0, 0) from rfl) (v := 163) rfl ?_
    refine zt_getI zy_196 (show q_ins q_k196 8 = some (.getfield 134, 11, 13) from rfl) (j := 13) zk_163_13 rfl ?_
    refine zt_iconst zy_196 (show q_ins q_k196 11 = some (.iconst 3, 0, 0) from rfl) ?_
    obtain ⟨hg, h⟩ := zt_ckE h
    refine zt_icmp_ne zy_196 (show q_ins q_k196 12 = some (.if_icmp .ne 20, 32, 0) from rfl) (⟨hg, by decide⟩) (fun hc => ?_) (fun hc => ?_)
    · rw [if_pos hc] at h
      refine zt_aload_n zy_196 (show q_ins q_k196 15 = some (.aload_n 0, 0, 0) from rfl) (v := 163) rfl ?_
      refine zt_getR zy_196 (show q_ins q_k196 16 = some (.getfield 29, 11, 8) from rfl) (r := 169) zk_163_8 ?_
      refine zt_aload_n zy_196 (show q_ins q_k196 19 = some (.aload_n 0, 0, 0) from rfl) (v := 163) rfl ?_
      refine zt_getI zy_196 (show q_ins q_k196 20 = some (.getfield 127, 11, 12) from rfl) (j := 12) zk_163_12 rfl ?_
      obtain ⟨hg, h⟩ := zt_ckE h
      refine zt_ald zy_196 (show q_ins q_k196 23 = some (.iaload, 0, 0) from rfl) za_169 (by decide) hg ?_
      refine zt_iload_n zy_196 (show q_ins q_k196 24 = some (.iload_n 1, 0, 0) from rfl) (v := Int32.ofInt v1) rfl ?_
      obtain ⟨hg, h⟩ := zt_ckE h
      refine zt_icmp_ne zy_196 (show q_ins q_k196 25 = some (.if_icmp .ne 7, 32, 0) from rfl) (⟨hg.1, hg.2⟩) (fun hc => ?_) (fun hc => ?_)
      · rw [if_pos hc] at h
        refine zt_iconst zy_196 (show q_ins q_k196 28 = some (.iconst 1, 0, 0) from rfl) ?_
        refine zt_goto zy_196 (show q_ins q_k196 29 = some (.goto 4, 33, 0) from rfl) ?_
        exact zt_wk (zt_cov_nil) (S_M_isByte_33  _ _ _ h)
      · rw [if_neg hc] at h
        exact zt_wk (zt_cov_nil) (S_M_isByte_32  _ _ h)
    · rw [if_neg hc] at h
      exact zt_wk (zt_cov_nil) (S_M_isByte_32  _ _ h)
theorem S_M_must_29 {X : q_X}   : ∀  (σ : zt_S) (o : (Unit × zt_S)), F_M_must_29   σ = some o → zt_Ex X 3 197 29 [] [] (zt_M σ) (zo_V o) := by
  intro  σ o  h
  unfold F_M_must_29 at h
  cases h
  exact zt_ret zy_197 (show q_ins q_k197 29 = some (.return_, 0, 0) from rfl)
theorem S_M_must {X : q_X}   {v1 : Int} {σ : zt_S} {o : (Unit × zt_S)} (h : F_M_must  v1 σ = some o) : zt_Ex X 3 197 0 (lv_args 0 [.ref 163, .int (Int32.ofInt v1)]) [] (zt_M σ) (zo_V o) := by
  unfold F_M_must at h
  refine zt_aload_n zy_197 (show q_ins q_k197 0 = some (.aload_n 0, 0, 0) from rfl) (v := 163) rfl ?_
  obtain ⟨a1, s2, hca1, h⟩ := zt_bdE h
  refine zt_callV (d := 2) zy_197 (show q_ins q_k197 1 = some (.invokevirtual 156, 193, 0) from rfl) zy_193 (by decide) ⟨zq_lt (by decide), by decide⟩ rfl (by simp [Value.category]) (by simp [lg_sl, Value.category]) (zt_rcv zc_163) (zt_dm (by decide) (S_M_isGood hca1)) ?_
  obtain ⟨hg, h⟩ := zt_ckE h
  refine zt_if_ne zy_197 (show q_ins q_k197 4 = some (.ifCond .ne 4, 8, 0) from rfl) (hg) (fun hc => ?_) (fun hc => ?_)
  · rw [if_pos hc] at h
    cases h
    exact zt_ret zy_197 (show q_ins q_k197 7 = some (.return_, 0, 0) from rfl)
  · rw [if_neg hc] at h
    refine zt_aload_n zy_197 (show q_ins q_k197 8 = some (.aload_n 0, 0, 0) from rfl) (v := 163) rfl ?_
    refine zt_iload_n zy_197 (show q_ins q_k197 9 = some (.iload_n 1, 0, 0) from rfl) (v := Int32.ofInt v1) rfl ?_
    obtain ⟨a3, s4, hca3, h⟩ := zt_bdE h
    refine zt_callV (d := 2) zy_197 (show q_ins q_k197 10 = some (.invokevirtual 164, 196, 1) from rfl) zy_196 (by decide) ⟨zq_lt (by decide), by decide⟩ rfl (by simp [Value.category]) (by simp [lg_sl, Value.category]) (zt_rcv zc_163) (zt_dm (by decide) (S_M_isByte hca3)) ?_
    obtain ⟨hg, h⟩ := zt_ckE h
    refine zt_if_eq zy_197 (show q_ins q_k197 13 = some (.ifCond .eq 10, 23, 0) from rfl) (hg) (fun hc => ?_) (fun hc => ?_)
    · rw [if_pos hc] at h
      refine zt_aload_n zy_197 (show q_ins q_k197 23 = some (.aload_n 0, 0, 0) from rfl) (v := 163) rfl ?_
      refine zt_iconst zy_197 (show q_ins q_k197 24 = some (.iconst 1, 0, 0) from rfl) ?_
      obtain ⟨a5, s6, hca5, h⟩ := zt_bdE h
      refine zt_callV (d := 2) zy_197 (show q_ins q_k197 25 = some (.invokevirtual 167, 192, 1) from rfl) zy_192 (by decide) ⟨zq_lt (by decide), by decide⟩ rfl (by simp [Value.category]) (by simp [lg_sl, Value.category]) (zt_rcv zc_163) (zt_dm (by decide) (S_M_wrongs hca5)) ?_
      refine zt_pop zy_197 (show q_ins q_k197 28 = some (.pop, 0, 0) from rfl) rfl ?_
      exact zt_wk (zt_cov_nil) (S_M_must_29  _ _ h)
    · rw [if_neg hc] at h
      refine zt_aload_n zy_197 (show q_ins q_k197 16 = some (.aload_n 0, 0, 0) from rfl) (v := 163) rfl ?_
      obtain ⟨a7, s8, hca7, h⟩ := zt_bdE h
      refine zt_callV (d := 2) zy_197 (show q_ins q_k197 17 = some (.invokevirtual 153, 190, 0) from rfl) zy_190 (by decide) ⟨zq_lt (by decide), by decide⟩ rfl (by simp [Value.category]) (by simp [lg_sl, Value.category]) (zt_rcv zc_163) (zt_dm (by decide) (S_M_next hca7)) ?_
      refine zt_goto zy_197 (show q_ins q_k197 20 = some (.goto 9, 29, 0) from rfl) ?_
      exact zt_wk (zt_cov_nil) (S_M_must_29  _ _ h)
theorem S_M_number_47 {X : q_X}   : ∀ (v1 : Int) (σ : zt_S) (o : (Int × zt_S)), F_M_number_47  v1 σ = some o → zt_Ex X 3 198 47 [(0, .ref 163), (1, .int (Int32.ofInt v1))] [] (zt_M σ) (zo_I o) := by
  intro v1 σ o  h
  unfold F_M_number_47 at h
  refine zt_aload_n zy_198 (show q_ins q_k198 47 = some (.aload_n 0, 0, 0) from rfl) (v := 163) rfl ?_
  obtain ⟨a7, s8, hca7, h⟩ := zt_bdE h
  refine zt_callV (d := 2) zy_198 (show q_ins q_k198 48 = some (.invokevirtual 156, 193, 0) from rfl) zy_193 (by decide) ⟨zq_lt (by decide), by decide⟩ rfl (by simp [Value.category]) (by simp [lg_sl, Value.category]) (zt_rcv zc_163) (zt_dm (by decide) (S_M_isGood hca7)) ?_
  obtain ⟨hg, h⟩ := zt_ckE h
  refine zt_if_ne zy_198 (show q_ins q_k198 51 = some (.ifCond .ne 5, 56, 0) from rfl) (hg) (fun hc => ?_) (fun hc => ?_)
  · rw [if_pos hc] at h
    refine zt_iload_n zy_198 (show q_ins q_k198 54 = some (.iload_n 1, 0, 0) from rfl) (v := Int32.ofInt v1) rfl ?_
    cases h
    exact zt_iret zy_198 (show q_ins q_k198 55 = some (.ireturn, 0, 0) from rfl)
  · rw [if_neg hc] at h
    refine zt_aload_n zy_198 (show q_ins q_k198 56 = some (.aload_n 0, 0, 0) from rfl) (v := 163) rfl ?_
    refine zt_getI zy_198 (show q_ins q_k198 57 = some (.getfield 137, 11, 14) from rfl) (j := 14) zk_163_14 rfl ?_
    refine zt_istore_n zy_198 (show q_ins q_k198 60 = some (.istore_n 3, 0, 0) from rfl) (by decide) ?_
    refine zt_aload_n zy_198 (show q_ins q_k198 61 = some (.aload_n 0, 0, 0) from rfl) (v := 163) rfl ?_
    obtain ⟨a9, s10, hca9, h⟩ := zt_bdE h
    refine zt_callV (d := 2) zy_198 (show q_ins q_k198 62 = some (.invokevirtual 153, 190, 0) from rfl) zy_190 (by decide) ⟨zq_lt (by decide), by decide⟩ rfl (by simp [Value.category]) (by simp [lg_sl, Value.category]) (zt_rcv zc_163) (zt_dm (by decide) (S_M_next hca9)) ?_
    refine zt_iload_n zy_198 (show q_ins q_k198 65 = some (.iload_n 3, 0, 0) from rfl) (v := Int32.ofInt (s8.1 163 14)) rfl ?_
    cases h
    exact zt_iret zy_198 (show q_ins q_k198 66 = some (.ireturn, 0, 0) from rfl)
theorem S_M_number {X : q_X}   {v1 : Int} {v2 : Int} {σ : zt_S} {o : (Int × zt_S)} (h : F_M_number  v1 v2 σ = some o) : zt_Ex X 3 198 0 (lv_args 0 [.ref 163, .int (Int32.ofInt v1), .int (Int32.ofInt v2)]) [] (zt_M σ) (zo_I o) := by
  unfold F_M_number at h
  refine zt_aload_n zy_198 (show q_ins q_k198 0 = some (.aload_n 0, 0, 0) from rfl) (v := 163) rfl ?_
  obtain ⟨a1, s2, hca1, h⟩ := zt_bdE h
  refine zt_callV (d := 2) zy_198 (show q_ins q_k198 1 = some (.invokevirtual 156, 193, 0) from rfl) zy_193 (by decide) ⟨zq_lt (by decide), by decide⟩ rfl (by simp [Value.category]) (by simp [lg_sl, Value.category]) (zt_rcv zc_163) (zt_dm (by decide) (S_M_isGood hca1)) ?_
  obtain ⟨hg, h⟩ := zt_ckE h
  refine zt_if_ne zy_198 (show q_ins q_k198 4 = some (.ifCond .ne 5, 9, 0) from rfl) (hg) (fun hc => ?_) (fun hc => ?_)
  · rw [if_pos hc] at h
    refine zt_iload_n zy_198 (show q_ins q_k198 7 = some (.iload_n 1, 0, 0) from rfl) (v := Int32.ofInt v1) rfl ?_
    cases h
    exact zt_iret zy_198 (show q_ins q_k198 8 = some (.ireturn, 0, 0) from rfl)
  · rw [if_neg hc] at h
    refine zt_aload_n zy_198 (show q_ins q_k198 9 = some (.aload_n 0, 0, 0) from rfl) (v := 163) rfl ?_
    refine zt_getI zy_198 (show q_ins q_k198 10 = some (.getfield 134, 11, 13) from rfl) (j := 13) zk_163_13 rfl ?_
    refine zt_iconst zy_198 (show q_ins q_k198 13 = some (.iconst 2, 0, 0) from rfl) ?_
    obtain ⟨hg, h⟩ := zt_ckE h
    refine zt_icmp_eq zy_198 (show q_ins q_k198 14 = some (.if_icmp .eq 12, 26, 0) from rfl) (⟨hg, by decide⟩) (fun hc => ?_) (fun hc => ?_)
    · rw [if_pos hc] at h
      refine zt_aload_n zy_198 (show q_ins q_k198 26 = some (.aload_n 0, 0, 0) from rfl) (v := 163) rfl ?_
      refine zt_getI zy_198 (show q_ins q_k198 27 = some (.getfield 137, 11, 14) from rfl) (j := 14) zk_163_14 rfl ?_
      refine zt_i2l zy_198 (show q_ins q_k198 30 = some (.i2l, 0, 0) from rfl) ?_
      refine zt_iload_n zy_198 (show q_ins q_k198 31 = some (.iload_n 1, 0, 0) from rfl) (v := Int32.ofInt v1) rfl ?_
      refine zt_i2l zy_198 (show q_ins q_k198 32 = some (.i2l, 0, 0) from rfl) ?_
      refine zt_iload_n zy_198 (show q_ins q_k198 33 = some (.iload_n 2, 0, 0) from rfl) (v := Int32.ofInt v2) rfl ?_
      refine zt_i2l zy_198 (show q_ins q_k198 34 = some (.i2l, 0, 0) from rfl) ?_
      obtain ⟨a3, s4, hca3, h⟩ := zt_bdE h
      refine zt_callS (d := 2) zy_198 (show q_ins q_k198 35 = some (.invokestatic 170, 171, 3) from rfl) zy_171 (by decide) ⟨zq_lt (by decide), by decide⟩ rfl (by simp [Value.category]) (by simp [lg_sl, Value.category]) rfl (zt_dm (by decide) (S_M_in hca3)) ?_
      obtain ⟨hg, h⟩ := zt_ckE h
      refine zt_if_ne zy_198 (show q_ins q_k198 38 = some (.ifCond .ne 9, 47, 0) from rfl) (hg) (fun hc => ?_) (fun hc => ?_)
      · rw [if_pos hc] at h
        refine zt_aload_n zy_198 (show q_ins q_k198 41 = some (.aload_n 0, 0, 0) from rfl) (v := 163) rfl ?_
        refine zt_iconst zy_198 (show q_ins q_k198 42 = some (.iconst 2, 0, 0) from rfl) ?_
        obtain ⟨a5, s6, hca5, h⟩ := zt_bdE h
        refine zt_callV (d := 2) zy_198 (show q_ins q_k198 43 = some (.invokevirtual 167, 192, 1) from rfl) zy_192 (by decide) ⟨zq_lt (by decide), by decide⟩ rfl (by simp [Value.category]) (by simp [lg_sl, Value.category]) (zt_rcv zc_163) (zt_dm (by decide) (S_M_wrongs hca5)) ?_
        refine zt_pop zy_198 (show q_ins q_k198 46 = some (.pop, 0, 0) from rfl) rfl ?_
        exact zt_wk (zt_cov_cons rfl (zt_cov_cons rfl (zt_cov_nil))) (S_M_number_47  _ _ _ h)
      · rw [if_neg hc] at h
        exact zt_wk (zt_cov_cons rfl (zt_cov_cons rfl (zt_cov_nil))) (S_M_number_47  _ _ _ h)
    · rw [if_neg hc] at h
      refine zt_aload_n zy_198 (show q_ins q_k198 17 = some (.aload_n 0, 0, 0) from rfl) (v := 163) rfl ?_
      refine zt_iconst zy_198 (show q_ins q_k198 18 = some (.iconst 1, 0, 0) from rfl) ?_
      obtain ⟨a11, s12, hca11, h⟩ := zt_bdE h
      refine zt_callV (d := 2) zy_198 (show q_ins q_k198 19 = some (.invokevirtual 167, 192, 1) from rfl) zy_192 (by decide) ⟨zq_lt (by decide), by decide⟩ rfl (by simp [Value.category]) (by simp [lg_sl, Value.category]) (zt_rcv zc_163) (zt_dm (by decide) (S_M_wrongs hca11)) ?_
      refine zt_pop zy_198 (show q_ins q_k198 22 = some (.pop, 0, 0) from rfl) rfl ?_
      refine zt_goto zy_198 (show q_ins q_k198 23 = some (.goto 24, 47, 0) from rfl) ?_
      exact zt_wk (zt_cov_cons rfl (zt_cov_cons rfl (zt_cov_nil))) (S_M_number_47  _ _ _ h)
theorem S_M_heldBy_29 {X : q_X} {c1 : Nat} {n1 : Nat} (ha1 : zt_sh[c1]? = some (.inl (0, n1))) (hn1 : n1 ≤ 1000000) {r5 : Int → Int → Int → zt_S → Option (Int × zt_S)} (hr5 : ∀ (v2 : Int) (v3 : Int) (v4 : Int) (σ : zt_S) (o : (Int × zt_S)), r5 v2 v3 v4 σ = some o → zt_Ex X 0 199 5 [(1, .ref c1), (2, .int (Int32.ofInt v2)), (3, .int (Int32.ofInt v3)), (4, .int (Int32.ofInt v4))] [] (zt_M σ) (zo_I o)) : ∀ (v2 : Int) (v4 : Int) (x0 : Int) (x1 : Int) (σ : zt_S) (o : (Int × zt_S)), F_M_heldBy_29 c1 n1 r5 v2 v4 x0 x1 σ = some o → zt_Ex X 0 199 29 [(1, .ref c1), (2, .int (Int32.ofInt v2)), (4, .int (Int32.ofInt v4))] [.int (Int32.ofInt x0), .int (Int32.ofInt x1)] (zt_M σ) (zo_I o) := by
  intro v2 v4 x0 x1 σ o  h
  unfold F_M_heldBy_29 at h
  refine zt_iadd zy_199 (show q_ins q_k199 29 = some (.iadd, 0, 0) from rfl) ?_
  refine zt_istore_n zy_199 (show q_ins q_k199 30 = some (.istore_n 3, 0, 0) from rfl) (by decide) ?_
  refine zt_iinc zy_199 (show q_ins q_k199 31 = some (.iinc 4 1, 0, 0) from rfl) (v := v4) (by decide) rfl ?_
  refine zt_goto zy_199 (show q_ins q_k199 34 = some (.goto (-29), 5, 0) from rfl) ?_
  exact zt_wk (zt_cov_cons rfl (zt_cov_cons rfl (zt_cov_cons rfl (zt_cov_cons rfl (zt_cov_nil))))) (hr5 _ _ _ _ _ h)
theorem S_M_heldBy_5 {X : q_X} {c1 : Nat} {n1 : Nat} (ha1 : zt_sh[c1]? = some (.inl (0, n1))) (hn1 : n1 ≤ 1000000) : ∀ (n : Nat) (v2 : Int) (v3 : Int) (v4 : Int) (σ : zt_S) (o : (Int × zt_S)), F_M_heldBy_5 c1 n1 n v2 v3 v4 σ = some o → zt_Ex X 0 199 5 [(1, .ref c1), (2, .int (Int32.ofInt v2)), (3, .int (Int32.ofInt v3)), (4, .int (Int32.ofInt v4))] [] (zt_M σ) (zo_I o) := by
  intro n
  induction n with
  | zero => intro v2 v3 v4 σ o  h; cases h
  | succ n ih =>
  intro v2 v3 v4 σ o  h
  rw [F_M_heldBy_5] at h
  refine zt_iload zy_199 (show q_ins q_k199 5 = some (.iload 4, 0, 0) from rfl) (v := Int32.ofInt v4) rfl ?_
  refine zt_bipush zy_199 (show q_ins q_k199 7 = some (.bipush 52, 0, 0) from rfl) (by decide) ?_
  obtain ⟨hg, h⟩ := zt_ckE h
  refine zt_icmp_ge zy_199 (show q_ins q_k199 9 = some (.if_icmp .ge 28, 37, 0) from rfl) (⟨hg, by decide⟩) (fun hc => ?_) (fun hc => ?_)
  · rw [if_pos hc] at h
    refine zt_iload_n zy_199 (show q_ins q_k199 12 = some (.iload_n 3, 0, 0) from rfl) (v := Int32.ofInt v3) rfl ?_
    refine zt_aload_n zy_199 (show q_ins q_k199 13 = some (.aload_n 1, 0, 0) from rfl) (v := c1) rfl ?_
    refine zt_bipush zy_199 (show q_ins q_k199 14 = some (.bipush 40, 0, 0) from rfl) (by decide) ?_
    refine zt_iload zy_199 (show q_ins q_k199 16 = some (.iload 4, 0, 0) from rfl) (v := Int32.ofInt v4) rfl ?_
    refine zt_iadd zy_199 (show q_ins q_k199 18 = some (.iadd, 0, 0) from rfl) ?_
    obtain ⟨hg, h⟩ := zt_ckE h
    refine zt_ald zy_199 (show q_ins q_k199 19 = some (.iaload, 0, 0) from rfl) ha1 hn1 hg ?_
    refine zt_iload_n zy_199 (show q_ins q_k199 20 = some (.iload_n 2, 0, 0) from rfl) (v := Int32.ofInt v2) rfl ?_
    obtain ⟨hg, h⟩ := zt_ckE h
    refine zt_icmp_ne zy_199 (show q_ins q_k199 21 = some (.if_icmp .ne 7, 28, 0) from rfl) (⟨hg.1, hg.2⟩) (fun hc => ?_) (fun hc => ?_)
    · rw [if_pos hc] at h
      refine zt_iconst zy_199 (show q_ins q_k199 24 = some (.iconst 1, 0, 0) from rfl) ?_
      refine zt_goto zy_199 (show q_ins q_k199 25 = some (.goto 4, 29, 0) from rfl) ?_
      exact zt_wk (zt_cov_cons rfl (zt_cov_cons rfl (zt_cov_cons rfl (zt_cov_nil)))) (S_M_heldBy_29  ha1 hn1 ih _ _ _ _ _ _ h)
    · rw [if_neg hc] at h
      refine zt_iconst zy_199 (show q_ins q_k199 28 = some (.iconst 0, 0, 0) from rfl) ?_
      exact zt_wk (zt_cov_cons rfl (zt_cov_cons rfl (zt_cov_cons rfl (zt_cov_nil)))) (S_M_heldBy_29  ha1 hn1 ih _ _ _ _ _ _ h)
  · rw [if_neg hc] at h
    refine zt_iload_n zy_199 (show q_ins q_k199 37 = some (.iload_n 3, 0, 0) from rfl) (v := Int32.ofInt v3) rfl ?_
    cases h
    exact zt_iret zy_199 (show q_ins q_k199 38 = some (.ireturn, 0, 0) from rfl)
theorem S_M_heldBy {X : q_X} {c1 : Nat} {n1 : Nat} (ha1 : zt_sh[c1]? = some (.inl (0, n1))) (hn1 : n1 ≤ 1000000) {v2 : Int} {σ : zt_S} {o : (Int × zt_S)} (h : F_M_heldBy c1 n1 v2 σ = some o) : zt_Ex X 0 199 0 (lv_args 0 [.ref 163, .ref c1, .int (Int32.ofInt v2)]) [] (zt_M σ) (zo_I o) := by
  unfold F_M_heldBy at h
  refine zt_iconst zy_199 (show q_ins q_k199 0 = some (.iconst 0, 0, 0) from rfl) ?_
  refine zt_istore_n zy_199 (show q_ins q_k199 1 = some (.istore_n 3, 0, 0) from rfl) (by decide) ?_
  refine zt_iconst zy_199 (show q_ins q_k199 2 = some (.iconst 0, 0, 0) from rfl) ?_
  refine zt_istore zy_199 (show q_ins q_k199 3 = some (.istore 4, 0, 0) from rfl) (by decide) ?_
  exact zt_wk (zt_cov_cons rfl (zt_cov_cons rfl (zt_cov_cons rfl (zt_cov_cons rfl (zt_cov_nil))))) (S_M_heldBy_5  ha1 hn1 _ _ _ _ _ _ h)
theorem S_M_readsHand_111 {X : q_X}   {r14 : Int → zt_S → Option (Unit × zt_S)} (hr14 : ∀ (v1 : Int) (σ : zt_S) (o : (Unit × zt_S)), r14 v1 σ = some o → zt_Ex X 4 200 14 [(0, .ref 163), (1, .int (Int32.ofInt v1))] [] (zt_M σ) (zo_V o)) : ∀ (v1 : Int) (σ : zt_S) (o : (Unit × zt_S)), F_M_readsHand_111  r14 v1 σ = some o → zt_Ex X 4 200 111 [(0, .ref 163), (1, .int (Int32.ofInt v1))] [] (zt_M σ) (zo_V o) := by
  intro v1 σ o  h
  unfold F_M_readsHand_111 at h
  refine zt_aload_n zy_200 (show q_ins q_k200 111 = some (.aload_n 0, 0, 0) from rfl) (v := 163) rfl ?_
  obtain ⟨a9, s10, hca9, h⟩ := zt_bdE h
  refine zt_callV (d := 3) zy_200 (show q_ins q_k200 112 = some (.invokevirtual 156, 193, 0) from rfl) zy_193 (by decide) ⟨zq_lt (by decide), by decide⟩ rfl (by simp [Value.category]) (by simp [lg_sl, Value.category]) (zt_rcv zc_163) (zt_dm (by decide) (S_M_isGood hca9)) ?_
  obtain ⟨hg, h⟩ := zt_ckE h
  refine zt_if_ne zy_200 (show q_ins q_k200 115 = some (.ifCond .ne 4, 119, 0) from rfl) (hg) (fun hc => ?_) (fun hc => ?_)
  · rw [if_pos hc] at h
    cases h
    exact zt_ret zy_200 (show q_ins q_k200 118 = some (.return_, 0, 0) from rfl)
  · rw [if_neg hc] at h
    refine zt_aload_n zy_200 (show q_ins q_k200 119 = some (.aload_n 0, 0, 0) from rfl) (v := 163) rfl ?_
    refine zt_getR zy_200 (show q_ins q_k200 120 = some (.getfield 17, 11, 2) from rfl) (r := 165) zk_163_2 ?_
    refine zt_bipush zy_200 (show q_ins q_k200 123 = some (.bipush 40, 0, 0) from rfl) (by decide) ?_
    refine zt_aload_n zy_200 (show q_ins q_k200 125 = some (.aload_n 0, 0, 0) from rfl) (v := 163) rfl ?_
    refine zt_getI zy_200 (show q_ins q_k200 126 = some (.getfield 137, 11, 14) from rfl) (j := 14) zk_163_14 rfl ?_
    refine zt_iadd zy_200 (show q_ins q_k200 129 = some (.iadd, 0, 0) from rfl) ?_
    refine zt_iload_n zy_200 (show q_ins q_k200 130 = some (.iload_n 1, 0, 0) from rfl) (v := Int32.ofInt v1) rfl ?_
    obtain ⟨hg, h⟩ := zt_ckE h
    obtain ⟨s11, hs11, h⟩ := zt_letE h
    refine zt_ast zy_200 (show q_ins q_k200 131 = some (.iastore, 0, 0) from rfl) za_165 (by decide) hg ?_
    rw [← hs11]
    refine zt_aload_n zy_200 (show q_ins q_k200 132 = some (.aload_n 0, 0, 0) from rfl) (v := 163) rfl ?_
    obtain ⟨a12, s13, hca12, h⟩ := zt_bdE h
    refine zt_callV (d := 3) zy_200 (show q_ins q_k200 133 = some (.invokevirtual 153, 190, 0) from rfl) zy_190 (by decide) ⟨zq_lt (by decide), by decide⟩ rfl (by simp [Value.category]) (by simp [lg_sl, Value.category]) (zt_rcv zc_163) (zt_dm (by decide) (S_M_next hca12)) ?_
    refine zt_aload_n zy_200 (show q_ins q_k200 136 = some (.aload_n 0, 0, 0) from rfl) (v := 163) rfl ?_
    refine zt_getI zy_200 (show q_ins q_k200 137 = some (.getfield 134, 11, 13) from rfl) (j := 13) zk_163_13 rfl ?_
    refine zt_iconst zy_200 (show q_ins q_k200 140 = some (.iconst 2, 0, 0) from rfl) ?_
    obtain ⟨hg, h⟩ := zt_ckE h
    refine zt_icmp_eq zy_200 (show q_ins q_k200 141 = some (.if_icmp .eq (-127), 14, 0) from rfl) (⟨hg, by decide⟩) (fun hc => ?_) (fun hc => ?_)
    · rw [if_pos hc] at h
      exact zt_wk (zt_cov_cons rfl (zt_cov_cons rfl (zt_cov_nil))) (hr14 _ _ _ h)
    · rw [if_neg hc] at h
      cases h
      exact zt_ret zy_200 (show q_ins q_k200 144 = some (.return_, 0, 0) from rfl)
theorem S_M_readsHand_105 {X : q_X}   {r14 : Int → zt_S → Option (Unit × zt_S)} (hr14 : ∀ (v1 : Int) (σ : zt_S) (o : (Unit × zt_S)), r14 v1 σ = some o → zt_Ex X 4 200 14 [(0, .ref 163), (1, .int (Int32.ofInt v1))] [] (zt_M σ) (zo_V o)) : ∀ (v1 : Int) (σ : zt_S) (o : (Unit × zt_S)), F_M_readsHand_105  r14 v1 σ = some o → zt_Ex X 4 200 105 [(0, .ref 163), (1, .int (Int32.ofInt v1))] [] (zt_M σ) (zo_V o) := by
  intro v1 σ o  h
  unfold F_M_readsHand_105 at h
  refine zt_aload_n zy_200 (show q_ins q_k200 105 = some (.aload_n 0, 0, 0) from rfl) (v := 163) rfl ?_
  refine zt_iconst zy_200 (show q_ins q_k200 106 = some (.iconst 3, 0, 0) from rfl) ?_
  obtain ⟨a16, s17, hca16, h⟩ := zt_bdE h
  refine zt_callV (d := 3) zy_200 (show q_ins q_k200 107 = some (.invokevirtual 167, 192, 1) from rfl) zy_192 (by decide) ⟨zq_lt (by decide), by decide⟩ rfl (by simp [Value.category]) (by simp [lg_sl, Value.category]) (zt_rcv zc_163) (zt_dm (by decide) (S_M_wrongs hca16)) ?_
  refine zt_pop zy_200 (show q_ins q_k200 110 = some (.pop, 0, 0) from rfl) rfl ?_
  exact zt_wk (zt_cov_cons rfl (zt_cov_cons rfl (zt_cov_nil))) (S_M_readsHand_111  hr14 _ _ _ h)
theorem S_M_readsHand_14 {X : q_X}   : ∀ (n : Nat) (v1 : Int) (σ : zt_S) (o : (Unit × zt_S)), F_M_readsHand_14  n v1 σ = some o → zt_Ex X 4 200 14 [(0, .ref 163), (1, .int (Int32.ofInt v1))] [] (zt_M σ) (zo_V o) := by
  intro n
  induction n with
  | zero => intro v1 σ o  h; cases h
  | succ n ih =>
  intro v1 σ o  h
  rw [F_M_readsHand_14] at h
  refine zt_aload_n zy_200 (show q_ins q_k200 14 = some (.aload_n 0, 0, 0) from rfl) (v := 163) rfl ?_
  obtain ⟨a3, s4, hca3, h⟩ := zt_bdE h
  refine zt_callV (d := 3) zy_200 (show q_ins q_k200 15 = some (.invokevirtual 156, 193, 0) from rfl) zy_193 (by decide) ⟨zq_lt (by decide), by decide⟩ rfl (by simp [Value.category]) (by simp [lg_sl, Value.category]) (zt_rcv zc_163) (zt_dm (by decide) (S_M_isGood hca3)) ?_
  obtain ⟨hg, h⟩ := zt_ckE h
  refine zt_if_ne zy_200 (show q_ins q_k200 18 = some (.ifCond .ne 4, 22, 0) from rfl) (hg) (fun hc => ?_) (fun hc => ?_)
  · rw [if_pos hc] at h
    cases h
    exact zt_ret zy_200 (show q_ins q_k200 21 = some (.return_, 0, 0) from rfl)
  · rw [if_neg hc] at h
    refine zt_aload_n zy_200 (show q_ins q_k200 22 = some (.aload_n 0, 0, 0) from rfl) (v := 163) rfl ?_
    refine zt_getI zy_200 (show q_ins q_k200 23 = some (.getfield 134, 11, 13) from rfl) (j := 13) zk_163_13 rfl ?_
    refine zt_iconst zy_200 (show q_ins q_k200 26 = some (.iconst 2, 0, 0) from rfl) ?_
    obtain ⟨hg, h⟩ := zt_ckE h
    refine zt_icmp_eq zy_200 (show q_ins q_k200 27 = some (.if_icmp .eq 12, 39, 0) from rfl) (⟨hg, by decide⟩) (fun hc => ?_) (fun hc => ?_)
    · rw [if_pos hc] at h
      refine zt_aload_n zy_200 (show q_ins q_k200 39 = some (.aload_n 0, 0, 0) from rfl) (v := 163) rfl ?_
      refine zt_getI zy_200 (show q_ins q_k200 40 = some (.getfield 137, 11, 14) from rfl) (j := 14) zk_163_14 rfl ?_
      refine zt_i2l zy_200 (show q_ins q_k200 43 = some (.i2l, 0, 0) from rfl) ?_
      refine zt_lconst zy_200 (show q_ins q_k200 44 = some (.lconst 0, 0, 0) from rfl) (v := (0 : Int64)) (by decide) ?_
      refine zt_iconst zy_200 (show q_ins q_k200 45 = some (.iconst 4, 0, 0) from rfl) ?_
      refine zt_aload_n zy_200 (show q_ins q_k200 46 = some (.aload_n 0, 0, 0) from rfl) (v := 163) rfl ?_
      refine zt_getR zy_200 (show q_ins q_k200 47 = some (.getfield 17, 11, 2) from rfl) (r := 165) zk_163_2 ?_
      refine zt_iconst zy_200 (show q_ins q_k200 50 = some (.iconst 0, 0, 0) from rfl) ?_
      refine zt_ald zy_200 (show q_ins q_k200 51 = some (.iaload, 0, 0) from rfl) za_165 (by decide) (by decide) ?_
      refine zt_imul zy_200 (show q_ins q_k200 52 = some (.imul, 0, 0) from rfl) ?_
      refine zt_iconst zy_200 (show q_ins q_k200 53 = some (.iconst 1, 0, 0) from rfl) ?_
      refine zt_isub zy_200 (show q_ins q_k200 54 = some (.isub, 0, 0) from rfl) ?_
      refine zt_i2l zy_200 (show q_ins q_k200 55 = some (.i2l, 0, 0) from rfl) ?_
      obtain ⟨a5, s6, hca5, h⟩ := zt_bdE h
      refine zt_callS (d := 3) zy_200 (show q_ins q_k200 56 = some (.invokestatic 170, 171, 3) from rfl) zy_171 (by decide) ⟨zq_lt (by decide), by decide⟩ rfl (by simp [Value.category]) (by simp [lg_sl, Value.category]) rfl (zt_dm (by decide) (S_M_in hca5)) ?_
      obtain ⟨hg, h⟩ := zt_ckE h
      refine zt_if_ne zy_200 (show q_ins q_k200 59 = some (.ifCond .ne 12, 71, 0) from rfl) (hg) (fun hc => ?_) (fun hc => ?_)
      · rw [if_pos hc] at h
        refine zt_aload_n zy_200 (show q_ins q_k200 62 = some (.aload_n 0, 0, 0) from rfl) (v := 163) rfl ?_
        refine zt_iconst zy_200 (show q_ins q_k200 63 = some (.iconst 2, 0, 0) from rfl) ?_
        obtain ⟨a7, s8, hca7, h⟩ := zt_bdE h
        refine zt_callV (d := 3) zy_200 (show q_ins q_k200 64 = some (.invokevirtual 167, 192, 1) from rfl) zy_192 (by decide) ⟨zq_lt (by decide), by decide⟩ rfl (by simp [Value.category]) (by simp [lg_sl, Value.category]) (zt_rcv zc_163) (zt_dm (by decide) (S_M_wrongs hca7)) ?_
        refine zt_pop zy_200 (show q_ins q_k200 67 = some (.pop, 0, 0) from rfl) rfl ?_
        refine zt_goto zy_200 (show q_ins q_k200 68 = some (.goto 43, 111, 0) from rfl) ?_
        exact zt_wk (zt_cov_cons rfl (zt_cov_cons rfl (zt_cov_nil))) (S_M_readsHand_111  ih _ _ _ h)
      · rw [if_neg hc] at h
        refine zt_aload_n zy_200 (show q_ins q_k200 71 = some (.aload_n 0, 0, 0) from rfl) (v := 163) rfl ?_
        refine zt_getR zy_200 (show q_ins q_k200 72 = some (.getfield 17, 11, 2) from rfl) (r := 165) zk_163_2 ?_
        refine zt_bipush zy_200 (show q_ins q_k200 75 = some (.bipush 40, 0, 0) from rfl) (by decide) ?_
        refine zt_aload_n zy_200 (show q_ins q_k200 77 = some (.aload_n 0, 0, 0) from rfl) (v := 163) rfl ?_
        refine zt_getI zy_200 (show q_ins q_k200 78 = some (.getfield 137, 11, 14) from rfl) (j := 14) zk_163_14 rfl ?_
        refine zt_iadd zy_200 (show q_ins q_k200 81 = some (.iadd, 0, 0) from rfl) ?_
        obtain ⟨hg, h⟩ := zt_ckE h
        refine zt_ald zy_200 (show q_ins q_k200 82 = some (.iaload, 0, 0) from rfl) za_165 (by decide) hg ?_
        refine zt_iconst zy_200 (show q_ins q_k200 83 = some (.iconst (-1), 0, 0) from rfl) ?_
        obtain ⟨hg, h⟩ := zt_ckE h
        refine zt_icmp_ne zy_200 (show q_ins q_k200 84 = some (.if_icmp .ne 21, 105, 0) from rfl) (⟨hg, by decide⟩) (fun hc => ?_) (fun hc => ?_)
        · rw [if_pos hc] at h
          refine zt_aload_n zy_200 (show q_ins q_k200 87 = some (.aload_n 0, 0, 0) from rfl) (v := 163) rfl ?_
          refine zt_aload_n zy_200 (show q_ins q_k200 88 = some (.aload_n 0, 0, 0) from rfl) (v := 163) rfl ?_
          refine zt_getR zy_200 (show q_ins q_k200 89 = some (.getfield 17, 11, 2) from rfl) (r := 165) zk_163_2 ?_
          refine zt_iload_n zy_200 (show q_ins q_k200 92 = some (.iload_n 1, 0, 0) from rfl) (v := Int32.ofInt v1) rfl ?_
          obtain ⟨a14, s15, hca14, h⟩ := zt_bdE h
          refine zt_callV (d := 3) zy_200 (show q_ins q_k200 93 = some (.invokevirtual 178, 199, 2) from rfl) zy_199 (by decide) ⟨zq_lt (by decide), by decide⟩ rfl (by simp [Value.category]) (by simp [lg_sl, Value.category]) (zt_rcv zc_163) (zt_dm (by decide) (S_M_heldBy za_165 (by decide) hca14)) ?_
          refine zt_aload_n zy_200 (show q_ins q_k200 96 = some (.aload_n 0, 0, 0) from rfl) (v := 163) rfl ?_
          refine zt_getR zy_200 (show q_ins q_k200 97 = some (.getfield 17, 11, 2) from rfl) (r := 165) zk_163_2 ?_
          refine zt_iconst zy_200 (show q_ins q_k200 100 = some (.iconst 2, 0, 0) from rfl) ?_
          refine zt_ald zy_200 (show q_ins q_k200 101 = some (.iaload, 0, 0) from rfl) za_165 (by decide) (by decide) ?_
          obtain ⟨hg, h⟩ := zt_ckE h
          refine zt_icmp_ne zy_200 (show q_ins q_k200 102 = some (.if_icmp .ne 9, 111, 0) from rfl) (⟨hg.1, hg.2⟩) (fun hc => ?_) (fun hc => ?_)
          · rw [if_pos hc] at h
            exact zt_wk (zt_cov_cons rfl (zt_cov_cons rfl (zt_cov_nil))) (S_M_readsHand_105  ih _ _ _ h)
          · rw [if_neg hc] at h
            exact zt_wk (zt_cov_cons rfl (zt_cov_cons rfl (zt_cov_nil))) (S_M_readsHand_111  ih _ _ _ h)
        · rw [if_neg hc] at h
          exact zt_wk (zt_cov_cons rfl (zt_cov_cons rfl (zt_cov_nil))) (S_M_readsHand_105  ih _ _ _ h)
    · rw [if_neg hc] at h
      refine zt_aload_n zy_200 (show q_ins q_k200 30 = some (.aload_n 0, 0, 0) from rfl) (v := 163) rfl ?_
      refine zt_iconst zy_200 (show q_ins q_k200 31 = some (.iconst 1, 0, 0) from rfl) ?_
      obtain ⟨a18, s19, hca18, h⟩ := zt_bdE h
      refine zt_callV (d := 3) zy_200 (show q_ins q_k200 32 = some (.invokevirtual 167, 192, 1) from rfl) zy_192 (by decide) ⟨zq_lt (by decide), by decide⟩ rfl (by simp [Value.category]) (by simp [lg_sl, Value.category]) (zt_rcv zc_163) (zt_dm (by decide) (S_M_wrongs hca18)) ?_
      refine zt_pop zy_200 (show q_ins q_k200 35 = some (.pop, 0, 0) from rfl) rfl ?_
      refine zt_goto zy_200 (show q_ins q_k200 36 = some (.goto 75, 111, 0) from rfl) ?_
      exact zt_wk (zt_cov_cons rfl (zt_cov_cons rfl (zt_cov_nil))) (S_M_readsHand_111  ih _ _ _ h)
theorem S_M_readsHand {X : q_X}    {σ : zt_S} {o : (Unit × zt_S)} (h : F_M_readsHand   σ = some o) : zt_Ex X 4 200 0 (lv_args 0 [.ref 163]) [] (zt_M σ) (zo_V o) := by
  unfold F_M_readsHand at h
  refine zt_aload_n zy_200 (show q_ins q_k200 0 = some (.aload_n 0, 0, 0) from rfl) (v := 163) rfl ?_
  refine zt_iconst zy_200 (show q_ins q_k200 1 = some (.iconst 0, 0, 0) from rfl) ?_
  refine zt_aload_n zy_200 (show q_ins q_k200 2 = some (.aload_n 0, 0, 0) from rfl) (v := 163) rfl ?_
  refine zt_getR zy_200 (show q_ins q_k200 3 = some (.getfield 17, 11, 2) from rfl) (r := 165) zk_163_2 ?_
  refine zt_iconst zy_200 (show q_ins q_k200 6 = some (.iconst 1, 0, 0) from rfl) ?_
  refine zt_ald zy_200 (show q_ins q_k200 7 = some (.iaload, 0, 0) from rfl) za_165 (by decide) (by decide) ?_
  refine zt_iconst zy_200 (show q_ins q_k200 8 = some (.iconst 1, 0, 0) from rfl) ?_
  refine zt_isub zy_200 (show q_ins q_k200 9 = some (.isub, 0, 0) from rfl) ?_
  obtain ⟨a1, s2, hca1, h⟩ := zt_bdE h
  refine zt_callV (d := 3) zy_200 (show q_ins q_k200 10 = some (.invokevirtual 174, 198, 2) from rfl) zy_198 (by decide) ⟨zq_lt (by decide), by decide⟩ rfl (by simp [Value.category]) (by simp [lg_sl, Value.category]) (zt_rcv zc_163) (zt_dm (by decide) (S_M_number hca1)) ?_
  refine zt_istore_n zy_200 (show q_ins q_k200 13 = some (.istore_n 1, 0, 0) from rfl) (by decide) ?_
  exact zt_wk (zt_cov_cons rfl (zt_cov_cons rfl (zt_cov_nil))) (S_M_readsHand_14  _ _ _ _ h)
theorem S_M_readsTell_123 {X : q_X}   : ∀  (σ : zt_S) (o : (Unit × zt_S)), F_M_readsTell_123   σ = some o → zt_Ex X 4 201 123 [] [] (zt_M σ) (zo_V o) := by
  intro  σ o  h
  unfold F_M_readsTell_123 at h
  cases h
  exact zt_ret zy_201 (show q_ins q_k201 123 = some (.return_, 0, 0) from rfl)
theorem S_M_readsTell_77 {X : q_X}   : ∀  (σ : zt_S) (o : (Unit × zt_S)), F_M_readsTell_77   σ = some o → zt_Ex X 4 201 77 [(0, .ref 163)] [] (zt_M σ) (zo_V o) := by
  intro  σ o  h
  unfold F_M_readsTell_77 at h
  refine zt_aload_n zy_201 (show q_ins q_k201 77 = some (.aload_n 0, 0, 0) from rfl) (v := 163) rfl ?_
  obtain ⟨a7, s8, hca7, h⟩ := zt_bdE h
  refine zt_callV (d := 3) zy_201 (show q_ins q_k201 78 = some (.invokevirtual 156, 193, 0) from rfl) zy_193 (by decide) ⟨zq_lt (by decide), by decide⟩ rfl (by simp [Value.category]) (by simp [lg_sl, Value.category]) (zt_rcv zc_163) (zt_dm (by decide) (S_M_isGood hca7)) ?_
  obtain ⟨hg, h⟩ := zt_ckE h
  refine zt_if_ne zy_201 (show q_ins q_k201 81 = some (.ifCond .ne 4, 85, 0) from rfl) (hg) (fun hc => ?_) (fun hc => ?_)
  · rw [if_pos hc] at h
    cases h
    exact zt_ret zy_201 (show q_ins q_k201 84 = some (.return_, 0, 0) from rfl)
  · rw [if_neg hc] at h
    refine zt_aload_n zy_201 (show q_ins q_k201 85 = some (.aload_n 0, 0, 0) from rfl) (v := 163) rfl ?_
    refine zt_getI zy_201 (show q_ins q_k201 86 = some (.getfield 137, 11, 14) from rfl) (j := 14) zk_163_14 rfl ?_
    refine zt_istore_n zy_201 (show q_ins q_k201 89 = some (.istore_n 1, 0, 0) from rfl) (by decide) ?_
    refine zt_aload_n zy_201 (show q_ins q_k201 90 = some (.aload_n 0, 0, 0) from rfl) (v := 163) rfl ?_
    obtain ⟨a9, s10, hca9, h⟩ := zt_bdE h
    refine zt_callV (d := 3) zy_201 (show q_ins q_k201 91 = some (.invokevirtual 153, 190, 0) from rfl) zy_190 (by decide) ⟨zq_lt (by decide), by decide⟩ rfl (by simp [Value.category]) (by simp [lg_sl, Value.category]) (zt_rcv zc_163) (zt_dm (by decide) (S_M_next hca9)) ?_
    refine zt_aload_n zy_201 (show q_ins q_k201 94 = some (.aload_n 0, 0, 0) from rfl) (v := 163) rfl ?_
    refine zt_iconst zy_201 (show q_ins q_k201 95 = some (.iconst 0, 0, 0) from rfl) ?_
    refine zt_aload_n zy_201 (show q_ins q_k201 96 = some (.aload_n 0, 0, 0) from rfl) (v := 163) rfl ?_
    refine zt_getR zy_201 (show q_ins q_k201 97 = some (.getfield 17, 11, 2) from rfl) (r := 165) zk_163_2 ?_
    refine zt_iconst zy_201 (show q_ins q_k201 100 = some (.iconst 2, 0, 0) from rfl) ?_
    refine zt_ald zy_201 (show q_ins q_k201 101 = some (.iaload, 0, 0) from rfl) za_165 (by decide) (by decide) ?_
    obtain ⟨a11, s12, hca11, h⟩ := zt_bdE h
    refine zt_callV (d := 3) zy_201 (show q_ins q_k201 102 = some (.invokevirtual 174, 198, 2) from rfl) zy_198 (by decide) ⟨zq_lt (by decide), by decide⟩ rfl (by simp [Value.category]) (by simp [lg_sl, Value.category]) (zt_rcv zc_163) (zt_dm (by decide) (S_M_number hca11)) ?_
    refine zt_istore_n zy_201 (show q_ins q_k201 105 = some (.istore_n 2, 0, 0) from rfl) (by decide) ?_
    refine zt_aload_n zy_201 (show q_ins q_k201 106 = some (.aload_n 0, 0, 0) from rfl) (v := 163) rfl ?_
    obtain ⟨a13, s14, hca13, h⟩ := zt_bdE h
    refine zt_callV (d := 3) zy_201 (show q_ins q_k201 107 = some (.invokevirtual 156, 193, 0) from rfl) zy_193 (by decide) ⟨zq_lt (by decide), by decide⟩ rfl (by simp [Value.category]) (by simp [lg_sl, Value.category]) (zt_rcv zc_163) (zt_dm (by decide) (S_M_isGood hca13)) ?_
    obtain ⟨hg, h⟩ := zt_ckE h
    refine zt_if_eq zy_201 (show q_ins q_k201 110 = some (.ifCond .eq 13, 123, 0) from rfl) (hg) (fun hc => ?_) (fun hc => ?_)
    · rw [if_pos hc] at h
      exact zt_wk (zt_cov_nil) (S_M_readsTell_123  _ _ h)
    · rw [if_neg hc] at h
      refine zt_aload_n zy_201 (show q_ins q_k201 113 = some (.aload_n 0, 0, 0) from rfl) (v := 163) rfl ?_
      refine zt_getR zy_201 (show q_ins q_k201 114 = some (.getfield 17, 11, 2) from rfl) (r := 165) zk_163_2 ?_
      refine zt_bipush zy_201 (show q_ins q_k201 117 = some (.bipush 16, 0, 0) from rfl) (by decide) ?_
      refine zt_iload_n zy_201 (show q_ins q_k201 119 = some (.iload_n 1, 0, 0) from rfl) (v := Int32.ofInt (s8.1 163 14)) rfl ?_
      refine zt_iadd zy_201 (show q_ins q_k201 120 = some (.iadd, 0, 0) from rfl) ?_
      refine zt_iload_n zy_201 (show q_ins q_k201 121 = some (.iload_n 2, 0, 0) from rfl) (v := Int32.ofInt a11) rfl ?_
      obtain ⟨hg, h⟩ := zt_ckE h
      obtain ⟨s15, hs15, h⟩ := zt_letE h
      refine zt_ast zy_201 (show q_ins q_k201 122 = some (.iastore, 0, 0) from rfl) za_165 (by decide) hg ?_
      rw [← hs15]
      exact zt_wk (zt_cov_nil) (S_M_readsTell_123  _ _ h)
theorem S_M_readsTell {X : q_X}    {σ : zt_S} {o : (Unit × zt_S)} (h : F_M_readsTell   σ = some o) : zt_Ex X 4 201 0 (lv_args 0 [.ref 163]) [] (zt_M σ) (zo_V o) := by
  unfold F_M_readsTell at h
  refine zt_aload_n zy_201 (show q_ins q_k201 0 = some (.aload_n 0, 0, 0) from rfl) (v := 163) rfl ?_
  obtain ⟨a1, s2, hca1, h⟩ := zt_bdE h
  refine zt_callV (d := 3) zy_201 (show q_ins q_k201 1 = some (.invokevirtual 156, 193, 0) from rfl) zy_193 (by decide) ⟨zq_lt (by decide), by decide⟩ rfl (by simp [Value.category]) (by simp [lg_sl, Value.category]) (zt_rcv zc_163) (zt_dm (by decide) (S_M_isGood hca1)) ?_
  obtain ⟨hg, h⟩ := zt_ckE h
  refine zt_if_ne zy_201 (show q_ins q_k201 4 = some (.ifCond .ne 4, 8, 0) from rfl) (hg) (fun hc => ?_) (fun hc => ?_)
  · rw [if_pos hc] at h
    cases h
    exact zt_ret zy_201 (show q_ins q_k201 7 = some (.return_, 0, 0) from rfl)
  · rw [if_neg hc] at h
    refine zt_aload_n zy_201 (show q_ins q_k201 8 = some (.aload_n 0, 0, 0) from rfl) (v := 163) rfl ?_
    refine zt_getI zy_201 (show q_ins q_k201 9 = some (.getfield 134, 11, 13) from rfl) (j := 13) zk_163_13 rfl ?_
    refine zt_iconst zy_201 (show q_ins q_k201 12 = some (.iconst 2, 0, 0) from rfl) ?_
    obtain ⟨hg, h⟩ := zt_ckE h
    refine zt_icmp_eq zy_201 (show q_ins q_k201 13 = some (.if_icmp .eq 12, 25, 0) from rfl) (⟨hg, by decide⟩) (fun hc => ?_) (fun hc => ?_)
    · rw [if_pos hc] at h
      refine zt_aload_n zy_201 (show q_ins q_k201 25 = some (.aload_n 0, 0, 0) from rfl) (v := 163) rfl ?_
      refine zt_getI zy_201 (show q_ins q_k201 26 = some (.getfield 137, 11, 14) from rfl) (j := 14) zk_163_14 rfl ?_
      refine zt_i2l zy_201 (show q_ins q_k201 29 = some (.i2l, 0, 0) from rfl) ?_
      refine zt_lconst zy_201 (show q_ins q_k201 30 = some (.lconst 0, 0, 0) from rfl) (v := (0 : Int64)) (by decide) ?_
      refine zt_aload_n zy_201 (show q_ins q_k201 31 = some (.aload_n 0, 0, 0) from rfl) (v := 163) rfl ?_
      refine zt_getR zy_201 (show q_ins q_k201 32 = some (.getfield 17, 11, 2) from rfl) (r := 165) zk_163_2 ?_
      refine zt_iconst zy_201 (show q_ins q_k201 35 = some (.iconst 1, 0, 0) from rfl) ?_
      refine zt_ald zy_201 (show q_ins q_k201 36 = some (.iaload, 0, 0) from rfl) za_165 (by decide) (by decide) ?_
      refine zt_iconst zy_201 (show q_ins q_k201 37 = some (.iconst 1, 0, 0) from rfl) ?_
      refine zt_isub zy_201 (show q_ins q_k201 38 = some (.isub, 0, 0) from rfl) ?_
      refine zt_i2l zy_201 (show q_ins q_k201 39 = some (.i2l, 0, 0) from rfl) ?_
      obtain ⟨a3, s4, hca3, h⟩ := zt_bdE h
      refine zt_callS (d := 3) zy_201 (show q_ins q_k201 40 = some (.invokestatic 170, 171, 3) from rfl) zy_171 (by decide) ⟨zq_lt (by decide), by decide⟩ rfl (by simp [Value.category]) (by simp [lg_sl, Value.category]) rfl (zt_dm (by decide) (S_M_in hca3)) ?_
      obtain ⟨hg, h⟩ := zt_ckE h
      refine zt_if_ne zy_201 (show q_ins q_k201 43 = some (.ifCond .ne 12, 55, 0) from rfl) (hg) (fun hc => ?_) (fun hc => ?_)
      · rw [if_pos hc] at h
        refine zt_aload_n zy_201 (show q_ins q_k201 46 = some (.aload_n 0, 0, 0) from rfl) (v := 163) rfl ?_
        refine zt_iconst zy_201 (show q_ins q_k201 47 = some (.iconst 2, 0, 0) from rfl) ?_
        obtain ⟨a5, s6, hca5, h⟩ := zt_bdE h
        refine zt_callV (d := 3) zy_201 (show q_ins q_k201 48 = some (.invokevirtual 167, 192, 1) from rfl) zy_192 (by decide) ⟨zq_lt (by decide), by decide⟩ rfl (by simp [Value.category]) (by simp [lg_sl, Value.category]) (zt_rcv zc_163) (zt_dm (by decide) (S_M_wrongs hca5)) ?_
        refine zt_pop zy_201 (show q_ins q_k201 51 = some (.pop, 0, 0) from rfl) rfl ?_
        refine zt_goto zy_201 (show q_ins q_k201 52 = some (.goto 25, 77, 0) from rfl) ?_
        exact zt_wk (zt_cov_cons rfl (zt_cov_nil)) (S_M_readsTell_77  _ _ h)
      · rw [if_neg hc] at h
        refine zt_aload_n zy_201 (show q_ins q_k201 55 = some (.aload_n 0, 0, 0) from rfl) (v := 163) rfl ?_
        refine zt_getR zy_201 (show q_ins q_k201 56 = some (.getfield 17, 11, 2) from rfl) (r := 165) zk_163_2 ?_
        refine zt_bipush zy_201 (show q_ins q_k201 59 = some (.bipush 16, 0, 0) from rfl) (by decide) ?_
        refine zt_aload_n zy_201 (show q_ins q_k201 61 = some (.aload_n 0, 0, 0) from rfl) (v := 163) rfl ?_
        refine zt_getI zy_201 (show q_ins q_k201 62 = some (.getfield 137, 11, 14) from rfl) (j := 14) zk_163_14 rfl ?_
        refine zt_iadd zy_201 (show q_ins q_k201 65 = some (.iadd, 0, 0) from rfl) ?_
        obtain ⟨hg, h⟩ := zt_ckE h
        refine zt_ald zy_201 (show q_ins q_k201 66 = some (.iaload, 0, 0) from rfl) za_165 (by decide) hg ?_
        refine zt_iconst zy_201 (show q_ins q_k201 67 = some (.iconst (-1), 0, 0) from rfl) ?_
        obtain ⟨hg, h⟩ := zt_ckE h
        refine zt_icmp_eq zy_201 (show q_ins q_k201 68 = some (.if_icmp .eq 9, 77, 0) from rfl) (⟨hg, by decide⟩) (fun hc => ?_) (fun hc => ?_)
        · rw [if_pos hc] at h
          exact zt_wk (zt_cov_cons rfl (zt_cov_nil)) (S_M_readsTell_77  _ _ h)
        · rw [if_neg hc] at h
          refine zt_aload_n zy_201 (show q_ins q_k201 71 = some (.aload_n 0, 0, 0) from rfl) (v := 163) rfl ?_
          refine zt_iconst zy_201 (show q_ins q_k201 72 = some (.iconst 3, 0, 0) from rfl) ?_
          obtain ⟨a16, s17, hca16, h⟩ := zt_bdE h
          refine zt_callV (d := 3) zy_201 (show q_ins q_k201 73 = some (.invokevirtual 167, 192, 1) from rfl) zy_192 (by decide) ⟨zq_lt (by decide), by decide⟩ rfl (by simp [Value.category]) (by simp [lg_sl, Value.category]) (zt_rcv zc_163) (zt_dm (by decide) (S_M_wrongs hca16)) ?_
          refine zt_pop zy_201 (show q_ins q_k201 76 = some (.pop, 0, 0) from rfl) rfl ?_
          exact zt_wk (zt_cov_cons rfl (zt_cov_nil)) (S_M_readsTell_77  _ _ h)
    · rw [if_neg hc] at h
      refine zt_aload_n zy_201 (show q_ins q_k201 16 = some (.aload_n 0, 0, 0) from rfl) (v := 163) rfl ?_
      refine zt_iconst zy_201 (show q_ins q_k201 17 = some (.iconst 1, 0, 0) from rfl) ?_
      obtain ⟨a18, s19, hca18, h⟩ := zt_bdE h
      refine zt_callV (d := 3) zy_201 (show q_ins q_k201 18 = some (.invokevirtual 167, 192, 1) from rfl) zy_192 (by decide) ⟨zq_lt (by decide), by decide⟩ rfl (by simp [Value.category]) (by simp [lg_sl, Value.category]) (zt_rcv zc_163) (zt_dm (by decide) (S_M_wrongs hca18)) ?_
      refine zt_pop zy_201 (show q_ins q_k201 21 = some (.pop, 0, 0) from rfl) rfl ?_
      refine zt_goto zy_201 (show q_ins q_k201 22 = some (.goto 55, 77, 0) from rfl) ?_
      exact zt_wk (zt_cov_cons rfl (zt_cov_nil)) (S_M_readsTell_77  _ _ h)
theorem S_M_readsTrump_77 {X : q_X}   : ∀  (σ : zt_S) (o : (Unit × zt_S)), F_M_readsTrump_77   σ = some o → zt_Ex X 4 202 77 [] [] (zt_M σ) (zo_V o) := by
  intro  σ o  h
  unfold F_M_readsTrump_77 at h
  cases h
  exact zt_ret zy_202 (show q_ins q_k202 77 = some (.return_, 0, 0) from rfl)
theorem S_M_readsTrump_59 {X : q_X}   : ∀  (σ : zt_S) (o : (Unit × zt_S)), F_M_readsTrump_59   σ = some o → zt_Ex X 4 202 59 [(0, .ref 163)] [] (zt_M σ) (zo_V o) := by
  intro  σ o  h
  unfold F_M_readsTrump_59 at h
  refine zt_aload_n zy_202 (show q_ins q_k202 59 = some (.aload_n 0, 0, 0) from rfl) (v := 163) rfl ?_
  refine zt_ldc2 zy_202 (show q_ins q_k202 60 = some (.ldc2_w 189, 0, 261377717) from rfl) (v := (261377717 : Int64)) (by decide) ?_
  obtain ⟨a8, s9, hca8, h⟩ := zt_bdE h
  refine zt_callV (d := 3) zy_202 (show q_ins q_k202 63 = some (.invokevirtual 184, 195, 1) from rfl) zy_195 (by decide) ⟨zq_lt (by decide), by decide⟩ rfl (by simp [Value.category]) (by simp [lg_sl, Value.category]) (zt_rcv zc_163) (zt_dm (by decide) (S_M_passes hca8)) ?_
  obtain ⟨hg, h⟩ := zt_ckE h
  refine zt_if_eq zy_202 (show q_ins q_k202 66 = some (.ifCond .eq 11, 77, 0) from rfl) (hg) (fun hc => ?_) (fun hc => ?_)
  · rw [if_pos hc] at h
    exact zt_wk (zt_cov_nil) (S_M_readsTrump_77  _ _ h)
  · rw [if_neg hc] at h
    refine zt_aload_n zy_202 (show q_ins q_k202 69 = some (.aload_n 0, 0, 0) from rfl) (v := 163) rfl ?_
    refine zt_getR zy_202 (show q_ins q_k202 70 = some (.getfield 17, 11, 2) from rfl) (r := 165) zk_163_2 ?_
    refine zt_bipush zy_202 (show q_ins q_k202 73 = some (.bipush 7, 0, 0) from rfl) (by decide) ?_
    refine zt_iconst zy_202 (show q_ins q_k202 75 = some (.iconst 1, 0, 0) from rfl) ?_
    obtain ⟨s10, hs10, h⟩ := zt_letE h
    refine zt_ast zy_202 (show q_ins q_k202 76 = some (.iastore, 0, 0) from rfl) za_165 (by decide) (by decide) ?_
    rw [← hs10]
    exact zt_wk (zt_cov_nil) (S_M_readsTrump_77  _ _ h)
theorem S_M_readsTrump_35 {X : q_X}   : ∀  (σ : zt_S) (o : (Unit × zt_S)), F_M_readsTrump_35   σ = some o → zt_Ex X 4 202 35 [(0, .ref 163)] [] (zt_M σ) (zo_V o) := by
  intro  σ o  h
  unfold F_M_readsTrump_35 at h
  refine zt_aload_n zy_202 (show q_ins q_k202 35 = some (.aload_n 0, 0, 0) from rfl) (v := 163) rfl ?_
  refine zt_ldc2 zy_202 (show q_ins q_k202 36 = some (.ldc2_w 187, 0, 118940) from rfl) (v := (118940 : Int64)) (by decide) ?_
  obtain ⟨a6, s7, hca6, h⟩ := zt_bdE h
  refine zt_callV (d := 3) zy_202 (show q_ins q_k202 39 = some (.invokevirtual 184, 195, 1) from rfl) zy_195 (by decide) ⟨zq_lt (by decide), by decide⟩ rfl (by simp [Value.category]) (by simp [lg_sl, Value.category]) (zt_rcv zc_163) (zt_dm (by decide) (S_M_passes hca6)) ?_
  obtain ⟨hg, h⟩ := zt_ckE h
  refine zt_if_eq zy_202 (show q_ins q_k202 42 = some (.ifCond .eq 17, 59, 0) from rfl) (hg) (fun hc => ?_) (fun hc => ?_)
  · rw [if_pos hc] at h
    exact zt_wk (zt_cov_cons rfl (zt_cov_nil)) (S_M_readsTrump_59  _ _ h)
  · rw [if_neg hc] at h
    refine zt_aload_n zy_202 (show q_ins q_k202 45 = some (.aload_n 0, 0, 0) from rfl) (v := 163) rfl ?_
    refine zt_getR zy_202 (show q_ins q_k202 46 = some (.getfield 17, 11, 2) from rfl) (r := 165) zk_163_2 ?_
    refine zt_bipush zy_202 (show q_ins q_k202 49 = some (.bipush 6, 0, 0) from rfl) (by decide) ?_
    refine zt_aload_n zy_202 (show q_ins q_k202 51 = some (.aload_n 0, 0, 0) from rfl) (v := 163) rfl ?_
    refine zt_iconst zy_202 (show q_ins q_k202 52 = some (.iconst 0, 0, 0) from rfl) ?_
    refine zt_bipush zy_202 (show q_ins q_k202 53 = some (.bipush 9, 0, 0) from rfl) (by decide) ?_
    obtain ⟨a11, s12, hca11, h⟩ := zt_bdE h
    refine zt_callV (d := 3) zy_202 (show q_ins q_k202 55 = some (.invokevirtual 174, 198, 2) from rfl) zy_198 (by decide) ⟨zq_lt (by decide), by decide⟩ rfl (by simp [Value.category]) (by simp [lg_sl, Value.category]) (zt_rcv zc_163) (zt_dm (by decide) (S_M_number hca11)) ?_
    obtain ⟨s13, hs13, h⟩ := zt_letE h
    refine zt_ast zy_202 (show q_ins q_k202 58 = some (.iastore, 0, 0) from rfl) za_165 (by decide) (by decide) ?_
    rw [← hs13]
    exact zt_wk (zt_cov_cons rfl (zt_cov_nil)) (S_M_readsTrump_59  _ _ h)
theorem S_M_readsTrump {X : q_X}    {σ : zt_S} {o : (Unit × zt_S)} (h : F_M_readsTrump   σ = some o) : zt_Ex X 4 202 0 (lv_args 0 [.ref 163]) [] (zt_M σ) (zo_V o) := by
  unfold F_M_readsTrump at h
  refine zt_aload_n zy_202 (show q_ins q_k202 0 = some (.aload_n 0, 0, 0) from rfl) (v := 163) rfl ?_
  refine zt_getR zy_202 (show q_ins q_k202 1 = some (.getfield 17, 11, 2) from rfl) (r := 165) zk_163_2 ?_
  refine zt_iconst zy_202 (show q_ins q_k202 4 = some (.iconst 4, 0, 0) from rfl) ?_
  refine zt_aload_n zy_202 (show q_ins q_k202 5 = some (.aload_n 0, 0, 0) from rfl) (v := 163) rfl ?_
  refine zt_iconst zy_202 (show q_ins q_k202 6 = some (.iconst 0, 0, 0) from rfl) ?_
  refine zt_iconst zy_202 (show q_ins q_k202 7 = some (.iconst 3, 0, 0) from rfl) ?_
  obtain ⟨a1, s2, hca1, h⟩ := zt_bdE h
  refine zt_callV (d := 3) zy_202 (show q_ins q_k202 8 = some (.invokevirtual 174, 198, 2) from rfl) zy_198 (by decide) ⟨zq_lt (by decide), by decide⟩ rfl (by simp [Value.category]) (by simp [lg_sl, Value.category]) (zt_rcv zc_163) (zt_dm (by decide) (S_M_number hca1)) ?_
  obtain ⟨s3, hs3, h⟩ := zt_letE h
  refine zt_ast zy_202 (show q_ins q_k202 11 = some (.iastore, 0, 0) from rfl) za_165 (by decide) (by decide) ?_
  rw [← hs3]
  refine zt_aload_n zy_202 (show q_ins q_k202 12 = some (.aload_n 0, 0, 0) from rfl) (v := 163) rfl ?_
  refine zt_ldc2 zy_202 (show q_ins q_k202 13 = some (.ldc2_w 182, 0, 146957) from rfl) (v := (146957 : Int64)) (by decide) ?_
  obtain ⟨a4, s5, hca4, h⟩ := zt_bdE h
  refine zt_callV (d := 3) zy_202 (show q_ins q_k202 16 = some (.invokevirtual 184, 195, 1) from rfl) zy_195 (by decide) ⟨zq_lt (by decide), by decide⟩ rfl (by simp [Value.category]) (by simp [lg_sl, Value.category]) (zt_rcv zc_163) (zt_dm (by decide) (S_M_passes hca4)) ?_
  obtain ⟨hg, h⟩ := zt_ckE h
  refine zt_if_eq zy_202 (show q_ins q_k202 19 = some (.ifCond .eq 16, 35, 0) from rfl) (hg) (fun hc => ?_) (fun hc => ?_)
  · rw [if_pos hc] at h
    exact zt_wk (zt_cov_cons rfl (zt_cov_nil)) (S_M_readsTrump_35  _ _ h)
  · rw [if_neg hc] at h
    refine zt_aload_n zy_202 (show q_ins q_k202 22 = some (.aload_n 0, 0, 0) from rfl) (v := 163) rfl ?_
    refine zt_getR zy_202 (show q_ins q_k202 23 = some (.getfield 17, 11, 2) from rfl) (r := 165) zk_163_2 ?_
    refine zt_iconst zy_202 (show q_ins q_k202 26 = some (.iconst 5, 0, 0) from rfl) ?_
    refine zt_aload_n zy_202 (show q_ins q_k202 27 = some (.aload_n 0, 0, 0) from rfl) (v := 163) rfl ?_
    refine zt_iconst zy_202 (show q_ins q_k202 28 = some (.iconst 0, 0, 0) from rfl) ?_
    refine zt_bipush zy_202 (show q_ins q_k202 29 = some (.bipush 30, 0, 0) from rfl) (by decide) ?_
    obtain ⟨a14, s15, hca14, h⟩ := zt_bdE h
    refine zt_callV (d := 3) zy_202 (show q_ins q_k202 31 = some (.invokevirtual 174, 198, 2) from rfl) zy_198 (by decide) ⟨zq_lt (by decide), by decide⟩ rfl (by simp [Value.category]) (by simp [lg_sl, Value.category]) (zt_rcv zc_163) (zt_dm (by decide) (S_M_number hca14)) ?_
    obtain ⟨s16, hs16, h⟩ := zt_letE h
    refine zt_ast zy_202 (show q_ins q_k202 34 = some (.iastore, 0, 0) from rfl) za_165 (by decide) (by decide) ?_
    rw [← hs16]
    exact zt_wk (zt_cov_cons rfl (zt_cov_nil)) (S_M_readsTrump_35  _ _ h)
theorem S_M_readsHead_140 {X : q_X}   : ∀  (σ : zt_S) (o : (Unit × zt_S)), F_M_readsHead_140   σ = some o → zt_Ex X 5 203 140 [(0, .ref 163)] [] (zt_M σ) (zo_V o) := by
  intro  σ o  h
  unfold F_M_readsHead_140 at h
  refine zt_aload_n zy_203 (show q_ins q_k203 140 = some (.aload_n 0, 0, 0) from rfl) (v := 163) rfl ?_
  refine zt_bipush zy_203 (show q_ins q_k203 141 = some (.bipush 59, 0, 0) from rfl) (by decide) ?_
  obtain ⟨a23, s24, hca23, h⟩ := zt_bdE h
  refine zt_callV (d := 4) zy_203 (show q_ins q_k203 143 = some (.invokevirtual 208, 197, 1) from rfl) zy_197 (by decide) ⟨zq_lt (by decide), by decide⟩ rfl (by simp [Value.category]) (by simp [lg_sl, Value.category]) (zt_rcv zc_163) (zt_dm (by decide) (S_M_must hca23)) ?_
  refine zt_aload_n zy_203 (show q_ins q_k203 146 = some (.aload_n 0, 0, 0) from rfl) (v := 163) rfl ?_
  refine zt_getR zy_203 (show q_ins q_k203 147 = some (.getfield 17, 11, 2) from rfl) (r := 165) zk_163_2 ?_
  refine zt_bipush zy_203 (show q_ins q_k203 150 = some (.bipush 9, 0, 0) from rfl) (by decide) ?_
  refine zt_aload_n zy_203 (show q_ins q_k203 152 = some (.aload_n 0, 0, 0) from rfl) (v := 163) rfl ?_
  refine zt_getR zy_203 (show q_ins q_k203 153 = some (.getfield 17, 11, 2) from rfl) (r := 165) zk_163_2 ?_
  refine zt_bipush zy_203 (show q_ins q_k203 156 = some (.bipush 8, 0, 0) from rfl) (by decide) ?_
  refine zt_ald zy_203 (show q_ins q_k203 158 = some (.iaload, 0, 0) from rfl) za_165 (by decide) (by decide) ?_
  obtain ⟨s25, hs25, h⟩ := zt_letE h
  refine zt_ast zy_203 (show q_ins q_k203 159 = some (.iastore, 0, 0) from rfl) za_165 (by decide) (by decide) ?_
  rw [← hs25]
  refine zt_aload_n zy_203 (show q_ins q_k203 160 = some (.aload_n 0, 0, 0) from rfl) (v := 163) rfl ?_
  refine zt_getR zy_203 (show q_ins q_k203 161 = some (.getfield 17, 11, 2) from rfl) (r := 165) zk_163_2 ?_
  obtain ⟨a26, s27, hca26, h⟩ := zt_bdE h
  refine zt_callS (d := 4) zy_203 (show q_ins q_k203 164 = some (.invokestatic 94, 179, 1) from rfl) zy_179 (by decide) ⟨zq_lt (by decide), by decide⟩ rfl (by simp [Value.category]) (by simp [lg_sl, Value.category]) rfl (zt_dm (by decide) (S_M_lights za_165 (by decide) hca26)) ?_
  cases h
  exact zt_ret zy_203 (show q_ins q_k203 167 = some (.return_, 0, 0) from rfl)
theorem S_M_readsHead_116 {X : q_X}   : ∀  (σ : zt_S) (o : (Unit × zt_S)), F_M_readsHead_116   σ = some o → zt_Ex X 5 203 116 [(0, .ref 163)] [] (zt_M σ) (zo_V o) := by
  intro  σ o  h
  unfold F_M_readsHead_116 at h
  refine zt_aload_n zy_203 (show q_ins q_k203 116 = some (.aload_n 0, 0, 0) from rfl) (v := 163) rfl ?_
  refine zt_ldc2 zy_203 (show q_ins q_k203 117 = some (.ldc2_w 205, 0, 377761) from rfl) (v := (377761 : Int64)) (by decide) ?_
  obtain ⟨a21, s22, hca21, h⟩ := zt_bdE h
  refine zt_callV (d := 4) zy_203 (show q_ins q_k203 120 = some (.invokevirtual 184, 195, 1) from rfl) zy_195 (by decide) ⟨zq_lt (by decide), by decide⟩ rfl (by simp [Value.category]) (by simp [lg_sl, Value.category]) (zt_rcv zc_163) (zt_dm (by decide) (S_M_passes hca21)) ?_
  obtain ⟨hg, h⟩ := zt_ckE h
  refine zt_if_eq zy_203 (show q_ins q_k203 123 = some (.ifCond .eq 17, 140, 0) from rfl) (hg) (fun hc => ?_) (fun hc => ?_)
  · rw [if_pos hc] at h
    exact zt_wk (zt_cov_cons rfl (zt_cov_nil)) (S_M_readsHead_140  _ _ h)
  · rw [if_neg hc] at h
    refine zt_aload_n zy_203 (show q_ins q_k203 126 = some (.aload_n 0, 0, 0) from rfl) (v := 163) rfl ?_
    refine zt_getR zy_203 (show q_ins q_k203 127 = some (.getfield 17, 11, 2) from rfl) (r := 165) zk_163_2 ?_
    refine zt_bipush zy_203 (show q_ins q_k203 130 = some (.bipush 15, 0, 0) from rfl) (by decide) ?_
    refine zt_aload_n zy_203 (show q_ins q_k203 132 = some (.aload_n 0, 0, 0) from rfl) (v := 163) rfl ?_
    refine zt_iconst zy_203 (show q_ins q_k203 133 = some (.iconst 0, 0, 0) from rfl) ?_
    refine zt_ldcI zy_203 (show q_ins q_k203 134 = some (.ldc 207, 0, 99999) from rfl) (n := (99999 : Int)) rfl (by decide) ?_
    obtain ⟨a28, s29, hca28, h⟩ := zt_bdE h
    refine zt_callV (d := 4) zy_203 (show q_ins q_k203 136 = some (.invokevirtual 174, 198, 2) from rfl) zy_198 (by decide) ⟨zq_lt (by decide), by decide⟩ rfl (by simp [Value.category]) (by simp [lg_sl, Value.category]) (zt_rcv zc_163) (zt_dm (by decide) (S_M_number hca28)) ?_
    obtain ⟨s30, hs30, h⟩ := zt_letE h
    refine zt_ast zy_203 (show q_ins q_k203 139 = some (.iastore, 0, 0) from rfl) za_165 (by decide) (by decide) ?_
    rw [← hs30]
    exact zt_wk (zt_cov_cons rfl (zt_cov_nil)) (S_M_readsHead_140  _ _ h)
theorem S_M_readsHead_91 {X : q_X}   : ∀ (v2 : Int) (σ : zt_S) (o : (Unit × zt_S)), F_M_readsHead_91  v2 σ = some o → zt_Ex X 5 203 91 [(0, .ref 163), (2, .int (Int32.ofInt v2))] [] (zt_M σ) (zo_V o) := by
  intro v2 σ o  h
  unfold F_M_readsHead_91 at h
  refine zt_aload_n zy_203 (show q_ins q_k203 91 = some (.aload_n 0, 0, 0) from rfl) (v := 163) rfl ?_
  refine zt_ldc2 zy_203 (show q_ins q_k203 92 = some (.ldc2_w 203, 0, 239872) from rfl) (v := (239872 : Int64)) (by decide) ?_
  obtain ⟨a19, s20, hca19, h⟩ := zt_bdE h
  refine zt_callV (d := 4) zy_203 (show q_ins q_k203 95 = some (.invokevirtual 184, 195, 1) from rfl) zy_195 (by decide) ⟨zq_lt (by decide), by decide⟩ rfl (by simp [Value.category]) (by simp [lg_sl, Value.category]) (zt_rcv zc_163) (zt_dm (by decide) (S_M_passes hca19)) ?_
  obtain ⟨hg, h⟩ := zt_ckE h
  refine zt_if_eq zy_203 (show q_ins q_k203 98 = some (.ifCond .eq 18, 116, 0) from rfl) (hg) (fun hc => ?_) (fun hc => ?_)
  · rw [if_pos hc] at h
    exact zt_wk (zt_cov_cons rfl (zt_cov_nil)) (S_M_readsHead_116  _ _ h)
  · rw [if_neg hc] at h
    refine zt_aload_n zy_203 (show q_ins q_k203 101 = some (.aload_n 0, 0, 0) from rfl) (v := 163) rfl ?_
    refine zt_getR zy_203 (show q_ins q_k203 102 = some (.getfield 17, 11, 2) from rfl) (r := 165) zk_163_2 ?_
    refine zt_bipush zy_203 (show q_ins q_k203 105 = some (.bipush 8, 0, 0) from rfl) (by decide) ?_
    refine zt_aload_n zy_203 (show q_ins q_k203 107 = some (.aload_n 0, 0, 0) from rfl) (v := 163) rfl ?_
    refine zt_iconst zy_203 (show q_ins q_k203 108 = some (.iconst 0, 0, 0) from rfl) ?_
    refine zt_iload_n zy_203 (show q_ins q_k203 109 = some (.iload_n 2, 0, 0) from rfl) (v := Int32.ofInt v2) rfl ?_
    refine zt_iconst zy_203 (show q_ins q_k203 110 = some (.iconst 1, 0, 0) from rfl) ?_
    refine zt_isub zy_203 (show q_ins q_k203 111 = some (.isub, 0, 0) from rfl) ?_
    obtain ⟨a31, s32, hca31, h⟩ := zt_bdE h
    refine zt_callV (d := 4) zy_203 (show q_ins q_k203 112 = some (.invokevirtual 174, 198, 2) from rfl) zy_198 (by decide) ⟨zq_lt (by decide), by decide⟩ rfl (by simp [Value.category]) (by simp [lg_sl, Value.category]) (zt_rcv zc_163) (zt_dm (by decide) (S_M_number hca31)) ?_
    obtain ⟨s33, hs33, h⟩ := zt_letE h
    refine zt_ast zy_203 (show q_ins q_k203 115 = some (.iastore, 0, 0) from rfl) za_165 (by decide) (by decide) ?_
    rw [← hs33]
    exact zt_wk (zt_cov_cons rfl (zt_cov_nil)) (S_M_readsHead_116  _ _ h)
theorem S_M_readsHead_77 {X : q_X}   : ∀ (v2 : Int) (σ : zt_S) (o : (Unit × zt_S)), F_M_readsHead_77  v2 σ = some o → zt_Ex X 5 203 77 [(0, .ref 163), (2, .int (Int32.ofInt v2))] [] (zt_M σ) (zo_V o) := by
  intro v2 σ o  h
  unfold F_M_readsHead_77 at h
  refine zt_aload_n zy_203 (show q_ins q_k203 77 = some (.aload_n 0, 0, 0) from rfl) (v := 163) rfl ?_
  refine zt_ldc2 zy_203 (show q_ins q_k203 78 = some (.ldc2_w 198, 0, 10998790) from rfl) (v := (10998790 : Int64)) (by decide) ?_
  obtain ⟨a17, s18, hca17, h⟩ := zt_bdE h
  refine zt_callV (d := 4) zy_203 (show q_ins q_k203 81 = some (.invokevirtual 184, 195, 1) from rfl) zy_195 (by decide) ⟨zq_lt (by decide), by decide⟩ rfl (by simp [Value.category]) (by simp [lg_sl, Value.category]) (zt_rcv zc_163) (zt_dm (by decide) (S_M_passes hca17)) ?_
  obtain ⟨hg, h⟩ := zt_ckE h
  refine zt_if_eq zy_203 (show q_ins q_k203 84 = some (.ifCond .eq 7, 91, 0) from rfl) (hg) (fun hc => ?_) (fun hc => ?_)
  · rw [if_pos hc] at h
    exact zt_wk (zt_cov_cons rfl (zt_cov_cons rfl (zt_cov_nil))) (S_M_readsHead_91  _ _ _ h)
  · rw [if_neg hc] at h
    refine zt_aload_n zy_203 (show q_ins q_k203 87 = some (.aload_n 0, 0, 0) from rfl) (v := 163) rfl ?_
    obtain ⟨a34, s35, hca34, h⟩ := zt_bdE h
    refine zt_callV (d := 4) zy_203 (show q_ins q_k203 88 = some (.invokevirtual 200, 202, 0) from rfl) zy_202 (by decide) ⟨zq_lt (by decide), by decide⟩ rfl (by simp [Value.category]) (by simp [lg_sl, Value.category]) (zt_rcv zc_163) (zt_dm (by decide) (S_M_readsTrump hca34)) ?_
    exact zt_wk (zt_cov_cons rfl (zt_cov_cons rfl (zt_cov_nil))) (S_M_readsHead_91  _ _ _ h)
theorem S_M_readsHead {X : q_X}    {σ : zt_S} {o : (Unit × zt_S)} (h : F_M_readsHead   σ = some o) : zt_Ex X 5 203 0 (lv_args 0 [.ref 163]) [] (zt_M σ) (zo_V o) := by
  unfold F_M_readsHead at h
  refine zt_aload_n zy_203 (show q_ins q_k203 0 = some (.aload_n 0, 0, 0) from rfl) (v := 163) rfl ?_
  refine zt_ldc2 zy_203 (show q_ins q_k203 1 = some (.ldc2_w 191, 0, 48686) from rfl) (v := (48686 : Int64)) (by decide) ?_
  obtain ⟨a1, s2, hca1, h⟩ := zt_bdE h
  refine zt_callV (d := 4) zy_203 (show q_ins q_k203 4 = some (.invokevirtual 184, 195, 1) from rfl) zy_195 (by decide) ⟨zq_lt (by decide), by decide⟩ rfl (by simp [Value.category]) (by simp [lg_sl, Value.category]) (zt_rcv zc_163) (zt_dm (by decide) (S_M_passes hca1)) ?_
  obtain ⟨hg, h⟩ := zt_ckE h
  refine zt_if_ne zy_203 (show q_ins q_k203 7 = some (.ifCond .ne 10, 17, 0) from rfl) (hg) (fun hc => ?_) (fun hc => ?_)
  · rw [if_pos hc] at h
    refine zt_aload_n zy_203 (show q_ins q_k203 10 = some (.aload_n 0, 0, 0) from rfl) (v := 163) rfl ?_
    refine zt_iconst zy_203 (show q_ins q_k203 11 = some (.iconst 1, 0, 0) from rfl) ?_
    obtain ⟨a3, s4, hca3, h⟩ := zt_bdE h
    refine zt_callV (d := 4) zy_203 (show q_ins q_k203 12 = some (.invokevirtual 167, 192, 1) from rfl) zy_192 (by decide) ⟨zq_lt (by decide), by decide⟩ rfl (by simp [Value.category]) (by simp [lg_sl, Value.category]) (zt_rcv zc_163) (zt_dm (by decide) (S_M_wrongs hca3)) ?_
    refine zt_pop zy_203 (show q_ins q_k203 15 = some (.pop, 0, 0) from rfl) rfl ?_
    cases h
    exact zt_ret zy_203 (show q_ins q_k203 16 = some (.return_, 0, 0) from rfl)
  · rw [if_neg hc] at h
    refine zt_aload_n zy_203 (show q_ins q_k203 17 = some (.aload_n 0, 0, 0) from rfl) (v := 163) rfl ?_
    refine zt_iconst zy_203 (show q_ins q_k203 18 = some (.iconst 4, 0, 0) from rfl) ?_
    refine zt_bipush zy_203 (show q_ins q_k203 19 = some (.bipush 13, 0, 0) from rfl) (by decide) ?_
    obtain ⟨a5, s6, hca5, h⟩ := zt_bdE h
    refine zt_callV (d := 4) zy_203 (show q_ins q_k203 21 = some (.invokevirtual 174, 198, 2) from rfl) zy_198 (by decide) ⟨zq_lt (by decide), by decide⟩ rfl (by simp [Value.category]) (by simp [lg_sl, Value.category]) (zt_rcv zc_163) (zt_dm (by decide) (S_M_number hca5)) ?_
    refine zt_istore_n zy_203 (show q_ins q_k203 24 = some (.istore_n 1, 0, 0) from rfl) (by decide) ?_
    refine zt_aload_n zy_203 (show q_ins q_k203 25 = some (.aload_n 0, 0, 0) from rfl) (v := 163) rfl ?_
    refine zt_iconst zy_203 (show q_ins q_k203 26 = some (.iconst 2, 0, 0) from rfl) ?_
    refine zt_iconst zy_203 (show q_ins q_k203 27 = some (.iconst 4, 0, 0) from rfl) ?_
    obtain ⟨a7, s8, hca7, h⟩ := zt_bdE h
    refine zt_callV (d := 4) zy_203 (show q_ins q_k203 28 = some (.invokevirtual 174, 198, 2) from rfl) zy_198 (by decide) ⟨zq_lt (by decide), by decide⟩ rfl (by simp [Value.category]) (by simp [lg_sl, Value.category]) (zt_rcv zc_163) (zt_dm (by decide) (S_M_number hca7)) ?_
    refine zt_istore_n zy_203 (show q_ins q_k203 31 = some (.istore_n 2, 0, 0) from rfl) (by decide) ?_
    refine zt_aload_n zy_203 (show q_ins q_k203 32 = some (.aload_n 0, 0, 0) from rfl) (v := 163) rfl ?_
    refine zt_iconst zy_203 (show q_ins q_k203 33 = some (.iconst 1, 0, 0) from rfl) ?_
    refine zt_bipush zy_203 (show q_ins q_k203 34 = some (.bipush 13, 0, 0) from rfl) (by decide) ?_
    refine zt_iconst zy_203 (show q_ins q_k203 36 = some (.iconst 4, 0, 0) from rfl) ?_
    refine zt_iload_n zy_203 (show q_ins q_k203 37 = some (.iload_n 1, 0, 0) from rfl) (v := Int32.ofInt a5) rfl ?_
    refine zt_imul zy_203 (show q_ins q_k203 38 = some (.imul, 0, 0) from rfl) ?_
    refine zt_iload_n zy_203 (show q_ins q_k203 39 = some (.iload_n 2, 0, 0) from rfl) (v := Int32.ofInt a7) rfl ?_
    obtain ⟨hg, h⟩ := zt_ckE h
    refine zt_idiv zy_203 (show q_ins q_k203 40 = some (.idiv, 0, 0) from rfl) hg.1 hg.2 ?_
    obtain ⟨a9, s10, hca9, h⟩ := zt_bdE h
    refine zt_callS (d := 4) zy_203 (show q_ins q_k203 41 = some (.invokestatic 193, 172, 2) from rfl) zy_172 (by decide) ⟨zq_lt (by decide), by decide⟩ rfl (by simp [Value.category]) (by simp [lg_sl, Value.category]) rfl (zt_dm (by decide) (S_M_lesser hca9)) ?_
    obtain ⟨a11, s12, hca11, h⟩ := zt_bdE h
    refine zt_callV (d := 4) zy_203 (show q_ins q_k203 44 = some (.invokevirtual 174, 198, 2) from rfl) zy_198 (by decide) ⟨zq_lt (by decide), by decide⟩ rfl (by simp [Value.category]) (by simp [lg_sl, Value.category]) (zt_rcv zc_163) (zt_dm (by decide) (S_M_number hca11)) ?_
    refine zt_istore_n zy_203 (show q_ins q_k203 47 = some (.istore_n 3, 0, 0) from rfl) (by decide) ?_
    refine zt_aload_n zy_203 (show q_ins q_k203 48 = some (.aload_n 0, 0, 0) from rfl) (v := 163) rfl ?_
    refine zt_iload_n zy_203 (show q_ins q_k203 49 = some (.iload_n 1, 0, 0) from rfl) (v := Int32.ofInt a5) rfl ?_
    refine zt_iload_n zy_203 (show q_ins q_k203 50 = some (.iload_n 2, 0, 0) from rfl) (v := Int32.ofInt a7) rfl ?_
    refine zt_iload_n zy_203 (show q_ins q_k203 51 = some (.iload_n 3, 0, 0) from rfl) (v := Int32.ofInt a11) rfl ?_
    obtain ⟨a13, s14, hca13, h⟩ := zt_bdE h
    refine zt_callV (d := 4) zy_203 (show q_ins q_k203 52 = some (.invokevirtual 78, 177, 3) from rfl) zy_177 (by decide) ⟨zq_lt (by decide), by decide⟩ rfl (by simp [Value.category]) (by simp [lg_sl, Value.category]) (zt_rcv zc_163) (zt_dm (by decide) (S_M_begins hca13)) ?_
    refine zt_aload_n zy_203 (show q_ins q_k203 55 = some (.aload_n 0, 0, 0) from rfl) (v := 163) rfl ?_
    refine zt_ldc2 zy_203 (show q_ins q_k203 56 = some (.ldc2_w 196, 0, 369932) from rfl) (v := (369932 : Int64)) (by decide) ?_
    obtain ⟨a15, s16, hca15, h⟩ := zt_bdE h
    refine zt_callV (d := 4) zy_203 (show q_ins q_k203 59 = some (.invokevirtual 184, 195, 1) from rfl) zy_195 (by decide) ⟨zq_lt (by decide), by decide⟩ rfl (by simp [Value.category]) (by simp [lg_sl, Value.category]) (zt_rcv zc_163) (zt_dm (by decide) (S_M_passes hca15)) ?_
    obtain ⟨hg, h⟩ := zt_ckE h
    refine zt_if_eq zy_203 (show q_ins q_k203 62 = some (.ifCond .eq 15, 77, 0) from rfl) (hg) (fun hc => ?_) (fun hc => ?_)
    · rw [if_pos hc] at h
      exact zt_wk (zt_cov_cons rfl (zt_cov_cons rfl (zt_cov_nil))) (S_M_readsHead_77  _ _ _ h)
    · rw [if_neg hc] at h
      refine zt_aload_n zy_203 (show q_ins q_k203 65 = some (.aload_n 0, 0, 0) from rfl) (v := 163) rfl ?_
      refine zt_getR zy_203 (show q_ins q_k203 66 = some (.getfield 17, 11, 2) from rfl) (r := 165) zk_163_2 ?_
      refine zt_iconst zy_203 (show q_ins q_k203 69 = some (.iconst 3, 0, 0) from rfl) ?_
      refine zt_aload_n zy_203 (show q_ins q_k203 70 = some (.aload_n 0, 0, 0) from rfl) (v := 163) rfl ?_
      refine zt_iconst zy_203 (show q_ins q_k203 71 = some (.iconst 0, 0, 0) from rfl) ?_
      refine zt_iconst zy_203 (show q_ins q_k203 72 = some (.iconst 3, 0, 0) from rfl) ?_
      obtain ⟨a36, s37, hca36, h⟩ := zt_bdE h
      refine zt_callV (d := 4) zy_203 (show q_ins q_k203 73 = some (.invokevirtual 174, 198, 2) from rfl) zy_198 (by decide) ⟨zq_lt (by decide), by decide⟩ rfl (by simp [Value.category]) (by simp [lg_sl, Value.category]) (zt_rcv zc_163) (zt_dm (by decide) (S_M_number hca36)) ?_
      obtain ⟨s38, hs38, h⟩ := zt_letE h
      refine zt_ast zy_203 (show q_ins q_k203 76 = some (.iastore, 0, 0) from rfl) za_165 (by decide) (by decide) ?_
      rw [← hs38]
      exact zt_wk (zt_cov_cons rfl (zt_cov_cons rfl (zt_cov_nil))) (S_M_readsHead_77  _ _ _ h)
theorem S_M_completes_90 {X : q_X}   {r23 : Int → Int → zt_S → Option (Unit × zt_S)} (hr23 : ∀ (v1 : Int) (v2 : Int) (σ : zt_S) (o : (Unit × zt_S)), r23 v1 v2 σ = some o → zt_Ex X 1 204 23 [(0, .ref 163), (1, .int (Int32.ofInt v1)), (2, .int (Int32.ofInt v2))] [] (zt_M σ) (zo_V o)) {r50 : Int → Int → Int → zt_S → Option (Unit × zt_S)} (hr50 : ∀ (v1 : Int) (v2 : Int) (v3 : Int) (σ : zt_S) (o : (Unit × zt_S)), r50 v1 v2 v3 σ = some o → zt_Ex X 1 204 50 [(0, .ref 163), (1, .int (Int32.ofInt v1)), (2, .int (Int32.ofInt v2)), (3, .int (Int32.ofInt v3))] [] (zt_M σ) (zo_V o)) : ∀ (v1 : Int) (v2 : Int) (v3 : Int) (σ : zt_S) (o : (Unit × zt_S)), F_M_completes_90  r23 r50 v1 v2 v3 σ = some o → zt_Ex X 1 204 90 [(0, .ref 163), (1, .int (Int32.ofInt v1)), (2, .int (Int32.ofInt v2)), (3, .int (Int32.ofInt v3))] [] (zt_M σ) (zo_V o) := by
  intro v1 v2 v3 σ o  h
  unfold F_M_completes_90 at h
  refine zt_iinc zy_204 (show q_ins q_k204 90 = some (.iinc 1 1, 0, 0) from rfl) (v := v1) (by decide) rfl ?_
  refine zt_goto zy_204 (show q_ins q_k204 93 = some (.goto (-43), 50, 0) from rfl) ?_
  exact zt_wk (zt_cov_cons rfl (zt_cov_cons rfl (zt_cov_cons rfl (zt_cov_cons rfl (zt_cov_nil))))) (hr50 _ _ _ _ _ h)
theorem S_M_completes_50 {X : q_X}   {r23 : Int → Int → zt_S → Option (Unit × zt_S)} (hr23 : ∀ (v1 : Int) (v2 : Int) (σ : zt_S) (o : (Unit × zt_S)), r23 v1 v2 σ = some o → zt_Ex X 1 204 23 [(0, .ref 163), (1, .int (Int32.ofInt v1)), (2, .int (Int32.ofInt v2))] [] (zt_M σ) (zo_V o)) : ∀ (n : Nat) (v1 : Int) (v2 : Int) (v3 : Int) (σ : zt_S) (o : (Unit × zt_S)), F_M_completes_50  r23 n v1 v2 v3 σ = some o → zt_Ex X 1 204 50 [(0, .ref 163), (1, .int (Int32.ofInt v1)), (2, .int (Int32.ofInt v2)), (3, .int (Int32.ofInt v3))] [] (zt_M σ) (zo_V o) := by
  intro n
  induction n with
  | zero => intro v1 v2 v3 σ o  h; cases h
  | succ n ih =>
  intro v1 v2 v3 σ o  h
  rw [F_M_completes_50] at h
  refine zt_iload_n zy_204 (show q_ins q_k204 50 = some (.iload_n 3, 0, 0) from rfl) (v := Int32.ofInt v3) rfl ?_
  obtain ⟨hg, h⟩ := zt_ckE h
  refine zt_if_le zy_204 (show q_ins q_k204 51 = some (.ifCond .le 45, 96, 0) from rfl) (hg) (fun hc => ?_) (fun hc => ?_)
  · rw [if_pos hc] at h
    refine zt_aload_n zy_204 (show q_ins q_k204 54 = some (.aload_n 0, 0, 0) from rfl) (v := 163) rfl ?_
    refine zt_getR zy_204 (show q_ins q_k204 55 = some (.getfield 17, 11, 2) from rfl) (r := 165) zk_163_2 ?_
    refine zt_bipush zy_204 (show q_ins q_k204 58 = some (.bipush 40, 0, 0) from rfl) (by decide) ?_
    refine zt_aload_n zy_204 (show q_ins q_k204 60 = some (.aload_n 0, 0, 0) from rfl) (v := 163) rfl ?_
    refine zt_getR zy_204 (show q_ins q_k204 61 = some (.getfield 26, 11, 7) from rfl) (r := 168) zk_163_7 ?_
    refine zt_iload_n zy_204 (show q_ins q_k204 64 = some (.iload_n 1, 0, 0) from rfl) (v := Int32.ofInt v1) rfl ?_
    obtain ⟨hg, h⟩ := zt_ckE h
    refine zt_ald zy_204 (show q_ins q_k204 65 = some (.iaload, 0, 0) from rfl) za_168 (by decide) hg ?_
    refine zt_iadd zy_204 (show q_ins q_k204 66 = some (.iadd, 0, 0) from rfl) ?_
    obtain ⟨hg, h⟩ := zt_ckE h
    refine zt_ald zy_204 (show q_ins q_k204 67 = some (.iaload, 0, 0) from rfl) za_165 (by decide) hg ?_
    refine zt_iconst zy_204 (show q_ins q_k204 68 = some (.iconst (-1), 0, 0) from rfl) ?_
    obtain ⟨hg, h⟩ := zt_ckE h
    refine zt_icmp_ne zy_204 (show q_ins q_k204 69 = some (.if_icmp .ne 21, 90, 0) from rfl) (⟨hg, by decide⟩) (fun hc => ?_) (fun hc => ?_)
    · rw [if_pos hc] at h
      refine zt_aload_n zy_204 (show q_ins q_k204 72 = some (.aload_n 0, 0, 0) from rfl) (v := 163) rfl ?_
      refine zt_getR zy_204 (show q_ins q_k204 73 = some (.getfield 17, 11, 2) from rfl) (r := 165) zk_163_2 ?_
      refine zt_bipush zy_204 (show q_ins q_k204 76 = some (.bipush 40, 0, 0) from rfl) (by decide) ?_
      refine zt_aload_n zy_204 (show q_ins q_k204 78 = some (.aload_n 0, 0, 0) from rfl) (v := 163) rfl ?_
      refine zt_getR zy_204 (show q_ins q_k204 79 = some (.getfield 26, 11, 7) from rfl) (r := 168) zk_163_7 ?_
      refine zt_iload_n zy_204 (show q_ins q_k204 82 = some (.iload_n 1, 0, 0) from rfl) (v := Int32.ofInt v1) rfl ?_
      obtain ⟨hg, h⟩ := zt_ckE h
      refine zt_ald zy_204 (show q_ins q_k204 83 = some (.iaload, 0, 0) from rfl) za_168 (by decide) hg ?_
      refine zt_iadd zy_204 (show q_ins q_k204 84 = some (.iadd, 0, 0) from rfl) ?_
      refine zt_iload_n zy_204 (show q_ins q_k204 85 = some (.iload_n 2, 0, 0) from rfl) (v := Int32.ofInt v2) rfl ?_
      obtain ⟨hg, h⟩ := zt_ckE h
      obtain ⟨s5, hs5, h⟩ := zt_letE h
      refine zt_ast zy_204 (show q_ins q_k204 86 = some (.iastore, 0, 0) from rfl) za_165 (by decide) hg ?_
      rw [← hs5]
      refine zt_iinc zy_204 (show q_ins q_k204 87 = some (.iinc 3 (-1), 0, 0) from rfl) (v := v3) (by decide) rfl ?_
      exact zt_wk (zt_cov_cons rfl (zt_cov_cons rfl (zt_cov_cons rfl (zt_cov_cons rfl (zt_cov_nil))))) (S_M_completes_90  hr23 ih _ _ _ _ _ h)
    · rw [if_neg hc] at h
      exact zt_wk (zt_cov_cons rfl (zt_cov_cons rfl (zt_cov_cons rfl (zt_cov_cons rfl (zt_cov_nil))))) (S_M_completes_90  hr23 ih _ _ _ _ _ h)
  · rw [if_neg hc] at h
    refine zt_iinc zy_204 (show q_ins q_k204 96 = some (.iinc 2 1, 0, 0) from rfl) (v := v2) (by decide) rfl ?_
    refine zt_goto zy_204 (show q_ins q_k204 99 = some (.goto (-76), 23, 0) from rfl) ?_
    exact zt_wk (zt_cov_cons rfl (zt_cov_cons rfl (zt_cov_cons rfl (zt_cov_nil)))) (hr23 _ _ _ _ h)
theorem S_M_completes_23 {X : q_X}   : ∀ (n : Nat) (v1 : Int) (v2 : Int) (σ : zt_S) (o : (Unit × zt_S)), F_M_completes_23  n v1 v2 σ = some o → zt_Ex X 1 204 23 [(0, .ref 163), (1, .int (Int32.ofInt v1)), (2, .int (Int32.ofInt v2))] [] (zt_M σ) (zo_V o) := by
  intro n
  induction n with
  | zero => intro v1 v2 σ o  h; cases h
  | succ n ih =>
  intro v1 v2 σ o  h
  rw [F_M_completes_23] at h
  refine zt_iload_n zy_204 (show q_ins q_k204 23 = some (.iload_n 2, 0, 0) from rfl) (v := Int32.ofInt v2) rfl ?_
  refine zt_aload_n zy_204 (show q_ins q_k204 24 = some (.aload_n 0, 0, 0) from rfl) (v := 163) rfl ?_
  refine zt_getR zy_204 (show q_ins q_k204 25 = some (.getfield 17, 11, 2) from rfl) (r := 165) zk_163_2 ?_
  refine zt_iconst zy_204 (show q_ins q_k204 28 = some (.iconst 1, 0, 0) from rfl) ?_
  refine zt_ald zy_204 (show q_ins q_k204 29 = some (.iaload, 0, 0) from rfl) za_165 (by decide) (by decide) ?_
  obtain ⟨hg, h⟩ := zt_ckE h
  refine zt_icmp_ge zy_204 (show q_ins q_k204 30 = some (.if_icmp .ge 72, 102, 0) from rfl) (⟨hg.1, hg.2⟩) (fun hc => ?_) (fun hc => ?_)
  · rw [if_pos hc] at h
    refine zt_aload_n zy_204 (show q_ins q_k204 33 = some (.aload_n 0, 0, 0) from rfl) (v := 163) rfl ?_
    refine zt_getR zy_204 (show q_ins q_k204 34 = some (.getfield 17, 11, 2) from rfl) (r := 165) zk_163_2 ?_
    refine zt_iconst zy_204 (show q_ins q_k204 37 = some (.iconst 2, 0, 0) from rfl) ?_
    refine zt_ald zy_204 (show q_ins q_k204 38 = some (.iaload, 0, 0) from rfl) za_165 (by decide) (by decide) ?_
    refine zt_aload_n zy_204 (show q_ins q_k204 39 = some (.aload_n 0, 0, 0) from rfl) (v := 163) rfl ?_
    refine zt_aload_n zy_204 (show q_ins q_k204 40 = some (.aload_n 0, 0, 0) from rfl) (v := 163) rfl ?_
    refine zt_getR zy_204 (show q_ins q_k204 41 = some (.getfield 17, 11, 2) from rfl) (r := 165) zk_163_2 ?_
    refine zt_iload_n zy_204 (show q_ins q_k204 44 = some (.iload_n 2, 0, 0) from rfl) (v := Int32.ofInt v2) rfl ?_
    obtain ⟨a3, s4, hca3, h⟩ := zt_bdE h
    refine zt_callV (d := 0) zy_204 (show q_ins q_k204 45 = some (.invokevirtual 178, 199, 2) from rfl) zy_199 (by decide) ⟨zq_lt (by decide), by decide⟩ rfl (by simp [Value.category]) (by simp [lg_sl, Value.category]) (zt_rcv zc_163) (zt_dm (by decide) (S_M_heldBy za_165 (by decide) hca3)) ?_
    refine zt_isub zy_204 (show q_ins q_k204 48 = some (.isub, 0, 0) from rfl) ?_
    refine zt_istore_n zy_204 (show q_ins q_k204 49 = some (.istore_n 3, 0, 0) from rfl) (by decide) ?_
    exact zt_wk (zt_cov_cons rfl (zt_cov_cons rfl (zt_cov_cons rfl (zt_cov_cons rfl (zt_cov_nil))))) (S_M_completes_50  ih _ _ _ _ _ _ h)
  · rw [if_neg hc] at h
    cases h
    exact zt_ret zy_204 (show q_ins q_k204 102 = some (.return_, 0, 0) from rfl)
theorem S_M_completes {X : q_X}    {σ : zt_S} {o : (Unit × zt_S)} (h : F_M_completes   σ = some o) : zt_Ex X 1 204 0 (lv_args 0 [.ref 163]) [] (zt_M σ) (zo_V o) := by
  unfold F_M_completes at h
  refine zt_aload_n zy_204 (show q_ins q_k204 0 = some (.aload_n 0, 0, 0) from rfl) (v := 163) rfl ?_
  refine zt_iconst zy_204 (show q_ins q_k204 1 = some (.iconst 4, 0, 0) from rfl) ?_
  refine zt_aload_n zy_204 (show q_ins q_k204 2 = some (.aload_n 0, 0, 0) from rfl) (v := 163) rfl ?_
  refine zt_getR zy_204 (show q_ins q_k204 3 = some (.getfield 17, 11, 2) from rfl) (r := 165) zk_163_2 ?_
  refine zt_iconst zy_204 (show q_ins q_k204 6 = some (.iconst 0, 0, 0) from rfl) ?_
  refine zt_ald zy_204 (show q_ins q_k204 7 = some (.iaload, 0, 0) from rfl) za_165 (by decide) (by decide) ?_
  refine zt_imul zy_204 (show q_ins q_k204 8 = some (.imul, 0, 0) from rfl) ?_
  refine zt_aload_n zy_204 (show q_ins q_k204 9 = some (.aload_n 0, 0, 0) from rfl) (v := 163) rfl ?_
  refine zt_getR zy_204 (show q_ins q_k204 10 = some (.getfield 17, 11, 2) from rfl) (r := 165) zk_163_2 ?_
  refine zt_bipush zy_204 (show q_ins q_k204 13 = some (.bipush 15, 0, 0) from rfl) (by decide) ?_
  refine zt_ald zy_204 (show q_ins q_k204 15 = some (.iaload, 0, 0) from rfl) za_165 (by decide) (by decide) ?_
  obtain ⟨a1, s2, hca1, h⟩ := zt_bdE h
  refine zt_callV (d := 0) zy_204 (show q_ins q_k204 16 = some (.invokevirtual 98, 180, 2) from rfl) zy_180 (by decide) ⟨zq_lt (by decide), by decide⟩ rfl (by simp [Value.category]) (by simp [lg_sl, Value.category]) (zt_rcv zc_163) (zt_dm (by decide) (S_M_piles hca1)) ?_
  refine zt_iconst zy_204 (show q_ins q_k204 19 = some (.iconst 0, 0, 0) from rfl) ?_
  refine zt_istore_n zy_204 (show q_ins q_k204 20 = some (.istore_n 1, 0, 0) from rfl) (by decide) ?_
  refine zt_iconst zy_204 (show q_ins q_k204 21 = some (.iconst 0, 0, 0) from rfl) ?_
  refine zt_istore_n zy_204 (show q_ins q_k204 22 = some (.istore_n 2, 0, 0) from rfl) (by decide) ?_
  exact zt_wk (zt_cov_cons rfl (zt_cov_cons rfl (zt_cov_cons rfl (zt_cov_nil)))) (S_M_completes_23  _ _ _ _ _ h)
theorem S_M_readsAll_105 {X : q_X}   : ∀  (σ : zt_S) (o : (Unit × zt_S)), F_M_readsAll_105   σ = some o → zt_Ex X 6 205 105 [] [] (zt_M σ) (zo_V o) := by
  intro  σ o  h
  unfold F_M_readsAll_105 at h
  cases h
  exact zt_ret zy_205 (show q_ins q_k205 105 = some (.return_, 0, 0) from rfl)
theorem S_M_readsAll_71 {X : q_X}   : ∀ (v1 : Int) (σ : zt_S) (o : (Unit × zt_S)), F_M_readsAll_71  v1 σ = some o → zt_Ex X 6 205 71 [(0, .ref 163), (1, .int (Int32.ofInt v1))] [] (zt_M σ) (zo_V o) := by
  intro v1 σ o  h
  unfold F_M_readsAll_71 at h
  refine zt_aload_n zy_205 (show q_ins q_k205 71 = some (.aload_n 0, 0, 0) from rfl) (v := 163) rfl ?_
  obtain ⟨a5, s6, hca5, h⟩ := zt_bdE h
  refine zt_callV (d := 5) zy_205 (show q_ins q_k205 72 = some (.invokevirtual 156, 193, 0) from rfl) zy_193 (by decide) ⟨zq_lt (by decide), by decide⟩ rfl (by simp [Value.category]) (by simp [lg_sl, Value.category]) (zt_rcv zc_163) (zt_dm (by decide) (S_M_isGood hca5)) ?_
  obtain ⟨hg, h⟩ := zt_ckE h
  refine zt_if_ne zy_205 (show q_ins q_k205 75 = some (.ifCond .ne 4, 79, 0) from rfl) (hg) (fun hc => ?_) (fun hc => ?_)
  · rw [if_pos hc] at h
    cases h
    exact zt_ret zy_205 (show q_ins q_k205 78 = some (.return_, 0, 0) from rfl)
  · rw [if_neg hc] at h
    refine zt_iload_n zy_205 (show q_ins q_k205 79 = some (.iload_n 1, 0, 0) from rfl) (v := Int32.ofInt v1) rfl ?_
    obtain ⟨hg, h⟩ := zt_ckE h
    refine zt_if_eq zy_205 (show q_ins q_k205 80 = some (.ifCond .eq 10, 90, 0) from rfl) (hg) (fun hc => ?_) (fun hc => ?_)
    · rw [if_pos hc] at h
      refine zt_aload_n zy_205 (show q_ins q_k205 90 = some (.aload_n 0, 0, 0) from rfl) (v := 163) rfl ?_
      refine zt_aload_n zy_205 (show q_ins q_k205 91 = some (.aload_n 0, 0, 0) from rfl) (v := 163) rfl ?_
      refine zt_getR zy_205 (show q_ins q_k205 92 = some (.getfield 17, 11, 2) from rfl) (r := 165) zk_163_2 ?_
      refine zt_aload_n zy_205 (show q_ins q_k205 95 = some (.aload_n 0, 0, 0) from rfl) (v := 163) rfl ?_
      refine zt_getR zy_205 (show q_ins q_k205 96 = some (.getfield 17, 11, 2) from rfl) (r := 165) zk_163_2 ?_
      refine zt_bipush zy_205 (show q_ins q_k205 99 = some (.bipush 15, 0, 0) from rfl) (by decide) ?_
      refine zt_ald zy_205 (show q_ins q_k205 101 = some (.iaload, 0, 0) from rfl) za_165 (by decide) (by decide) ?_
      obtain ⟨a7, s8, hca7, h⟩ := zt_bdE h
      refine zt_callV (d := 5) zy_205 (show q_ins q_k205 102 = some (.invokevirtual 82, 181, 2) from rfl) zy_181 (by decide) ⟨zq_lt (by decide), by decide⟩ rfl (by simp [Value.category]) (by simp [lg_sl, Value.category]) (zt_rcv zc_163) (zt_dm (by decide) (S_M_deals za_165 (by decide) hca7)) ?_
      exact zt_wk (zt_cov_nil) (S_M_readsAll_105  _ _ h)
    · rw [if_neg hc] at h
      refine zt_aload_n zy_205 (show q_ins q_k205 83 = some (.aload_n 0, 0, 0) from rfl) (v := 163) rfl ?_
      obtain ⟨a9, s10, hca9, h⟩ := zt_bdE h
      refine zt_callV (d := 5) zy_205 (show q_ins q_k205 84 = some (.invokevirtual 224, 204, 0) from rfl) zy_204 (by decide) ⟨zq_lt (by decide), by decide⟩ rfl (by simp [Value.category]) (by simp [lg_sl, Value.category]) (zt_rcv zc_163) (zt_dm (by decide) (S_M_completes hca9)) ?_
      refine zt_goto zy_205 (show q_ins q_k205 87 = some (.goto 18, 105, 0) from rfl) ?_
      exact zt_wk (zt_cov_nil) (S_M_readsAll_105  _ _ h)
theorem S_M_readsAll_62 {X : q_X}   {r6 : Int → zt_S → Option (Unit × zt_S)} (hr6 : ∀ (v1 : Int) (σ : zt_S) (o : (Unit × zt_S)), r6 v1 σ = some o → zt_Ex X 6 205 6 [(0, .ref 163), (1, .int (Int32.ofInt v1))] [] (zt_M σ) (zo_V o)) : ∀ (v1 : Int) (σ : zt_S) (o : (Unit × zt_S)), F_M_readsAll_62  r6 v1 σ = some o → zt_Ex X 6 205 62 [(0, .ref 163), (1, .int (Int32.ofInt v1))] [] (zt_M σ) (zo_V o) := by
  intro v1 σ o  h
  unfold F_M_readsAll_62 at h
  refine zt_aload_n zy_205 (show q_ins q_k205 62 = some (.aload_n 0, 0, 0) from rfl) (v := 163) rfl ?_
  refine zt_bipush zy_205 (show q_ins q_k205 63 = some (.bipush 59, 0, 0) from rfl) (by decide) ?_
  obtain ⟨a17, s18, hca17, h⟩ := zt_bdE h
  refine zt_callV (d := 5) zy_205 (show q_ins q_k205 65 = some (.invokevirtual 208, 197, 1) from rfl) zy_197 (by decide) ⟨zq_lt (by decide), by decide⟩ rfl (by simp [Value.category]) (by simp [lg_sl, Value.category]) (zt_rcv zc_163) (zt_dm (by decide) (S_M_must hca17)) ?_
  refine zt_goto zy_205 (show q_ins q_k205 68 = some (.goto (-62), 6, 0) from rfl) ?_
  exact zt_wk (zt_cov_cons rfl (zt_cov_cons rfl (zt_cov_nil))) (hr6 _ _ _ h)
theorem S_M_readsAll_6 {X : q_X}   : ∀ (n : Nat) (v1 : Int) (σ : zt_S) (o : (Unit × zt_S)), F_M_readsAll_6  n v1 σ = some o → zt_Ex X 6 205 6 [(0, .ref 163), (1, .int (Int32.ofInt v1))] [] (zt_M σ) (zo_V o) := by
  intro n
  induction n with
  | zero => intro v1 σ o  h; cases h
  | succ n ih =>
  intro v1 σ o  h
  rw [F_M_readsAll_6] at h
  refine zt_aload_n zy_205 (show q_ins q_k205 6 = some (.aload_n 0, 0, 0) from rfl) (v := 163) rfl ?_
  obtain ⟨a3, s4, hca3, h⟩ := zt_bdE h
  refine zt_callV (d := 5) zy_205 (show q_ins q_k205 7 = some (.invokevirtual 156, 193, 0) from rfl) zy_193 (by decide) ⟨zq_lt (by decide), by decide⟩ rfl (by simp [Value.category]) (by simp [lg_sl, Value.category]) (zt_rcv zc_163) (zt_dm (by decide) (S_M_isGood hca3)) ?_
  obtain ⟨hg, h⟩ := zt_ckE h
  refine zt_if_eq zy_205 (show q_ins q_k205 10 = some (.ifCond .eq 61, 71, 0) from rfl) (hg) (fun hc => ?_) (fun hc => ?_)
  · rw [if_pos hc] at h
    exact zt_wk (zt_cov_cons rfl (zt_cov_cons rfl (zt_cov_nil))) (S_M_readsAll_71  _ _ _ h)
  · rw [if_neg hc] at h
    refine zt_aload_n zy_205 (show q_ins q_k205 13 = some (.aload_n 0, 0, 0) from rfl) (v := 163) rfl ?_
    refine zt_getI zy_205 (show q_ins q_k205 14 = some (.getfield 134, 11, 13) from rfl) (j := 13) zk_163_13 rfl ?_
    obtain ⟨hg, h⟩ := zt_ckE h
    refine zt_if_eq zy_205 (show q_ins q_k205 17 = some (.ifCond .eq 54, 71, 0) from rfl) (hg) (fun hc => ?_) (fun hc => ?_)
    · rw [if_pos hc] at h
      exact zt_wk (zt_cov_cons rfl (zt_cov_cons rfl (zt_cov_nil))) (S_M_readsAll_71  _ _ _ h)
    · rw [if_neg hc] at h
      refine zt_aload_n zy_205 (show q_ins q_k205 20 = some (.aload_n 0, 0, 0) from rfl) (v := 163) rfl ?_
      refine zt_ldc2 zy_205 (show q_ins q_k205 21 = some (.ldc2_w 214, 0, 158575) from rfl) (v := (158575 : Int64)) (by decide) ?_
      obtain ⟨a11, s12, hca11, h⟩ := zt_bdE h
      refine zt_callV (d := 5) zy_205 (show q_ins q_k205 24 = some (.invokevirtual 184, 195, 1) from rfl) zy_195 (by decide) ⟨zq_lt (by decide), by decide⟩ rfl (by simp [Value.category]) (by simp [lg_sl, Value.category]) (zt_rcv zc_163) (zt_dm (by decide) (S_M_passes hca11)) ?_
      obtain ⟨hg, h⟩ := zt_ckE h
      refine zt_if_eq zy_205 (show q_ins q_k205 27 = some (.ifCond .eq 12, 39, 0) from rfl) (hg) (fun hc => ?_) (fun hc => ?_)
      · rw [if_pos hc] at h
        refine zt_aload_n zy_205 (show q_ins q_k205 39 = some (.aload_n 0, 0, 0) from rfl) (v := 163) rfl ?_
        refine zt_ldc2 zy_205 (show q_ins q_k205 40 = some (.ldc2_w 219, 0, 397641) from rfl) (v := (397641 : Int64)) (by decide) ?_
        obtain ⟨a13, s14, hca13, h⟩ := zt_bdE h
        refine zt_callV (d := 5) zy_205 (show q_ins q_k205 43 = some (.invokevirtual 184, 195, 1) from rfl) zy_195 (by decide) ⟨zq_lt (by decide), by decide⟩ rfl (by simp [Value.category]) (by simp [lg_sl, Value.category]) (zt_rcv zc_163) (zt_dm (by decide) (S_M_passes hca13)) ?_
        obtain ⟨hg, h⟩ := zt_ckE h
        refine zt_if_eq zy_205 (show q_ins q_k205 46 = some (.ifCond .eq 10, 56, 0) from rfl) (hg) (fun hc => ?_) (fun hc => ?_)
        · rw [if_pos hc] at h
          refine zt_aload_n zy_205 (show q_ins q_k205 56 = some (.aload_n 0, 0, 0) from rfl) (v := 163) rfl ?_
          refine zt_iconst zy_205 (show q_ins q_k205 57 = some (.iconst 1, 0, 0) from rfl) ?_
          obtain ⟨a15, s16, hca15, h⟩ := zt_bdE h
          refine zt_callV (d := 5) zy_205 (show q_ins q_k205 58 = some (.invokevirtual 167, 192, 1) from rfl) zy_192 (by decide) ⟨zq_lt (by decide), by decide⟩ rfl (by simp [Value.category]) (by simp [lg_sl, Value.category]) (zt_rcv zc_163) (zt_dm (by decide) (S_M_wrongs hca15)) ?_
          refine zt_pop zy_205 (show q_ins q_k205 61 = some (.pop, 0, 0) from rfl) rfl ?_
          exact zt_wk (zt_cov_cons rfl (zt_cov_cons rfl (zt_cov_nil))) (S_M_readsAll_62  ih _ _ _ h)
        · rw [if_neg hc] at h
          refine zt_aload_n zy_205 (show q_ins q_k205 49 = some (.aload_n 0, 0, 0) from rfl) (v := 163) rfl ?_
          obtain ⟨a19, s20, hca19, h⟩ := zt_bdE h
          refine zt_callV (d := 5) zy_205 (show q_ins q_k205 50 = some (.invokevirtual 221, 201, 0) from rfl) zy_201 (by decide) ⟨zq_lt (by decide), by decide⟩ rfl (by simp [Value.category]) (by simp [lg_sl, Value.category]) (zt_rcv zc_163) (zt_dm (by decide) (S_M_readsTell hca19)) ?_
          refine zt_goto zy_205 (show q_ins q_k205 53 = some (.goto 9, 62, 0) from rfl) ?_
          exact zt_wk (zt_cov_cons rfl (zt_cov_cons rfl (zt_cov_nil))) (S_M_readsAll_62  ih _ _ _ h)
      · rw [if_neg hc] at h
        refine zt_iconst zy_205 (show q_ins q_k205 30 = some (.iconst 1, 0, 0) from rfl) ?_
        refine zt_istore_n zy_205 (show q_ins q_k205 31 = some (.istore_n 1, 0, 0) from rfl) (by decide) ?_
        refine zt_aload_n zy_205 (show q_ins q_k205 32 = some (.aload_n 0, 0, 0) from rfl) (v := 163) rfl ?_
        obtain ⟨a21, s22, hca21, h⟩ := zt_bdE h
        refine zt_callV (d := 5) zy_205 (show q_ins q_k205 33 = some (.invokevirtual 216, 200, 0) from rfl) zy_200 (by decide) ⟨zq_lt (by decide), by decide⟩ rfl (by simp [Value.category]) (by simp [lg_sl, Value.category]) (zt_rcv zc_163) (zt_dm (by decide) (S_M_readsHand hca21)) ?_
        refine zt_goto zy_205 (show q_ins q_k205 36 = some (.goto 26, 62, 0) from rfl) ?_
        exact zt_wk (zt_cov_cons rfl (zt_cov_cons rfl (zt_cov_nil))) (S_M_readsAll_62  ih _ _ _ h)
theorem S_M_readsAll {X : q_X}    {σ : zt_S} {o : (Unit × zt_S)} (h : F_M_readsAll   σ = some o) : zt_Ex X 6 205 0 (lv_args 0 [.ref 163]) [] (zt_M σ) (zo_V o) := by
  unfold F_M_readsAll at h
  refine zt_aload_n zy_205 (show q_ins q_k205 0 = some (.aload_n 0, 0, 0) from rfl) (v := 163) rfl ?_
  obtain ⟨a1, s2, hca1, h⟩ := zt_bdE h
  refine zt_callV (d := 5) zy_205 (show q_ins q_k205 1 = some (.invokevirtual 211, 203, 0) from rfl) zy_203 (by decide) ⟨zq_lt (by decide), by decide⟩ rfl (by simp [Value.category]) (by simp [lg_sl, Value.category]) (zt_rcv zc_163) (zt_dm (by decide) (S_M_readsHead hca1)) ?_
  refine zt_iconst zy_205 (show q_ins q_k205 4 = some (.iconst 0, 0, 0) from rfl) ?_
  refine zt_istore_n zy_205 (show q_ins q_k205 5 = some (.istore_n 1, 0, 0) from rfl) (by decide) ?_
  exact zt_wk (zt_cov_cons rfl (zt_cov_cons rfl (zt_cov_nil))) (S_M_readsAll_6  _ _ _ _ h)
theorem S_M_load {X : q_X}   {v1 : Int} {σ : zt_S} {o : (Int × zt_S)} (h : F_M_load  v1 σ = some o) : zt_Ex X 7 206 0 (lv_args 0 [.ref 163, .int (Int32.ofInt v1)]) [] (zt_M σ) (zo_I o) := by
  unfold F_M_load at h
  refine zt_aload_n zy_206 (show q_ins q_k206 0 = some (.aload_n 0, 0, 0) from rfl) (v := 163) rfl ?_
  refine zt_iconst zy_206 (show q_ins q_k206 1 = some (.iconst 0, 0, 0) from rfl) ?_
  obtain ⟨s1, hs1, h⟩ := zt_letE h
  refine zt_putI zy_206 (show q_ins q_k206 2 = some (.putfield 1, 11, 0) from rfl) (j := 0) zk_163_0 rfl rfl rfl ?_
  rw [← hs1]
  refine zt_aload_n zy_206 (show q_ins q_k206 5 = some (.aload_n 0, 0, 0) from rfl) (v := 163) rfl ?_
  refine zt_iload_n zy_206 (show q_ins q_k206 6 = some (.iload_n 1, 0, 0) from rfl) (v := Int32.ofInt v1) rfl ?_
  refine zt_i2l zy_206 (show q_ins q_k206 7 = some (.i2l, 0, 0) from rfl) ?_
  refine zt_lconst zy_206 (show q_ins q_k206 8 = some (.lconst 0, 0, 0) from rfl) (v := (0 : Int64)) (by decide) ?_
  refine zt_aload_n zy_206 (show q_ins q_k206 9 = some (.aload_n 0, 0, 0) from rfl) (v := 163) rfl ?_
  refine zt_getI zy_206 (show q_ins q_k206 10 = some (.getfield 102, 11, 9) from rfl) (j := 9) zk_163_9 rfl ?_
  refine zt_i2l zy_206 (show q_ins q_k206 13 = some (.i2l, 0, 0) from rfl) ?_
  obtain ⟨a2, s3, hca2, h⟩ := zt_bdE h
  refine zt_callS (d := 6) zy_206 (show q_ins q_k206 14 = some (.invokestatic 170, 171, 3) from rfl) zy_171 (by decide) ⟨zq_lt (by decide), by decide⟩ rfl (by simp [Value.category]) (by simp [lg_sl, Value.category]) rfl (zt_dm (by decide) (S_M_in hca2)) ?_
  refine zt_iconst zy_206 (show q_ins q_k206 17 = some (.iconst 1, 0, 0) from rfl) ?_
  obtain ⟨a4, s5, hca4, h⟩ := zt_bdE h
  refine zt_callV (d := 6) zy_206 (show q_ins q_k206 18 = some (.invokevirtual 227, 174, 2) from rfl) zy_174 (by decide) ⟨zq_lt (by decide), by decide⟩ rfl (by simp [Value.category]) (by simp [lg_sl, Value.category]) (zt_rcv zc_163) (zt_dm (by decide) (S_M_fails hca4)) ?_
  obtain ⟨hg, h⟩ := zt_ckE h
  refine zt_if_eq zy_206 (show q_ins q_k206 21 = some (.ifCond .eq 5, 26, 0) from rfl) (hg) (fun hc => ?_) (fun hc => ?_)
  · rw [if_pos hc] at h
    refine zt_aload_n zy_206 (show q_ins q_k206 26 = some (.aload_n 0, 0, 0) from rfl) (v := 163) rfl ?_
    refine zt_iload_n zy_206 (show q_ins q_k206 27 = some (.iload_n 1, 0, 0) from rfl) (v := Int32.ofInt v1) rfl ?_
    obtain ⟨a6, s7, hca6, h⟩ := zt_bdE h
    refine zt_callV (d := 6) zy_206 (show q_ins q_k206 28 = some (.invokevirtual 231, 191, 1) from rfl) zy_191 (by decide) ⟨zq_lt (by decide), by decide⟩ rfl (by simp [Value.category]) (by simp [lg_sl, Value.category]) (zt_rcv zc_163) (zt_dm (by decide) (S_M_starts hca6)) ?_
    refine zt_aload_n zy_206 (show q_ins q_k206 31 = some (.aload_n 0, 0, 0) from rfl) (v := 163) rfl ?_
    obtain ⟨a8, s9, hca8, h⟩ := zt_bdE h
    refine zt_callV (d := 6) zy_206 (show q_ins q_k206 32 = some (.invokevirtual 234, 205, 0) from rfl) zy_205 (by decide) ⟨zq_lt (by decide), by decide⟩ rfl (by simp [Value.category]) (by simp [lg_sl, Value.category]) (zt_rcv zc_163) (zt_dm (by decide) (S_M_readsAll hca8)) ?_
    refine zt_aload_n zy_206 (show q_ins q_k206 35 = some (.aload_n 0, 0, 0) from rfl) (v := 163) rfl ?_
    obtain ⟨a10, s11, hca10, h⟩ := zt_bdE h
    refine zt_callV (d := 6) zy_206 (show q_ins q_k206 36 = some (.invokevirtual 156, 193, 0) from rfl) zy_193 (by decide) ⟨zq_lt (by decide), by decide⟩ rfl (by simp [Value.category]) (by simp [lg_sl, Value.category]) (zt_rcv zc_163) (zt_dm (by decide) (S_M_isGood hca10)) ?_
    obtain ⟨hg, h⟩ := zt_ckE h
    refine zt_if_ne zy_206 (show q_ins q_k206 39 = some (.ifCond .ne 11, 50, 0) from rfl) (hg) (fun hc => ?_) (fun hc => ?_)
    · rw [if_pos hc] at h
      refine zt_bipush zy_206 (show q_ins q_k206 42 = some (.bipush (-10), 0, 0) from rfl) (by decide) ?_
      refine zt_aload_n zy_206 (show q_ins q_k206 44 = some (.aload_n 0, 0, 0) from rfl) (v := 163) rfl ?_
      refine zt_getI zy_206 (show q_ins q_k206 45 = some (.getfield 150, 11, 16) from rfl) (j := 16) zk_163_16 rfl ?_
      refine zt_isub zy_206 (show q_ins q_k206 48 = some (.isub, 0, 0) from rfl) ?_
      cases h
      exact zt_iret zy_206 (show q_ins q_k206 49 = some (.ireturn, 0, 0) from rfl)
    · rw [if_neg hc] at h
      refine zt_aload_n zy_206 (show q_ins q_k206 50 = some (.aload_n 0, 0, 0) from rfl) (v := 163) rfl ?_
      refine zt_getR zy_206 (show q_ins q_k206 51 = some (.getfield 17, 11, 2) from rfl) (r := 165) zk_163_2 ?_
      refine zt_iconst zy_206 (show q_ins q_k206 54 = some (.iconst 0, 0, 0) from rfl) ?_
      refine zt_aload_n zy_206 (show q_ins q_k206 55 = some (.aload_n 0, 0, 0) from rfl) (v := 163) rfl ?_
      refine zt_getR zy_206 (show q_ins q_k206 56 = some (.getfield 13, 11, 1) from rfl) (r := 164) zk_163_1 ?_
      refine zt_iconst zy_206 (show q_ins q_k206 59 = some (.iconst 0, 0, 0) from rfl) ?_
      obtain ⟨a12, s13, hca12, h⟩ := zt_bdE h
      refine zt_callS (d := 6) zy_206 (show q_ins q_k206 60 = some (.invokestatic 86, 176, 4) from rfl) zy_176 (by decide) ⟨zq_lt (by decide), by decide⟩ rfl (by simp [Value.category]) (by simp [lg_sl, Value.category]) rfl (zt_dm (by decide) (S_M_copies za_165 (by decide) za_164 (by decide) hca12)) ?_
      refine zt_aload_n zy_206 (show q_ins q_k206 63 = some (.aload_n 0, 0, 0) from rfl) (v := 163) rfl ?_
      refine zt_iconst zy_206 (show q_ins q_k206 64 = some (.iconst 0, 0, 0) from rfl) ?_
      obtain ⟨s14, hs14, h⟩ := zt_letE h
      refine zt_putI zy_206 (show q_ins q_k206 65 = some (.putfield 237, 11, 5) from rfl) (j := 5) zk_163_5 rfl rfl rfl ?_
      rw [← hs14]
      refine zt_aload_n zy_206 (show q_ins q_k206 68 = some (.aload_n 0, 0, 0) from rfl) (v := 163) rfl ?_
      refine zt_iconst zy_206 (show q_ins q_k206 69 = some (.iconst 0, 0, 0) from rfl) ?_
      obtain ⟨s15, hs15, h⟩ := zt_letE h
      refine zt_putZ zy_206 (show q_ins q_k206 70 = some (.putfield 240, 11, 6) from rfl) (j := 6) zk_163_6 rfl rfl (by decide) rfl ?_
      rw [← hs15]
      refine zt_aload_n zy_206 (show q_ins q_k206 73 = some (.aload_n 0, 0, 0) from rfl) (v := 163) rfl ?_
      refine zt_getR zy_206 (show q_ins q_k206 74 = some (.getfield 13, 11, 1) from rfl) (r := 164) zk_163_1 ?_
      refine zt_iconst zy_206 (show q_ins q_k206 77 = some (.iconst 1, 0, 0) from rfl) ?_
      refine zt_ald zy_206 (show q_ins q_k206 78 = some (.iaload, 0, 0) from rfl) za_164 (by decide) (by decide) ?_
      refine zt_aload_n zy_206 (show q_ins q_k206 79 = some (.aload_n 0, 0, 0) from rfl) (v := 163) rfl ?_
      refine zt_getR zy_206 (show q_ins q_k206 80 = some (.getfield 13, 11, 1) from rfl) (r := 164) zk_163_1 ?_
      refine zt_iconst zy_206 (show q_ins q_k206 83 = some (.iconst 2, 0, 0) from rfl) ?_
      refine zt_ald zy_206 (show q_ins q_k206 84 = some (.iaload, 0, 0) from rfl) za_164 (by decide) (by decide) ?_
      refine zt_imul zy_206 (show q_ins q_k206 85 = some (.imul, 0, 0) from rfl) ?_
      cases h
      exact zt_iret zy_206 (show q_ins q_k206 86 = some (.ireturn, 0, 0) from rfl)
  · rw [if_neg hc] at h
    refine zt_iconst zy_206 (show q_ins q_k206 24 = some (.iconst 0, 0, 0) from rfl) ?_
    cases h
    exact zt_iret zy_206 (show q_ins q_k206 25 = some (.ireturn, 0, 0) from rfl)
theorem S_M_cards {X : q_X}    {σ : zt_S} {o : (Int × zt_S)} (h : F_M_cards   σ = some o) : zt_Ex X 0 207 0 (lv_args 0 [.ref 163]) [] (zt_M σ) (zo_I o) := by
  unfold F_M_cards at h
  refine zt_iconst zy_207 (show q_ins q_k207 0 = some (.iconst 4, 0, 0) from rfl) ?_
  refine zt_aload_n zy_207 (show q_ins q_k207 1 = some (.aload_n 0, 0, 0) from rfl) (v := 163) rfl ?_
  refine zt_getR zy_207 (show q_ins q_k207 2 = some (.getfield 13, 11, 1) from rfl) (r := 164) zk_163_1 ?_
  refine zt_iconst zy_207 (show q_ins q_k207 5 = some (.iconst 0, 0, 0) from rfl) ?_
  refine zt_ald zy_207 (show q_ins q_k207 6 = some (.iaload, 0, 0) from rfl) za_164 (by decide) (by decide) ?_
  refine zt_imul zy_207 (show q_ins q_k207 7 = some (.imul, 0, 0) from rfl) ?_
  cases h
  exact zt_iret zy_207 (show q_ins q_k207 8 = some (.ireturn, 0, 0) from rfl)
theorem S_M_isCard {X : q_X}   {v1 : Int} {σ : zt_S} {o : (Int × zt_S)} (h : F_M_isCard  v1 σ = some o) : zt_Ex X 1 208 0 (lv_args 0 [.ref 163, .int (Int32.ofInt v1)]) [] (zt_M σ) (zo_I o) := by
  unfold F_M_isCard at h
  refine zt_iload_n zy_208 (show q_ins q_k208 0 = some (.iload_n 1, 0, 0) from rfl) (v := Int32.ofInt v1) rfl ?_
  refine zt_i2l zy_208 (show q_ins q_k208 1 = some (.i2l, 0, 0) from rfl) ?_
  refine zt_lconst zy_208 (show q_ins q_k208 2 = some (.lconst 0, 0, 0) from rfl) (v := (0 : Int64)) (by decide) ?_
  refine zt_aload_n zy_208 (show q_ins q_k208 3 = some (.aload_n 0, 0, 0) from rfl) (v := 163) rfl ?_
  obtain ⟨a1, s2, hca1, h⟩ := zt_bdE h
  refine zt_callV (d := 0) zy_208 (show q_ins q_k208 4 = some (.invokevirtual 244, 207, 0) from rfl) zy_207 (by decide) ⟨zq_lt (by decide), by decide⟩ rfl (by simp [Value.category]) (by simp [lg_sl, Value.category]) (zt_rcv zc_163) (zt_dm (by decide) (S_M_cards hca1)) ?_
  refine zt_iconst zy_208 (show q_ins q_k208 7 = some (.iconst 1, 0, 0) from rfl) ?_
  refine zt_isub zy_208 (show q_ins q_k208 8 = some (.isub, 0, 0) from rfl) ?_
  refine zt_i2l zy_208 (show q_ins q_k208 9 = some (.i2l, 0, 0) from rfl) ?_
  obtain ⟨a3, s4, hca3, h⟩ := zt_bdE h
  refine zt_callS (d := 0) zy_208 (show q_ins q_k208 10 = some (.invokestatic 170, 171, 3) from rfl) zy_171 (by decide) ⟨zq_lt (by decide), by decide⟩ rfl (by simp [Value.category]) (by simp [lg_sl, Value.category]) rfl (zt_dm (by decide) (S_M_in hca3)) ?_
  obtain ⟨hg, h⟩ := zt_ckE h
  cases h
  exact zt_zret zy_208 (show q_ins q_k208 13 = some (.ireturn, 0, 0) from rfl) hg
theorem S_M_suitOf {X : q_X}   {v1 : Int} {σ : zt_S} {o : (Int × zt_S)} (h : F_M_suitOf  v1 σ = some o) : zt_Ex X 0 209 0 (lv_args 0 [.ref 163, .int (Int32.ofInt v1)]) [] (zt_M σ) (zo_I o) := by
  unfold F_M_suitOf at h
  refine zt_iload_n zy_209 (show q_ins q_k209 0 = some (.iload_n 1, 0, 0) from rfl) (v := Int32.ofInt v1) rfl ?_
  refine zt_aload_n zy_209 (show q_ins q_k209 1 = some (.aload_n 0, 0, 0) from rfl) (v := 163) rfl ?_
  refine zt_getR zy_209 (show q_ins q_k209 2 = some (.getfield 13, 11, 1) from rfl) (r := 164) zk_163_1 ?_
  refine zt_iconst zy_209 (show q_ins q_k209 5 = some (.iconst 0, 0, 0) from rfl) ?_
  refine zt_ald zy_209 (show q_ins q_k209 6 = some (.iaload, 0, 0) from rfl) za_164 (by decide) (by decide) ?_
  obtain ⟨hg, h⟩ := zt_ckE h
  refine zt_idiv zy_209 (show q_ins q_k209 7 = some (.idiv, 0, 0) from rfl) hg.1 hg.2 ?_
  cases h
  exact zt_iret zy_209 (show q_ins q_k209 8 = some (.ireturn, 0, 0) from rfl)
theorem S_M_rankOf {X : q_X}   {v1 : Int} {σ : zt_S} {o : (Int × zt_S)} (h : F_M_rankOf  v1 σ = some o) : zt_Ex X 0 210 0 (lv_args 0 [.ref 163, .int (Int32.ofInt v1)]) [] (zt_M σ) (zo_I o) := by
  unfold F_M_rankOf at h
  refine zt_iload_n zy_210 (show q_ins q_k210 0 = some (.iload_n 1, 0, 0) from rfl) (v := Int32.ofInt v1) rfl ?_
  refine zt_aload_n zy_210 (show q_ins q_k210 1 = some (.aload_n 0, 0, 0) from rfl) (v := 163) rfl ?_
  refine zt_getR zy_210 (show q_ins q_k210 2 = some (.getfield 13, 11, 1) from rfl) (r := 164) zk_163_1 ?_
  refine zt_iconst zy_210 (show q_ins q_k210 5 = some (.iconst 0, 0, 0) from rfl) ?_
  refine zt_ald zy_210 (show q_ins q_k210 6 = some (.iaload, 0, 0) from rfl) za_164 (by decide) (by decide) ?_
  obtain ⟨hg, h⟩ := zt_ckE h
  refine zt_irem zy_210 (show q_ins q_k210 7 = some (.irem, 0, 0) from rfl) hg.1 hg.2 ?_
  refine zt_iconst zy_210 (show q_ins q_k210 8 = some (.iconst 1, 0, 0) from rfl) ?_
  refine zt_iadd zy_210 (show q_ins q_k210 9 = some (.iadd, 0, 0) from rfl) ?_
  cases h
  exact zt_iret zy_210 (show q_ins q_k210 10 = some (.ireturn, 0, 0) from rfl)
theorem S_M_isOver_28 {X : q_X}   : ∀ (x0 : Int) (σ : zt_S) (o : (Int × zt_S)), F_M_isOver_28  x0 σ = some o → zt_Ex X 0 211 28 [] [.int (Int32.ofInt x0)] (zt_M σ) (zo_I o) := by
  intro x0 σ o  h
  unfold F_M_isOver_28 at h
  obtain ⟨hg, h⟩ := zt_ckE h
  cases h
  exact zt_zret zy_211 (show q_ins q_k211 28 = some (.ireturn, 0, 0) from rfl) hg
theorem S_M_isOver {X : q_X}    {σ : zt_S} {o : (Int × zt_S)} (h : F_M_isOver   σ = some o) : zt_Ex X 0 211 0 (lv_args 0 [.ref 163]) [] (zt_M σ) (zo_I o) := by
  unfold F_M_isOver at h
  refine zt_aload_n zy_211 (show q_ins q_k211 0 = some (.aload_n 0, 0, 0) from rfl) (v := 163) rfl ?_
  refine zt_getR zy_211 (show q_ins q_k211 1 = some (.getfield 13, 11, 1) from rfl) (r := 164) zk_163_1 ?_
  refine zt_bipush zy_211 (show q_ins q_k211 4 = some (.bipush 12, 0, 0) from rfl) (by decide) ?_
  refine zt_ald zy_211 (show q_ins q_k211 6 = some (.iaload, 0, 0) from rfl) za_164 (by decide) (by decide) ?_
  refine zt_aload_n zy_211 (show q_ins q_k211 7 = some (.aload_n 0, 0, 0) from rfl) (v := 163) rfl ?_
  refine zt_getR zy_211 (show q_ins q_k211 8 = some (.getfield 13, 11, 1) from rfl) (r := 164) zk_163_1 ?_
  refine zt_iconst zy_211 (show q_ins q_k211 11 = some (.iconst 1, 0, 0) from rfl) ?_
  refine zt_ald zy_211 (show q_ins q_k211 12 = some (.iaload, 0, 0) from rfl) za_164 (by decide) (by decide) ?_
  refine zt_aload_n zy_211 (show q_ins q_k211 13 = some (.aload_n 0, 0, 0) from rfl) (v := 163) rfl ?_
  refine zt_getR zy_211 (show q_ins q_k211 14 = some (.getfield 13, 11, 1) from rfl) (r := 164) zk_163_1 ?_
  refine zt_iconst zy_211 (show q_ins q_k211 17 = some (.iconst 2, 0, 0) from rfl) ?_
  refine zt_ald zy_211 (show q_ins q_k211 18 = some (.iaload, 0, 0) from rfl) za_164 (by decide) (by decide) ?_
  refine zt_imul zy_211 (show q_ins q_k211 19 = some (.imul, 0, 0) from rfl) ?_
  obtain ⟨hg, h⟩ := zt_ckE h
  refine zt_icmp_ne zy_211 (show q_ins q_k211 20 = some (.if_icmp .ne 7, 27, 0) from rfl) (⟨hg.1, hg.2⟩) (fun hc => ?_) (fun hc => ?_)
  · rw [if_pos hc] at h
    refine zt_iconst zy_211 (show q_ins q_k211 23 = some (.iconst 1, 0, 0) from rfl) ?_
    refine zt_goto zy_211 (show q_ins q_k211 24 = some (.goto 4, 28, 0) from rfl) ?_
    exact zt_wk (zt_cov_nil) (S_M_isOver_28  _ _ _ h)
  · rw [if_neg hc] at h
    refine zt_iconst zy_211 (show q_ins q_k211 27 = some (.iconst 0, 0, 0) from rfl) ?_
    exact zt_wk (zt_cov_nil) (S_M_isOver_28  _ _ _ h)
