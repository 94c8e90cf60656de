/-! the mini-machine does what the functions say (by program) -/
section TT
variable {T : zt_T}
theorem S_Tk_isSign_25 {X : q_X}   : ∀ (x0 : Int) (σ : zt_S) (o : (Int × zt_S)), F_Tk_isSign_25  x0 σ = some o → zt_Ex X 1 97 25 [] [.int (Int32.ofInt x0)] (zt_M T σ) (zo_I T o) := by
  intro x0 σ o  h
  unfold F_Tk_isSign_25 at h
  obtain ⟨hg, h⟩ := zt_ckE h
  cases h
  exact zt_zret zy_97 (show q_ins q_k97 25 = some (.ireturn, 0, 0) from rfl) hg
theorem S_Tk_isSign_24 {X : q_X}   : ∀  (σ : zt_S) (o : (Int × zt_S)), F_Tk_isSign_24   σ = some o → zt_Ex X 1 97 24 [] [] (zt_M T σ) (zo_I T o) := by
  intro  σ o  h
  unfold F_Tk_isSign_24 at h
  refine zt_iconst zy_97 (show q_ins q_k97 24 = some (.iconst 0, 0, 0) from rfl) ?_
  exact zt_wk (zt_cov_nil) (S_Tk_isSign_25  _ _ _ h)
theorem S_Tk_isSign {X : q_X}   {v1 : Int} {σ : zt_S} {o : (Int × zt_S)} (h : F_Tk_isSign  v1 σ = some o) : zt_Ex X 1 97 0 (lv_args 0 [.ref 2, .int (Int32.ofInt v1)]) [] (zt_M T σ) (zo_I T o) := by
  unfold F_Tk_isSign at h
  refine zt_aload_n zy_97 (show q_ins q_k97 0 = some (.aload_n 0, 0, 0) from rfl) (v := 2) rfl ?_
  refine zt_getI zy_97 (show q_ins q_k97 1 = some (.getfield 38, 8, 4) from rfl) (j := 4) zk_2_4 rfl ?_
  refine zt_iconst zy_97 (show q_ins q_k97 4 = some (.iconst 4, 0, 0) from rfl) ?_
  obtain ⟨hg, h⟩ := zt_ckE h
  refine zt_icmp_ne zy_97 (show q_ins q_k97 5 = some (.if_icmp .ne 19, 24, 0) from rfl) (⟨hg, by decide⟩) (fun hc => ?_) (fun hc => ?_)
  · rw [if_pos hc] at h
    refine zt_aload_n zy_97 (show q_ins q_k97 8 = some (.aload_n 0, 0, 0) from rfl) (v := 2) rfl ?_
    refine zt_aload_n zy_97 (show q_ins q_k97 9 = some (.aload_n 0, 0, 0) from rfl) (v := 2) rfl ?_
    refine zt_getI zy_97 (show q_ins q_k97 10 = some (.getfield 31, 8, 2) from rfl) (j := 2) zk_2_2 rfl ?_
    obtain ⟨a1, s2, hca1, h⟩ := zt_bdE h
    refine zt_callV (d := 0) zy_97 (show q_ins q_k97 13 = some (.invokevirtual 44, 92, 1) from rfl) zy_92 (by decide) ⟨zq_lt (by decide), by decide⟩ rfl (by simp [Value.category]) (by simp [lg_sl, Value.category]) (zt_rcv zc_2) (zt_dm (by decide) (S_Tk_byteAt hca1)) ?_
    refine zt_iload_n zy_97 (show q_ins q_k97 16 = some (.iload_n 1, 0, 0) from rfl) (v := Int32.ofInt v1) rfl ?_
    obtain ⟨hg, h⟩ := zt_ckE h
    refine zt_icmp_ne zy_97 (show q_ins q_k97 17 = some (.if_icmp .ne 7, 24, 0) from rfl) (⟨hg.1, hg.2⟩) (fun hc => ?_) (fun hc => ?_)
    · rw [if_pos hc] at h
      refine zt_iconst zy_97 (show q_ins q_k97 20 = some (.iconst 1, 0, 0) from rfl) ?_
      refine zt_goto zy_97 (show q_ins q_k97 21 = some (.goto 4, 25, 0) from rfl) ?_
      exact zt_wk (zt_cov_nil) (S_Tk_isSign_25  _ _ _ h)
    · rw [if_neg hc] at h
      exact zt_wk (zt_cov_nil) (S_Tk_isSign_24  _ _ h)
  · rw [if_neg hc] at h
    exact zt_wk (zt_cov_nil) (S_Tk_isSign_24  _ _ h)
theorem S_Tk_takeSign_15 {X : q_X}   : ∀  (σ : zt_S) (o : (Int × zt_S)), F_Tk_takeSign_15   σ = some o → zt_Ex X 2 100 15 [] [] (zt_M T σ) (zo_I T o) := by
  intro  σ o  h
  unfold F_Tk_takeSign_15 at h
  refine zt_iconst zy_100 (show q_ins q_k100 15 = some (.iconst 0, 0, 0) from rfl) ?_
  cases h
  exact zt_zret zy_100 (show q_ins q_k100 16 = some (.ireturn, 0, 0) from rfl) (by decide)
theorem S_Tk_takeSign {X : q_X}   {v1 : Int} {σ : zt_S} {o : (Int × zt_S)} (h : F_Tk_takeSign  v1 σ = some o) : zt_Ex X 2 100 0 (lv_args 0 [.ref 2, .int (Int32.ofInt v1)]) [] (zt_M T σ) (zo_I T o) := by
  unfold F_Tk_takeSign at h
  refine zt_aload_n zy_100 (show q_ins q_k100 0 = some (.aload_n 0, 0, 0) from rfl) (v := 2) rfl ?_
  obtain ⟨a1, s2, hca1, h⟩ := zt_bdE h
  refine zt_callV (d := 1) zy_100 (show q_ins q_k100 1 = some (.invokevirtual 63, 93, 0) from rfl) zy_93 (by decide) ⟨zq_lt (by decide), by decide⟩ rfl (by simp [Value.category]) (by simp [lg_sl, Value.category]) (zt_rcv zc_2) (zt_dm (by decide) (S_Tk_hasFailed hca1)) ?_
  obtain ⟨hg, h⟩ := zt_ckE h
  refine zt_if_ne zy_100 (show q_ins q_k100 4 = some (.ifCond .ne 11, 15, 0) from rfl) (hg) (fun hc => ?_) (fun hc => ?_)
  · rw [if_pos hc] at h
    refine zt_aload_n zy_100 (show q_ins q_k100 7 = some (.aload_n 0, 0, 0) from rfl) (v := 2) rfl ?_
    refine zt_iload_n zy_100 (show q_ins q_k100 8 = some (.iload_n 1, 0, 0) from rfl) (v := Int32.ofInt v1) rfl ?_
    obtain ⟨a3, s4, hca3, h⟩ := zt_bdE h
    refine zt_callV (d := 1) zy_100 (show q_ins q_k100 9 = some (.invokevirtual 71, 97, 1) from rfl) zy_97 (by decide) ⟨zq_lt (by decide), by decide⟩ rfl (by simp [Value.category]) (by simp [lg_sl, Value.category]) (zt_rcv zc_2) (zt_dm (by decide) (S_Tk_isSign hca3)) ?_
    obtain ⟨hg, h⟩ := zt_ckE h
    refine zt_if_ne zy_100 (show q_ins q_k100 12 = some (.ifCond .ne 5, 17, 0) from rfl) (hg) (fun hc => ?_) (fun hc => ?_)
    · rw [if_pos hc] at h
      exact zt_wk (zt_cov_nil) (S_Tk_takeSign_15  _ _ h)
    · rw [if_neg hc] at h
      refine zt_aload_n zy_100 (show q_ins q_k100 17 = some (.aload_n 0, 0, 0) from rfl) (v := 2) rfl ?_
      obtain ⟨a5, s6, hca5, h⟩ := zt_bdE h
      refine zt_callV (d := 1) zy_100 (show q_ins q_k100 18 = some (.invokevirtual 28, 90, 0) from rfl) zy_90 (by decide) ⟨zq_lt (by decide), by decide⟩ rfl (by simp [Value.category]) (by simp [lg_sl, Value.category]) (zt_rcv zc_2) (zt_dm (by decide) (S_Tk_next hca5)) ?_
      refine zt_iconst zy_100 (show q_ins q_k100 21 = some (.iconst 1, 0, 0) from rfl) ?_
      cases h
      exact zt_zret zy_100 (show q_ins q_k100 22 = some (.ireturn, 0, 0) from rfl) (by decide)
  · rw [if_neg hc] at h
    exact zt_wk (zt_cov_nil) (S_Tk_takeSign_15  _ _ h)
theorem S_Tk_needSign_13 {X : q_X}   : ∀  (σ : zt_S) (o : (Unit × zt_S)), F_Tk_needSign_13   σ = some o → zt_Ex X 3 102 13 [] [] (zt_M T σ) (zo_V T o) := by
  intro  σ o  h
  unfold F_Tk_needSign_13 at h
  cases h
  exact zt_ret zy_102 (show q_ins q_k102 13 = some (.return_, 0, 0) from rfl)
theorem S_Tk_needSign {X : q_X}   {v1 : Int} {σ : zt_S} {o : (Unit × zt_S)} (h : F_Tk_needSign  v1 σ = some o) : zt_Ex X 3 102 0 (lv_args 0 [.ref 2, .int (Int32.ofInt v1)]) [] (zt_M T σ) (zo_V T o) := by
  unfold F_Tk_needSign at h
  refine zt_aload_n zy_102 (show q_ins q_k102 0 = some (.aload_n 0, 0, 0) from rfl) (v := 2) rfl ?_
  refine zt_iload_n zy_102 (show q_ins q_k102 1 = some (.iload_n 1, 0, 0) from rfl) (v := Int32.ofInt v1) rfl ?_
  obtain ⟨a1, s2, hca1, h⟩ := zt_bdE h
  refine zt_callV (d := 2) zy_102 (show q_ins q_k102 2 = some (.invokevirtual 82, 100, 1) from rfl) zy_100 (by decide) ⟨zq_lt (by decide), by decide⟩ rfl (by simp [Value.category]) (by simp [lg_sl, Value.category]) (zt_rcv zc_2) (zt_dm (by decide) (S_Tk_takeSign hca1)) ?_
  obtain ⟨hg, h⟩ := zt_ckE h
  refine zt_if_ne zy_102 (show q_ins q_k102 5 = some (.ifCond .ne 8, 13, 0) from rfl) (hg) (fun hc => ?_) (fun hc => ?_)
  · rw [if_pos hc] at h
    refine zt_aload_n zy_102 (show q_ins q_k102 8 = some (.aload_n 0, 0, 0) from rfl) (v := 2) rfl ?_
    refine zt_iconst zy_102 (show q_ins q_k102 9 = some (.iconst 1, 0, 0) from rfl) ?_
    obtain ⟨a3, s4, hca3, h⟩ := zt_bdE h
    refine zt_callV (d := 2) zy_102 (show q_ins q_k102 10 = some (.invokevirtual 78, 94, 1) from rfl) zy_94 (by decide) ⟨zq_lt (by decide), by decide⟩ rfl (by simp [Value.category]) (by simp [lg_sl, Value.category]) (zt_rcv zc_2) (zt_dm (by decide) (S_Tk_fail hca3)) ?_
    exact zt_wk (zt_cov_nil) (S_Tk_needSign_13  _ _ h)
  · rw [if_neg hc] at h
    exact zt_wk (zt_cov_nil) (S_Tk_needSign_13  _ _ h)
theorem S_Tk_isNumber_13 {X : q_X}   : ∀ (x0 : Int) (σ : zt_S) (o : (Int × zt_S)), F_Tk_isNumber_13  x0 σ = some o → zt_Ex X 0 96 13 [] [.int (Int32.ofInt x0)] (zt_M T σ) (zo_I T o) := by
  intro x0 σ o  h
  unfold F_Tk_isNumber_13 at h
  obtain ⟨hg, h⟩ := zt_ckE h
  cases h
  exact zt_zret zy_96 (show q_ins q_k96 13 = some (.ireturn, 0, 0) from rfl) hg
theorem S_Tk_isNumber {X : q_X}    {σ : zt_S} {o : (Int × zt_S)} (h : F_Tk_isNumber   σ = some o) : zt_Ex X 0 96 0 (lv_args 0 [.ref 2]) [] (zt_M T σ) (zo_I T o) := by
  unfold F_Tk_isNumber at h
  refine zt_aload_n zy_96 (show q_ins q_k96 0 = some (.aload_n 0, 0, 0) from rfl) (v := 2) rfl ?_
  refine zt_getI zy_96 (show q_ins q_k96 1 = some (.getfield 38, 8, 4) from rfl) (j := 4) zk_2_4 rfl ?_
  refine zt_iconst zy_96 (show q_ins q_k96 4 = some (.iconst 3, 0, 0) from rfl) ?_
  obtain ⟨hg, h⟩ := zt_ckE h
  refine zt_icmp_ne zy_96 (show q_ins q_k96 5 = some (.if_icmp .ne 7, 12, 0) from rfl) (⟨hg, by decide⟩) (fun hc => ?_) (fun hc => ?_)
  · rw [if_pos hc] at h
    refine zt_iconst zy_96 (show q_ins q_k96 8 = some (.iconst 1, 0, 0) from rfl) ?_
    refine zt_goto zy_96 (show q_ins q_k96 9 = some (.goto 4, 13, 0) from rfl) ?_
    exact zt_wk (zt_cov_nil) (S_Tk_isNumber_13  _ _ _ h)
  · rw [if_neg hc] at h
    refine zt_iconst zy_96 (show q_ins q_k96 12 = some (.iconst 0, 0, 0) from rfl) ?_
    exact zt_wk (zt_cov_nil) (S_Tk_isNumber_13  _ _ _ h)
theorem S_Tk_peekNumber_52 {X : q_X}   : ∀ (x0 : Int) (σ : zt_S) (o : (Int × zt_S)), F_Tk_peekNumber_52  x0 σ = some o → zt_Ex X 1 103 52 [] [.int (Int32.ofInt x0)] (zt_M T σ) (zo_I T o) := by
  intro x0 σ o  h
  unfold F_Tk_peekNumber_52 at h
  cases h
  exact zt_iret zy_103 (show q_ins q_k103 52 = some (.ireturn, 0, 0) from rfl)
theorem S_Tk_peekNumber_37 {X : q_X}   : ∀ (v1 : Int) (σ : zt_S) (o : (Int × zt_S)), F_Tk_peekNumber_37  v1 σ = some o → zt_Ex X 1 103 37 [(0, .ref 2), (1, .int (Int32.ofInt v1))] [] (zt_M T σ) (zo_I T o) := by
  intro v1 σ o  h
  unfold F_Tk_peekNumber_37 at h
  refine zt_aload_n zy_103 (show q_ins q_k103 37 = some (.aload_n 0, 0, 0) from rfl) (v := 2) rfl ?_
  obtain ⟨a3, s4, hca3, h⟩ := zt_bdE h
  refine zt_callV (d := 0) zy_103 (show q_ins q_k103 38 = some (.invokevirtual 63, 93, 0) from rfl) zy_93 (by decide) ⟨zq_lt (by decide), by decide⟩ rfl (by simp [Value.category]) (by simp [lg_sl, Value.category]) (zt_rcv zc_2) (zt_dm (by decide) (S_Tk_hasFailed hca3)) ?_
  obtain ⟨hg, h⟩ := zt_ckE h
  refine zt_if_eq zy_103 (show q_ins q_k103 41 = some (.ifCond .eq 7, 48, 0) from rfl) (hg) (fun hc => ?_) (fun hc => ?_)
  · rw [if_pos hc] at h
    refine zt_aload_n zy_103 (show q_ins q_k103 48 = some (.aload_n 0, 0, 0) from rfl) (v := 2) rfl ?_
    refine zt_getI zy_103 (show q_ins q_k103 49 = some (.getfield 41, 8, 5) from rfl) (j := 5) zk_2_5 rfl ?_
    exact zt_wk (zt_cov_nil) (S_Tk_peekNumber_52  _ _ _ h)
  · rw [if_neg hc] at h
    refine zt_iload_n zy_103 (show q_ins q_k103 44 = some (.iload_n 1, 0, 0) from rfl) (v := Int32.ofInt v1) rfl ?_
    refine zt_goto zy_103 (show q_ins q_k103 45 = some (.goto 7, 52, 0) from rfl) ?_
    exact zt_wk (zt_cov_nil) (S_Tk_peekNumber_52  _ _ _ h)
theorem S_Tk_peekNumber_32 {X : q_X}   : ∀ (v1 : Int) (σ : zt_S) (o : (Int × zt_S)), F_Tk_peekNumber_32  v1 σ = some o → zt_Ex X 1 103 32 [(0, .ref 2), (1, .int (Int32.ofInt v1))] [] (zt_M T σ) (zo_I T o) := by
  intro v1 σ o  h
  unfold F_Tk_peekNumber_32 at h
  refine zt_aload_n zy_103 (show q_ins q_k103 32 = some (.aload_n 0, 0, 0) from rfl) (v := 2) rfl ?_
  refine zt_iconst zy_103 (show q_ins q_k103 33 = some (.iconst 2, 0, 0) from rfl) ?_
  obtain ⟨a1, s2, hca1, h⟩ := zt_bdE h
  refine zt_callV (d := 0) zy_103 (show q_ins q_k103 34 = some (.invokevirtual 78, 94, 1) from rfl) zy_94 (by decide) ⟨zq_lt (by decide), by decide⟩ rfl (by simp [Value.category]) (by simp [lg_sl, Value.category]) (zt_rcv zc_2) (zt_dm (by decide) (S_Tk_fail hca1)) ?_
  exact zt_wk (zt_cov_cons rfl (zt_cov_cons rfl (zt_cov_nil))) (S_Tk_peekNumber_37  _ _ _ h)
theorem S_Tk_peekNumber {X : q_X}   {v1 : Int} {v2 : Int} {σ : zt_S} {o : (Int × zt_S)} (h : F_Tk_peekNumber  v1 v2 σ = some o) : zt_Ex X 1 103 0 (lv_args 0 [.ref 2, .int (Int32.ofInt v1), .int (Int32.ofInt v2)]) [] (zt_M T σ) (zo_I T o) := by
  unfold F_Tk_peekNumber at h
  refine zt_aload_n zy_103 (show q_ins q_k103 0 = some (.aload_n 0, 0, 0) from rfl) (v := 2) rfl ?_
  refine zt_getI zy_103 (show q_ins q_k103 1 = some (.getfield 38, 8, 4) from rfl) (j := 4) zk_2_4 rfl ?_
  refine zt_iconst zy_103 (show q_ins q_k103 4 = some (.iconst 3, 0, 0) from rfl) ?_
  obtain ⟨hg, h⟩ := zt_ckE h
  refine zt_icmp_eq zy_103 (show q_ins q_k103 5 = some (.if_icmp .eq 11, 16, 0) from rfl) (⟨hg, by decide⟩) (fun hc => ?_) (fun hc => ?_)
  · rw [if_pos hc] at h
    refine zt_aload_n zy_103 (show q_ins q_k103 16 = some (.aload_n 0, 0, 0) from rfl) (v := 2) rfl ?_
    refine zt_getI zy_103 (show q_ins q_k103 17 = some (.getfield 41, 8, 5) from rfl) (j := 5) zk_2_5 rfl ?_
    refine zt_iload_n zy_103 (show q_ins q_k103 20 = some (.iload_n 1, 0, 0) from rfl) (v := Int32.ofInt v1) rfl ?_
    obtain ⟨hg, h⟩ := zt_ckE h
    refine zt_icmp_lt zy_103 (show q_ins q_k103 21 = some (.if_icmp .lt 11, 32, 0) from rfl) (⟨hg.1, hg.2⟩) (fun hc => ?_) (fun hc => ?_)
    · rw [if_pos hc] at h
      exact zt_wk (zt_cov_cons rfl (zt_cov_cons rfl (zt_cov_nil))) (S_Tk_peekNumber_32  _ _ _ h)
    · rw [if_neg hc] at h
      refine zt_aload_n zy_103 (show q_ins q_k103 24 = some (.aload_n 0, 0, 0) from rfl) (v := 2) rfl ?_
      refine zt_getI zy_103 (show q_ins q_k103 25 = some (.getfield 41, 8, 5) from rfl) (j := 5) zk_2_5 rfl ?_
      refine zt_iload_n zy_103 (show q_ins q_k103 28 = some (.iload_n 2, 0, 0) from rfl) (v := Int32.ofInt v2) rfl ?_
      obtain ⟨hg, h⟩ := zt_ckE h
      refine zt_icmp_le zy_103 (show q_ins q_k103 29 = some (.if_icmp .le 8, 37, 0) from rfl) (⟨hg.1, hg.2⟩) (fun hc => ?_) (fun hc => ?_)
      · rw [if_pos hc] at h
        exact zt_wk (zt_cov_cons rfl (zt_cov_cons rfl (zt_cov_nil))) (S_Tk_peekNumber_32  _ _ _ h)
      · rw [if_neg hc] at h
        exact zt_wk (zt_cov_cons rfl (zt_cov_cons rfl (zt_cov_nil))) (S_Tk_peekNumber_37  _ _ _ h)
  · rw [if_neg hc] at h
    refine zt_aload_n zy_103 (show q_ins q_k103 8 = some (.aload_n 0, 0, 0) from rfl) (v := 2) rfl ?_
    refine zt_iconst zy_103 (show q_ins q_k103 9 = some (.iconst 1, 0, 0) from rfl) ?_
    obtain ⟨a5, s6, hca5, h⟩ := zt_bdE h
    refine zt_callV (d := 0) zy_103 (show q_ins q_k103 10 = some (.invokevirtual 78, 94, 1) from rfl) zy_94 (by decide) ⟨zq_lt (by decide), by decide⟩ rfl (by simp [Value.category]) (by simp [lg_sl, Value.category]) (zt_rcv zc_2) (zt_dm (by decide) (S_Tk_fail hca5)) ?_
    refine zt_goto zy_103 (show q_ins q_k103 13 = some (.goto 24, 37, 0) from rfl) ?_
    exact zt_wk (zt_cov_cons rfl (zt_cov_cons rfl (zt_cov_nil))) (S_Tk_peekNumber_37  _ _ _ h)
theorem S_Tk_takeNumber_18 {X : q_X}   : ∀ (v3 : Int) (σ : zt_S) (o : (Int × zt_S)), F_Tk_takeNumber_18  v3 σ = some o → zt_Ex X 2 104 18 [(3, .int (Int32.ofInt v3))] [] (zt_M T σ) (zo_I T o) := by
  intro v3 σ o  h
  unfold F_Tk_takeNumber_18 at h
  refine zt_iload_n zy_104 (show q_ins q_k104 18 = some (.iload_n 3, 0, 0) from rfl) (v := Int32.ofInt v3) rfl ?_
  cases h
  exact zt_iret zy_104 (show q_ins q_k104 19 = some (.ireturn, 0, 0) from rfl)
theorem S_Tk_takeNumber {X : q_X}   {v1 : Int} {v2 : Int} {σ : zt_S} {o : (Int × zt_S)} (h : F_Tk_takeNumber  v1 v2 σ = some o) : zt_Ex X 2 104 0 (lv_args 0 [.ref 2, .int (Int32.ofInt v1), .int (Int32.ofInt v2)]) [] (zt_M T σ) (zo_I T o) := by
  unfold F_Tk_takeNumber at h
  refine zt_aload_n zy_104 (show q_ins q_k104 0 = some (.aload_n 0, 0, 0) from rfl) (v := 2) rfl ?_
  refine zt_iload_n zy_104 (show q_ins q_k104 1 = some (.iload_n 1, 0, 0) from rfl) (v := Int32.ofInt v1) rfl ?_
  refine zt_iload_n zy_104 (show q_ins q_k104 2 = some (.iload_n 2, 0, 0) from rfl) (v := Int32.ofInt v2) rfl ?_
  obtain ⟨a1, s2, hca1, h⟩ := zt_bdE h
  refine zt_callV (d := 1) zy_104 (show q_ins q_k104 3 = some (.invokevirtual 85, 103, 2) from rfl) zy_103 (by decide) ⟨zq_lt (by decide), by decide⟩ rfl (by simp [Value.category]) (by simp [lg_sl, Value.category]) (zt_rcv zc_2) (zt_dm (by decide) (S_Tk_peekNumber hca1)) ?_
  refine zt_istore_n zy_104 (show q_ins q_k104 6 = some (.istore_n 3, 0, 0) from rfl) (by decide) ?_
  refine zt_aload_n zy_104 (show q_ins q_k104 7 = some (.aload_n 0, 0, 0) from rfl) (v := 2) rfl ?_
  obtain ⟨a3, s4, hca3, h⟩ := zt_bdE h
  refine zt_callV (d := 1) zy_104 (show q_ins q_k104 8 = some (.invokevirtual 63, 93, 0) from rfl) zy_93 (by decide) ⟨zq_lt (by decide), by decide⟩ rfl (by simp [Value.category]) (by simp [lg_sl, Value.category]) (zt_rcv zc_2) (zt_dm (by decide) (S_Tk_hasFailed hca3)) ?_
  obtain ⟨hg, h⟩ := zt_ckE h
  refine zt_if_ne zy_104 (show q_ins q_k104 11 = some (.ifCond .ne 7, 18, 0) from rfl) (hg) (fun hc => ?_) (fun hc => ?_)
  · rw [if_pos hc] at h
    refine zt_aload_n zy_104 (show q_ins q_k104 14 = some (.aload_n 0, 0, 0) from rfl) (v := 2) rfl ?_
    obtain ⟨a5, s6, hca5, h⟩ := zt_bdE h
    refine zt_callV (d := 1) zy_104 (show q_ins q_k104 15 = some (.invokevirtual 28, 90, 0) from rfl) zy_90 (by decide) ⟨zq_lt (by decide), by decide⟩ rfl (by simp [Value.category]) (by simp [lg_sl, Value.category]) (zt_rcv zc_2) (zt_dm (by decide) (S_Tk_next hca5)) ?_
    exact zt_wk (zt_cov_cons rfl (zt_cov_nil)) (S_Tk_takeNumber_18  _ _ _ h)
  · rw [if_neg hc] at h
    exact zt_wk (zt_cov_cons rfl (zt_cov_nil)) (S_Tk_takeNumber_18  _ _ _ h)
theorem S_Tk_isAtEnd_12 {X : q_X}   : ∀ (x0 : Int) (σ : zt_S) (o : (Int × zt_S)), F_Tk_isAtEnd_12  x0 σ = some o → zt_Ex X 0 95 12 [] [.int (Int32.ofInt x0)] (zt_M T σ) (zo_I T o) := by
  intro x0 σ o  h
  unfold F_Tk_isAtEnd_12 at h
  obtain ⟨hg, h⟩ := zt_ckE h
  cases h
  exact zt_zret zy_95 (show q_ins q_k95 12 = some (.ireturn, 0, 0) from rfl) hg
theorem S_Tk_isAtEnd {X : q_X}    {σ : zt_S} {o : (Int × zt_S)} (h : F_Tk_isAtEnd   σ = some o) : zt_Ex X 0 95 0 (lv_args 0 [.ref 2]) [] (zt_M T σ) (zo_I T o) := by
  unfold F_Tk_isAtEnd at h
  refine zt_aload_n zy_95 (show q_ins q_k95 0 = some (.aload_n 0, 0, 0) from rfl) (v := 2) rfl ?_
  refine zt_getI zy_95 (show q_ins q_k95 1 = some (.getfield 38, 8, 4) from rfl) (j := 4) zk_2_4 rfl ?_
  obtain ⟨hg, h⟩ := zt_ckE h
  refine zt_if_ne zy_95 (show q_ins q_k95 4 = some (.ifCond .ne 7, 11, 0) from rfl) (hg) (fun hc => ?_) (fun hc => ?_)
  · rw [if_pos hc] at h
    refine zt_iconst zy_95 (show q_ins q_k95 7 = some (.iconst 1, 0, 0) from rfl) ?_
    refine zt_goto zy_95 (show q_ins q_k95 8 = some (.goto 4, 12, 0) from rfl) ?_
    exact zt_wk (zt_cov_nil) (S_Tk_isAtEnd_12  _ _ _ h)
  · rw [if_neg hc] at h
    refine zt_iconst zy_95 (show q_ins q_k95 11 = some (.iconst 0, 0, 0) from rfl) ?_
    exact zt_wk (zt_cov_nil) (S_Tk_isAtEnd_12  _ _ _ h)
theorem S_Su_cardsOfHands {X : q_X} {t0 : Nat} (ht0 : t0 ∈ zt_sets)  {σ : zt_S} {o : (Int × zt_S)} (h : F_Su_cardsOfHands t0  σ = some o) : zt_Ex X 0 31 0 (lv_args 0 [.ref t0]) [] (zt_M T σ) (zo_I T o) := by
  unfold F_Su_cardsOfHands at h
  refine zt_aload_n zy_31 (show q_ins q_k31 0 = some (.aload_n 0, 0, 0) from rfl) (v := t0) rfl ?_
  refine zt_getI zy_31 (show q_ins q_k31 1 = some (.getfield 15, 4, 1) from rfl) (j := 1) (zk_S_1 ht0) rfl ?_
  refine zt_aload_n zy_31 (show q_ins q_k31 4 = some (.aload_n 0, 0, 0) from rfl) (v := t0) rfl ?_
  refine zt_getI zy_31 (show q_ins q_k31 5 = some (.getfield 18, 4, 2) from rfl) (j := 2) (zk_S_2 ht0) rfl ?_
  refine zt_imul zy_31 (show q_ins q_k31 8 = some (.imul, 0, 0) from rfl) ?_
  cases h
  exact zt_iret zy_31 (show q_ins q_k31 9 = some (.ireturn, 0, 0) from rfl)
theorem S_Tb_isOver_19 {X : q_X} {t0 : Nat} (ht0 : t0 ∈ zt_tabs) : ∀ (x0 : Int) (σ : zt_S) (o : (Int × zt_S)), F_Tb_isOver_19 t0 x0 σ = some o → zt_Ex X 1 64 19 [] [.int (Int32.ofInt x0)] (zt_M T σ) (zo_I T o) := by
  intro x0 σ o  h
  unfold F_Tb_isOver_19 at h
  obtain ⟨hg, h⟩ := zt_ckE h
  cases h
  exact zt_zret zy_64 (show q_ins q_k64 19 = some (.ireturn, 0, 0) from rfl) hg
theorem S_Tb_isOver {X : q_X} {t0 : Nat} (ht0 : t0 ∈ zt_tabs)  {σ : zt_S} {o : (Int × zt_S)} (h : F_Tb_isOver t0  σ = some o) : zt_Ex X 1 64 0 (lv_args 0 [.ref t0]) [] (zt_M T σ) (zo_I T o) := by
  unfold F_Tb_isOver at h
  refine zt_aload_n zy_64 (show q_ins q_k64 0 = some (.aload_n 0, 0, 0) from rfl) (v := t0) rfl ?_
  refine zt_getI zy_64 (show q_ins q_k64 1 = some (.getfield 84, 6, 16) from rfl) (j := 16) (zk_T_16 ht0) rfl ?_
  refine zt_aload_n zy_64 (show q_ins q_k64 4 = some (.aload_n 0, 0, 0) from rfl) (v := t0) rfl ?_
  refine zt_getR zy_64 (show q_ins q_k64 5 = some (.getfield 44, 6, 0) from rfl) (r := (zt_su t0)) (zk_T_0 ht0) ?_
  obtain ⟨a1, s2, hca1, h⟩ := zt_bdE h
  refine zt_callV (d := 0) zy_64 (show q_ins q_k64 8 = some (.invokevirtual 120, 31, 0) from rfl) zy_31 (by decide) ⟨zq_lt (by decide), by decide⟩ rfl (by simp [Value.category]) (by simp [lg_sl, Value.category]) (zt_rcv (zc_S (zm_T0 ht0))) (zt_dm (by decide) (S_Su_cardsOfHands (zm_T0 ht0) hca1)) ?_
  obtain ⟨hg, h⟩ := zt_ckE h
  refine zt_icmp_lt zy_64 (show q_ins q_k64 11 = some (.if_icmp .lt 7, 18, 0) from rfl) (⟨hg.1, hg.2⟩) (fun hc => ?_) (fun hc => ?_)
  · rw [if_pos hc] at h
    refine zt_iconst zy_64 (show q_ins q_k64 18 = some (.iconst 0, 0, 0) from rfl) ?_
    exact zt_wk (zt_cov_nil) (S_Tb_isOver_19  ht0 _ _ _ h)
  · rw [if_neg hc] at h
    refine zt_iconst zy_64 (show q_ins q_k64 14 = some (.iconst 1, 0, 0) from rfl) ?_
    refine zt_goto zy_64 (show q_ins q_k64 15 = some (.goto 4, 19, 0) from rfl) ?_
    exact zt_wk (zt_cov_nil) (S_Tb_isOver_19  ht0 _ _ _ h)
theorem S_Tb_handOf_23 {X : q_X} {t0 : Nat} (ht0 : t0 ∈ zt_tabs) : ∀ (x0 : Int64) (σ : zt_S) (o : (Int64 × zt_S)), F_Tb_handOf_23 t0 x0 σ = some o → zt_Ex X 0 60 23 [] [.long x0] (zt_M T σ) (zo_L T o) := by
  intro x0 σ o  h
  unfold F_Tb_handOf_23 at h
  cases h
  exact zt_lret zy_60 (show q_ins q_k60 23 = some (.lreturn, 0, 0) from rfl)
theorem S_Tb_handOf_22 {X : q_X} {t0 : Nat} (ht0 : t0 ∈ zt_tabs) : ∀  (σ : zt_S) (o : (Int64 × zt_S)), F_Tb_handOf_22 t0  σ = some o → zt_Ex X 0 60 22 [] [] (zt_M T σ) (zo_L T o) := by
  intro  σ o  h
  unfold F_Tb_handOf_22 at h
  refine zt_lconst zy_60 (show q_ins q_k60 22 = some (.lconst 0, 0, 0) from rfl) (v := (0 : Int64)) (by decide) ?_
  exact zt_wk (zt_cov_nil) (S_Tb_handOf_23  ht0 _ _ _ h)
theorem S_Tb_handOf {X : q_X} {t0 : Nat} (ht0 : t0 ∈ zt_tabs) {v1 : Int} {σ : zt_S} {o : (Int64 × zt_S)} (h : F_Tb_handOf t0 v1 σ = some o) : zt_Ex X 0 60 0 (lv_args 0 [.ref t0, .int (Int32.ofInt v1)]) [] (zt_M T σ) (zo_L T o) := by
  unfold F_Tb_handOf at h
  refine zt_iload_n zy_60 (show q_ins q_k60 0 = some (.iload_n 1, 0, 0) from rfl) (v := Int32.ofInt v1) rfl ?_
  obtain ⟨hg, h⟩ := zt_ckE h
  refine zt_if_lt zy_60 (show q_ins q_k60 1 = some (.ifCond .lt 21, 22, 0) from rfl) (hg) (fun hc => ?_) (fun hc => ?_)
  · rw [if_pos hc] at h
    exact zt_wk (zt_cov_nil) (S_Tb_handOf_22  ht0 _ _ h)
  · rw [if_neg hc] at h
    refine zt_iload_n zy_60 (show q_ins q_k60 4 = some (.iload_n 1, 0, 0) from rfl) (v := Int32.ofInt v1) rfl ?_
    refine zt_aload_n zy_60 (show q_ins q_k60 5 = some (.aload_n 0, 0, 0) from rfl) (v := t0) rfl ?_
    refine zt_getR zy_60 (show q_ins q_k60 6 = some (.getfield 18, 6, 2) from rfl) (r := (t0 + 2)) (zk_T_2 ht0) ?_
    refine zt_alen zy_60 (show q_ins q_k60 9 = some (.arraylength, 0, 0) from rfl) (za_T2 ht0) (by decide) ?_
    obtain ⟨hg, h⟩ := zt_ckE h
    refine zt_icmp_ge zy_60 (show q_ins q_k60 10 = some (.if_icmp .ge 12, 22, 0) from rfl) (⟨hg, by decide⟩) (fun hc => ?_) (fun hc => ?_)
    · rw [if_pos hc] at h
      refine zt_aload_n zy_60 (show q_ins q_k60 13 = some (.aload_n 0, 0, 0) from rfl) (v := t0) rfl ?_
      refine zt_getR zy_60 (show q_ins q_k60 14 = some (.getfield 18, 6, 2) from rfl) (r := (t0 + 2)) (zk_T_2 ht0) ?_
      refine zt_iload_n zy_60 (show q_ins q_k60 17 = some (.iload_n 1, 0, 0) from rfl) (v := Int32.ofInt v1) rfl ?_
      obtain ⟨hg, h⟩ := zt_ckE h
      refine zt_lld zy_60 (show q_ins q_k60 18 = some (.laload, 0, 0) from rfl) (za_T2 ht0) (by decide) hg ?_
      refine zt_goto zy_60 (show q_ins q_k60 19 = some (.goto 4, 23, 0) from rfl) ?_
      exact zt_wk (zt_cov_nil) (S_Tb_handOf_23  ht0 _ _ _ h)
    · rw [if_neg hc] at h
      exact zt_wk (zt_cov_nil) (S_Tb_handOf_22  ht0 _ _ h)
theorem S_Su_cardsOf_24 {X : q_X} {t0 : Nat} (ht0 : t0 ∈ zt_sets) : ∀ (x0 : Int64) (σ : zt_S) (o : (Int64 × zt_S)), F_Su_cardsOf_24 t0 x0 σ = some o → zt_Ex X 0 36 24 [] [.long x0] (zt_M T σ) (zo_L T o) := by
  intro x0 σ o  h
  unfold F_Su_cardsOf_24 at h
  cases h
  exact zt_lret zy_36 (show q_ins q_k36 24 = some (.lreturn, 0, 0) from rfl)
theorem S_Su_cardsOf {X : q_X} {t0 : Nat} (ht0 : t0 ∈ zt_sets) {v1 : Int} {σ : zt_S} {o : (Int64 × zt_S)} (h : F_Su_cardsOf t0 v1 σ = some o) : zt_Ex X 0 36 0 (lv_args 0 [.ref t0, .int (Int32.ofInt v1)]) [] (zt_M T σ) (zo_L T o) := by
  unfold F_Su_cardsOf at h
  refine zt_iload_n zy_36 (show q_ins q_k36 0 = some (.iload_n 1, 0, 0) from rfl) (v := Int32.ofInt v1) rfl ?_
  refine zt_iconst zy_36 (show q_ins q_k36 1 = some (.iconst (-1), 0, 0) from rfl) ?_
  obtain ⟨hg, h⟩ := zt_ckE h
  refine zt_icmp_ne zy_36 (show q_ins q_k36 2 = some (.if_icmp .ne 7, 9, 0) from rfl) (⟨hg, by decide⟩) (fun hc => ?_) (fun hc => ?_)
  · rw [if_pos hc] at h
    refine zt_lconst zy_36 (show q_ins q_k36 5 = some (.lconst 0, 0, 0) from rfl) (v := (0 : Int64)) (by decide) ?_
    refine zt_goto zy_36 (show q_ins q_k36 6 = some (.goto 18, 24, 0) from rfl) ?_
    exact zt_wk (zt_cov_nil) (S_Su_cardsOf_24  ht0 _ _ _ h)
  · rw [if_neg hc] at h
    refine zt_lconst zy_36 (show q_ins q_k36 9 = some (.lconst 1, 0, 0) from rfl) (v := (1 : Int64)) (by decide) ?_
    refine zt_aload_n zy_36 (show q_ins q_k36 10 = some (.aload_n 0, 0, 0) from rfl) (v := t0) rfl ?_
    refine zt_getI zy_36 (show q_ins q_k36 11 = some (.getfield 9, 4, 0) from rfl) (j := 0) (zk_S_0 ht0) rfl ?_
    refine zt_lshl zy_36 (show q_ins q_k36 14 = some (.lshl, 0, 0) from rfl) ?_
    refine zt_lconst zy_36 (show q_ins q_k36 15 = some (.lconst 1, 0, 0) from rfl) (v := (1 : Int64)) (by decide) ?_
    refine zt_lsub zy_36 (show q_ins q_k36 16 = some (.lsub, 0, 0) from rfl) ?_
    refine zt_iload_n zy_36 (show q_ins q_k36 17 = some (.iload_n 1, 0, 0) from rfl) (v := Int32.ofInt v1) rfl ?_
    refine zt_aload_n zy_36 (show q_ins q_k36 18 = some (.aload_n 0, 0, 0) from rfl) (v := t0) rfl ?_
    refine zt_getI zy_36 (show q_ins q_k36 19 = some (.getfield 9, 4, 0) from rfl) (j := 0) (zk_S_0 ht0) rfl ?_
    refine zt_imul zy_36 (show q_ins q_k36 22 = some (.imul, 0, 0) from rfl) ?_
    refine zt_lshl zy_36 (show q_ins q_k36 23 = some (.lshl, 0, 0) from rfl) ?_
    exact zt_wk (zt_cov_nil) (S_Su_cardsOf_24  ht0 _ _ _ h)
theorem S_Tr_higherOf_57 {X : q_X} {t0 : Nat} {t1 : Nat} (ht0 : t0 ∈ zt_tris) (ht1 : t1 ∈ zt_sets) : ∀ (x0 : Int64) (σ : zt_S) (o : (Int64 × zt_S)), F_Tr_higherOf_57 t0 t1 x0 σ = some o → zt_Ex X 0 115 57 [] [.long x0] (zt_M T σ) (zo_L T o) := by
  intro x0 σ o  h
  unfold F_Tr_higherOf_57 at h
  cases h
  exact zt_lret zy_115 (show q_ins q_k115 57 = some (.lreturn, 0, 0) from rfl)
theorem S_Tr_higherOf_23 {X : q_X} {t0 : Nat} {t1 : Nat} (ht0 : t0 ∈ zt_tris) (ht1 : t1 ∈ zt_sets) : ∀ (v2 : Int64) (x0 : Int) (x1 : Int) (σ : zt_S) (o : (Int64 × zt_S)), F_Tr_higherOf_23 t0 t1 v2 x0 x1 σ = some o → zt_Ex X 0 115 23 [(0, .ref t0), (1, .ref t1), (2, .long v2)] [.int (Int32.ofInt x0), .int (Int32.ofInt x1)] (zt_M T σ) (zo_L T o) := by
  intro v2 x0 x1 σ o  h
  unfold F_Tr_higherOf_23 at h
  refine zt_isub zy_115 (show q_ins q_k115 23 = some (.isub, 0, 0) from rfl) ?_
  refine zt_istore zy_115 (show q_ins q_k115 24 = some (.istore 4, 0, 0) from rfl) (by decide) ?_
  refine zt_iload zy_115 (show q_ins q_k115 26 = some (.iload 4, 0, 0) from rfl) (v := Int32.ofInt (x1 - x0)) rfl ?_
  refine zt_aload_n zy_115 (show q_ins q_k115 28 = some (.aload_n 1, 0, 0) from rfl) (v := t1) rfl ?_
  refine zt_getI zy_115 (show q_ins q_k115 29 = some (.getfield 80, 4, 0) from rfl) (j := 0) (zk_S_0 ht1) rfl ?_
  obtain ⟨hg, h⟩ := zt_ckE h
  refine zt_icmp_lt zy_115 (show q_ins q_k115 32 = some (.if_icmp .lt 7, 39, 0) from rfl) (⟨hg.1, hg.2⟩) (fun hc => ?_) (fun hc => ?_)
  · rw [if_pos hc] at h
    refine zt_lload_n zy_115 (show q_ins q_k115 39 = some (.lload_n 2, 0, 0) from rfl) (v := v2) rfl ?_
    refine zt_ldc2 zy_115 (show q_ins q_k115 40 = some (.ldc2_w 83, 0, 18446744073709551615) from rfl) (v := (-1 : Int64)) (by decide) ?_
    refine zt_aload_n zy_115 (show q_ins q_k115 43 = some (.aload_n 0, 0, 0) from rfl) (v := t0) rfl ?_
    refine zt_getI zy_115 (show q_ins q_k115 44 = some (.getfield 9, 9, 3) from rfl) (j := 3) (zk_K_3 ht0) rfl ?_
    refine zt_aload_n zy_115 (show q_ins q_k115 47 = some (.aload_n 1, 0, 0) from rfl) (v := t1) rfl ?_
    refine zt_getI zy_115 (show q_ins q_k115 48 = some (.getfield 80, 4, 0) from rfl) (j := 0) (zk_S_0 ht1) rfl ?_
    refine zt_imul zy_115 (show q_ins q_k115 51 = some (.imul, 0, 0) from rfl) ?_
    refine zt_iload zy_115 (show q_ins q_k115 52 = some (.iload 4, 0, 0) from rfl) (v := Int32.ofInt (x1 - x0)) rfl ?_
    refine zt_iadd zy_115 (show q_ins q_k115 54 = some (.iadd, 0, 0) from rfl) ?_
    refine zt_lshl zy_115 (show q_ins q_k115 55 = some (.lshl, 0, 0) from rfl) ?_
    refine zt_land zy_115 (show q_ins q_k115 56 = some (.land, 0, 0) from rfl) ?_
    exact zt_wk (zt_cov_nil) (S_Tr_higherOf_57  ht0 ht1 _ _ _ h)
  · rw [if_neg hc] at h
    refine zt_lconst zy_115 (show q_ins q_k115 35 = some (.lconst 0, 0, 0) from rfl) (v := (0 : Int64)) (by decide) ?_
    refine zt_goto zy_115 (show q_ins q_k115 36 = some (.goto 21, 57, 0) from rfl) ?_
    exact zt_wk (zt_cov_nil) (S_Tr_higherOf_57  ht0 ht1 _ _ _ h)
theorem S_Tr_higherOf {X : q_X} {t0 : Nat} {t1 : Nat} (ht0 : t0 ∈ zt_tris) (ht1 : t1 ∈ zt_sets) {v2 : Int64} {σ : zt_S} {o : (Int64 × zt_S)} (h : F_Tr_higherOf t0 t1 v2 σ = some o) : zt_Ex X 0 115 0 (lv_args 0 [.ref t0, .ref t1, .long v2]) [] (zt_M T σ) (zo_L T o) := by
  unfold F_Tr_higherOf at h
  refine zt_aload_n zy_115 (show q_ins q_k115 0 = some (.aload_n 0, 0, 0) from rfl) (v := t0) rfl ?_
  refine zt_getI zy_115 (show q_ins q_k115 1 = some (.getfield 33, 9, 4) from rfl) (j := 4) (zk_K_4 ht0) rfl ?_
  refine zt_aload_n zy_115 (show q_ins q_k115 4 = some (.aload_n 0, 0, 0) from rfl) (v := t0) rfl ?_
  refine zt_getI zy_115 (show q_ins q_k115 5 = some (.getfield 9, 9, 3) from rfl) (j := 3) (zk_K_3 ht0) rfl ?_
  refine zt_aload_n zy_115 (show q_ins q_k115 8 = some (.aload_n 0, 0, 0) from rfl) (v := t0) rfl ?_
  refine zt_getI zy_115 (show q_ins q_k115 9 = some (.getfield 21, 9, 7) from rfl) (j := 7) (zk_K_7 ht0) rfl ?_
  obtain ⟨hg, h⟩ := zt_ckE h
  refine zt_icmp_ne zy_115 (show q_ins q_k115 12 = some (.if_icmp .ne 10, 22, 0) from rfl) (⟨hg.1, hg.2⟩) (fun hc => ?_) (fun hc => ?_)
  · rw [if_pos hc] at h
    refine zt_aload_n zy_115 (show q_ins q_k115 15 = some (.aload_n 0, 0, 0) from rfl) (v := t0) rfl ?_
    refine zt_getI zy_115 (show q_ins q_k115 16 = some (.getfield 36, 9, 8) from rfl) (j := 8) (zk_K_8 ht0) rfl ?_
    refine zt_goto zy_115 (show q_ins q_k115 19 = some (.goto 4, 23, 0) from rfl) ?_
    exact zt_wk (zt_cov_cons rfl (zt_cov_cons rfl (zt_cov_cons rfl (zt_cov_nil)))) (S_Tr_higherOf_23  ht0 ht1 _ _ _ _ _ h)
  · rw [if_neg hc] at h
    refine zt_iconst zy_115 (show q_ins q_k115 22 = some (.iconst 0, 0, 0) from rfl) ?_
    exact zt_wk (zt_cov_cons rfl (zt_cov_cons rfl (zt_cov_cons rfl (zt_cov_nil)))) (S_Tr_higherOf_23  ht0 ht1 _ _ _ _ _ h)
theorem S_Tr_allowed_12 {X : q_X} {t0 : Nat} {t1 : Nat} (ht0 : t0 ∈ zt_tris) (ht1 : t1 ∈ zt_sets) : ∀ (v2 : Int64) (σ : zt_S) (o : (Int64 × zt_S)), F_Tr_allowed_12 t0 t1 v2 σ = some o → zt_Ex X 1 114 12 [(2, .long v2)] [] (zt_M T σ) (zo_L T o) := by
  intro v2 σ o  h
  unfold F_Tr_allowed_12 at h
  refine zt_lload_n zy_114 (show q_ins q_k114 12 = some (.lload_n 2, 0, 0) from rfl) (v := v2) rfl ?_
  cases h
  exact zt_lret zy_114 (show q_ins q_k114 13 = some (.lreturn, 0, 0) from rfl)
theorem S_Tr_allowed_102 {X : q_X} {t0 : Nat} {t1 : Nat} (ht0 : t0 ∈ zt_tris) (ht1 : t1 ∈ zt_sets) : ∀ (x0 : Int64) (σ : zt_S) (o : (Int64 × zt_S)), F_Tr_allowed_102 t0 t1 x0 σ = some o → zt_Ex X 1 114 102 [] [.long x0] (zt_M T σ) (zo_L T o) := by
  intro x0 σ o  h
  unfold F_Tr_allowed_102 at h
  cases h
  exact zt_lret zy_114 (show q_ins q_k114 102 = some (.lreturn, 0, 0) from rfl)
theorem S_Tr_allowed_87 {X : q_X} {t0 : Nat} {t1 : Nat} (ht0 : t0 ∈ zt_tris) (ht1 : t1 ∈ zt_sets) : ∀ (v2 : Int64) (x0 : Int64) (σ : zt_S) (o : (Int64 × zt_S)), F_Tr_allowed_87 t0 t1 v2 x0 σ = some o → zt_Ex X 1 114 87 [(2, .long v2)] [.long x0] (zt_M T σ) (zo_L T o) := by
  intro v2 x0 σ o  h
  unfold F_Tr_allowed_87 at h
  refine zt_lstore zy_114 (show q_ins q_k114 87 = some (.lstore 7, 0, 0) from rfl) (by decide) ?_
  refine zt_lload zy_114 (show q_ins q_k114 89 = some (.lload 7, 0, 0) from rfl) (v := x0) rfl ?_
  refine zt_lconst zy_114 (show q_ins q_k114 91 = some (.lconst 0, 0, 0) from rfl) (v := (0 : Int64)) (by decide) ?_
  refine zt_lcmp zy_114 (show q_ins q_k114 92 = some (.lcmp, 0, 0) from rfl) ?_
  refine zt_if_eq zy_114 (show q_ins q_k114 93 = some (.ifCond .eq 8, 101, 0) from rfl) (zt_inT _) (fun hc => ?_) (fun hc => ?_)
  · rw [if_pos hc] at h
    refine zt_lload_n zy_114 (show q_ins q_k114 101 = some (.lload_n 2, 0, 0) from rfl) (v := v2) rfl ?_
    exact zt_wk (zt_cov_nil) (S_Tr_allowed_102  ht0 ht1 _ _ _ h)
  · rw [if_neg hc] at h
    refine zt_lload zy_114 (show q_ins q_k114 96 = some (.lload 7, 0, 0) from rfl) (v := x0) rfl ?_
    refine zt_goto zy_114 (show q_ins q_k114 98 = some (.goto 4, 102, 0) from rfl) ?_
    exact zt_wk (zt_cov_nil) (S_Tr_allowed_102  ht0 ht1 _ _ _ h)
theorem S_Tr_allowed_66 {X : q_X} {t0 : Nat} {t1 : Nat} (ht0 : t0 ∈ zt_tris) (ht1 : t1 ∈ zt_sets) : ∀ (x0 : Int64) (σ : zt_S) (o : (Int64 × zt_S)), F_Tr_allowed_66 t0 t1 x0 σ = some o → zt_Ex X 1 114 66 [] [.long x0] (zt_M T σ) (zo_L T o) := by
  intro x0 σ o  h
  unfold F_Tr_allowed_66 at h
  cases h
  exact zt_lret zy_114 (show q_ins q_k114 66 = some (.lreturn, 0, 0) from rfl)
theorem S_Tr_allowed_50 {X : q_X} {t0 : Nat} {t1 : Nat} (ht0 : t0 ∈ zt_tris) (ht1 : t1 ∈ zt_sets) : ∀ (v5 : Int64) (x0 : Int64) (σ : zt_S) (o : (Int64 × zt_S)), F_Tr_allowed_50 t0 t1 v5 x0 σ = some o → zt_Ex X 1 114 50 [(5, .long v5)] [.long x0] (zt_M T σ) (zo_L T o) := by
  intro v5 x0 σ o  h
  unfold F_Tr_allowed_50 at h
  refine zt_lstore zy_114 (show q_ins q_k114 50 = some (.lstore 7, 0, 0) from rfl) (by decide) ?_
  refine zt_lload zy_114 (show q_ins q_k114 52 = some (.lload 7, 0, 0) from rfl) (v := x0) rfl ?_
  refine zt_lconst zy_114 (show q_ins q_k114 54 = some (.lconst 0, 0, 0) from rfl) (v := (0 : Int64)) (by decide) ?_
  refine zt_lcmp zy_114 (show q_ins q_k114 55 = some (.lcmp, 0, 0) from rfl) ?_
  refine zt_if_eq zy_114 (show q_ins q_k114 56 = some (.ifCond .eq 8, 64, 0) from rfl) (zt_inT _) (fun hc => ?_) (fun hc => ?_)
  · rw [if_pos hc] at h
    refine zt_lload zy_114 (show q_ins q_k114 64 = some (.lload 5, 0, 0) from rfl) (v := v5) rfl ?_
    exact zt_wk (zt_cov_nil) (S_Tr_allowed_66  ht0 ht1 _ _ _ h)
  · rw [if_neg hc] at h
    refine zt_lload zy_114 (show q_ins q_k114 59 = some (.lload 7, 0, 0) from rfl) (v := x0) rfl ?_
    refine zt_goto zy_114 (show q_ins q_k114 61 = some (.goto 5, 66, 0) from rfl) ?_
    exact zt_wk (zt_cov_nil) (S_Tr_allowed_66  ht0 ht1 _ _ _ h)
theorem S_Tr_allowed {X : q_X} {t0 : Nat} {t1 : Nat} (ht0 : t0 ∈ zt_tris) (ht1 : t1 ∈ zt_sets) {v2 : Int64} {v4 : Int} {σ : zt_S} {o : (Int64 × zt_S)} (h : F_Tr_allowed t0 t1 v2 v4 σ = some o) : zt_Ex X 1 114 0 (lv_args 0 [.ref t0, .ref t1, .long v2, .int (Int32.ofInt v4)]) [] (zt_M T σ) (zo_L T o) := by
  unfold F_Tr_allowed at h
  refine zt_aload_n zy_114 (show q_ins q_k114 0 = some (.aload_n 0, 0, 0) from rfl) (v := t0) rfl ?_
  refine zt_getI zy_114 (show q_ins q_k114 1 = some (.getfield 30, 9, 2) from rfl) (j := 2) (zk_K_2 ht0) rfl ?_
  obtain ⟨hg, h⟩ := zt_ckE h
  refine zt_if_eq zy_114 (show q_ins q_k114 4 = some (.ifCond .eq 8, 12, 0) from rfl) (hg) (fun hc => ?_) (fun hc => ?_)
  · rw [if_pos hc] at h
    exact zt_wk (zt_cov_cons rfl (zt_cov_nil)) (S_Tr_allowed_12  ht0 ht1 _ _ _ h)
  · rw [if_neg hc] at h
    refine zt_iload zy_114 (show q_ins q_k114 7 = some (.iload 4, 0, 0) from rfl) (v := Int32.ofInt v4) rfl ?_
    obtain ⟨hg, h⟩ := zt_ckE h
    refine zt_if_ne zy_114 (show q_ins q_k114 9 = some (.ifCond .ne 5, 14, 0) from rfl) (hg) (fun hc => ?_) (fun hc => ?_)
    · rw [if_pos hc] at h
      exact zt_wk (zt_cov_cons rfl (zt_cov_nil)) (S_Tr_allowed_12  ht0 ht1 _ _ _ h)
    · rw [if_neg hc] at h
      refine zt_lload_n zy_114 (show q_ins q_k114 14 = some (.lload_n 2, 0, 0) from rfl) (v := v2) rfl ?_
      refine zt_aload_n zy_114 (show q_ins q_k114 15 = some (.aload_n 1, 0, 0) from rfl) (v := t1) rfl ?_
      refine zt_aload_n zy_114 (show q_ins q_k114 16 = some (.aload_n 0, 0, 0) from rfl) (v := t0) rfl ?_
      refine zt_getI zy_114 (show q_ins q_k114 17 = some (.getfield 9, 9, 3) from rfl) (j := 3) (zk_K_3 ht0) rfl ?_
      obtain ⟨a1, s2, hca1, h⟩ := zt_bdE h
      refine zt_callV (d := 0) zy_114 (show q_ins q_k114 20 = some (.invokevirtual 72, 36, 1) from rfl) zy_36 (by decide) ⟨zq_lt (by decide), by decide⟩ rfl (by simp [Value.category]) (by simp [lg_sl, Value.category]) (zt_rcv (zc_S ht1)) (zt_dm (by decide) (S_Su_cardsOf ht1 hca1)) ?_
      refine zt_land zy_114 (show q_ins q_k114 23 = some (.land, 0, 0) from rfl) ?_
      refine zt_lstore zy_114 (show q_ins q_k114 24 = some (.lstore 5, 0, 0) from rfl) (by decide) ?_
      refine zt_lload zy_114 (show q_ins q_k114 26 = some (.lload 5, 0, 0) from rfl) (v := (v2 &&& a1)) rfl ?_
      refine zt_lconst zy_114 (show q_ins q_k114 28 = some (.lconst 0, 0, 0) from rfl) (v := (0 : Int64)) (by decide) ?_
      refine zt_lcmp zy_114 (show q_ins q_k114 29 = some (.lcmp, 0, 0) from rfl) ?_
      refine zt_if_eq zy_114 (show q_ins q_k114 30 = some (.ifCond .eq 37, 67, 0) from rfl) (zt_inT _) (fun hc => ?_) (fun hc => ?_)
      · rw [if_pos hc] at h
        refine zt_iload zy_114 (show q_ins q_k114 67 = some (.iload 4, 0, 0) from rfl) (v := Int32.ofInt v4) rfl ?_
        refine zt_iconst zy_114 (show q_ins q_k114 69 = some (.iconst 3, 0, 0) from rfl) ?_
        obtain ⟨hg, h⟩ := zt_ckE h
        refine zt_icmp_ne zy_114 (show q_ins q_k114 70 = some (.if_icmp .ne 16, 86, 0) from rfl) (⟨hg, by decide⟩) (fun hc => ?_) (fun hc => ?_)
        · rw [if_pos hc] at h
          refine zt_lload_n zy_114 (show q_ins q_k114 73 = some (.lload_n 2, 0, 0) from rfl) (v := v2) rfl ?_
          refine zt_aload_n zy_114 (show q_ins q_k114 74 = some (.aload_n 1, 0, 0) from rfl) (v := t1) rfl ?_
          refine zt_aload_n zy_114 (show q_ins q_k114 75 = some (.aload_n 0, 0, 0) from rfl) (v := t0) rfl ?_
          refine zt_getI zy_114 (show q_ins q_k114 76 = some (.getfield 21, 9, 7) from rfl) (j := 7) (zk_K_7 ht0) rfl ?_
          obtain ⟨a3, s4, hca3, h⟩ := zt_bdE h
          refine zt_callV (d := 0) zy_114 (show q_ins q_k114 79 = some (.invokevirtual 72, 36, 1) from rfl) zy_36 (by decide) ⟨zq_lt (by decide), by decide⟩ rfl (by simp [Value.category]) (by simp [lg_sl, Value.category]) (zt_rcv (zc_S ht1)) (zt_dm (by decide) (S_Su_cardsOf ht1 hca3)) ?_
          refine zt_land zy_114 (show q_ins q_k114 82 = some (.land, 0, 0) from rfl) ?_
          refine zt_goto zy_114 (show q_ins q_k114 83 = some (.goto 4, 87, 0) from rfl) ?_
          exact zt_wk (zt_cov_cons rfl (zt_cov_nil)) (S_Tr_allowed_87  ht0 ht1 _ _ _ _ h)
        · rw [if_neg hc] at h
          refine zt_lconst zy_114 (show q_ins q_k114 86 = some (.lconst 0, 0, 0) from rfl) (v := (0 : Int64)) (by decide) ?_
          exact zt_wk (zt_cov_cons rfl (zt_cov_nil)) (S_Tr_allowed_87  ht0 ht1 _ _ _ _ h)
      · rw [if_neg hc] at h
        refine zt_iload zy_114 (show q_ins q_k114 33 = some (.iload 4, 0, 0) from rfl) (v := Int32.ofInt v4) rfl ?_
        refine zt_iconst zy_114 (show q_ins q_k114 35 = some (.iconst 2, 0, 0) from rfl) ?_
        obtain ⟨hg, h⟩ := zt_ckE h
        refine zt_icmp_ne zy_114 (show q_ins q_k114 36 = some (.if_icmp .ne 13, 49, 0) from rfl) (⟨hg, by decide⟩) (fun hc => ?_) (fun hc => ?_)
        · rw [if_pos hc] at h
          refine zt_aload_n zy_114 (show q_ins q_k114 39 = some (.aload_n 0, 0, 0) from rfl) (v := t0) rfl ?_
          refine zt_aload_n zy_114 (show q_ins q_k114 40 = some (.aload_n 1, 0, 0) from rfl) (v := t1) rfl ?_
          refine zt_lload zy_114 (show q_ins q_k114 41 = some (.lload 5, 0, 0) from rfl) (v := (v2 &&& a1)) rfl ?_
          obtain ⟨a5, s6, hca5, h⟩ := zt_bdE h
          refine zt_callV (d := 0) zy_114 (show q_ins q_k114 43 = some (.invokevirtual 76, 115, 2) from rfl) zy_115 (by decide) ⟨zq_lt (by decide), by decide⟩ rfl (by simp [Value.category]) (by simp [lg_sl, Value.category]) (zt_rcv (zc_K ht0)) (zt_dm (by decide) (S_Tr_higherOf ht0 ht1 hca5)) ?_
          refine zt_goto zy_114 (show q_ins q_k114 46 = some (.goto 4, 50, 0) from rfl) ?_
          exact zt_wk (zt_cov_cons rfl (zt_cov_nil)) (S_Tr_allowed_50  ht0 ht1 _ _ _ _ h)
        · rw [if_neg hc] at h
          refine zt_lconst zy_114 (show q_ins q_k114 49 = some (.lconst 0, 0, 0) from rfl) (v := (0 : Int64)) (by decide) ?_
          exact zt_wk (zt_cov_cons rfl (zt_cov_nil)) (S_Tr_allowed_50  ht0 ht1 _ _ _ _ h)
theorem S_Tb_allowedCards_37 {X : q_X} {t0 : Nat} (ht0 : t0 ∈ zt_tabs) : ∀ (x0 : Int64) (σ : zt_S) (o : (Int64 × zt_S)), F_Tb_allowedCards_37 t0 x0 σ = some o → zt_Ex X 2 65 37 [] [.long x0] (zt_M T σ) (zo_L T o) := by
  intro x0 σ o  h
  unfold F_Tb_allowedCards_37 at h
  cases h
  exact zt_lret zy_65 (show q_ins q_k65 37 = some (.lreturn, 0, 0) from rfl)
theorem S_Tb_allowedCards {X : q_X} {t0 : Nat} (ht0 : t0 ∈ zt_tabs)  {σ : zt_S} {o : (Int64 × zt_S)} (h : F_Tb_allowedCards t0  σ = some o) : zt_Ex X 2 65 0 (lv_args 0 [.ref t0]) [] (zt_M T σ) (zo_L T o) := by
  unfold F_Tb_allowedCards at h
  refine zt_aload_n zy_65 (show q_ins q_k65 0 = some (.aload_n 0, 0, 0) from rfl) (v := t0) rfl ?_
  obtain ⟨a1, s2, hca1, h⟩ := zt_bdE h
  refine zt_callV (d := 1) zy_65 (show q_ins q_k65 1 = some (.invokevirtual 178, 64, 0) from rfl) zy_64 (by decide) ⟨zq_lt (by decide), by decide⟩ rfl (by simp [Value.category]) (by simp [lg_sl, Value.category]) (zt_rcv (zc_T ht0)) (zt_dm (by decide) (S_Tb_isOver ht0 hca1)) ?_
  obtain ⟨hg, h⟩ := zt_ckE h
  refine zt_if_eq zy_65 (show q_ins q_k65 4 = some (.ifCond .eq 7, 11, 0) from rfl) (hg) (fun hc => ?_) (fun hc => ?_)
  · rw [if_pos hc] at h
    refine zt_aload_n zy_65 (show q_ins q_k65 11 = some (.aload_n 0, 0, 0) from rfl) (v := t0) rfl ?_
    refine zt_getR zy_65 (show q_ins q_k65 12 = some (.getfield 12, 6, 1) from rfl) (r := (t0 + 1)) (zk_T_1 ht0) ?_
    refine zt_aload_n zy_65 (show q_ins q_k65 15 = some (.aload_n 0, 0, 0) from rfl) (v := t0) rfl ?_
    refine zt_getR zy_65 (show q_ins q_k65 16 = some (.getfield 44, 6, 0) from rfl) (r := (zt_su t0)) (zk_T_0 ht0) ?_
    refine zt_aload_n zy_65 (show q_ins q_k65 19 = some (.aload_n 0, 0, 0) from rfl) (v := t0) rfl ?_
    refine zt_aload_n zy_65 (show q_ins q_k65 20 = some (.aload_n 0, 0, 0) from rfl) (v := t0) rfl ?_
    refine zt_getR zy_65 (show q_ins q_k65 21 = some (.getfield 12, 6, 1) from rfl) (r := (t0 + 1)) (zk_T_1 ht0) ?_
    refine zt_getI zy_65 (show q_ins q_k65 24 = some (.getfield 182, 9, 1) from rfl) (j := 1) (zk_K_1 (zm_T1 ht0)) rfl ?_
    obtain ⟨a3, s4, hca3, h⟩ := zt_bdE h
    refine zt_callV (d := 1) zy_65 (show q_ins q_k65 27 = some (.invokevirtual 153, 60, 1) from rfl) zy_60 (by decide) ⟨zq_lt (by decide), by decide⟩ rfl (by simp [Value.category]) (by simp [lg_sl, Value.category]) (zt_rcv (zc_T ht0)) (zt_dm (by decide) (S_Tb_handOf ht0 hca3)) ?_
    refine zt_aload_n zy_65 (show q_ins q_k65 30 = some (.aload_n 0, 0, 0) from rfl) (v := t0) rfl ?_
    refine zt_getI zy_65 (show q_ins q_k65 31 = some (.getfield 57, 6, 11) from rfl) (j := 11) (zk_T_11 ht0) rfl ?_
    obtain ⟨a5, s6, hca5, h⟩ := zt_bdE h
    refine zt_callV (d := 1) zy_65 (show q_ins q_k65 34 = some (.invokevirtual 185, 114, 3) from rfl) zy_114 (by decide) ⟨zq_lt (by decide), by decide⟩ rfl (by simp [Value.category]) (by simp [lg_sl, Value.category]) (zt_rcv (zc_K (zm_T1 ht0))) (zt_dm (by decide) (S_Tr_allowed (zm_T1 ht0) (zm_T0 ht0) hca5)) ?_
    exact zt_wk (zt_cov_nil) (S_Tb_allowedCards_37  ht0 _ _ _ h)
  · rw [if_neg hc] at h
    refine zt_lconst zy_65 (show q_ins q_k65 7 = some (.lconst 0, 0, 0) from rfl) (v := (0 : Int64)) (by decide) ?_
    refine zt_goto zy_65 (show q_ins q_k65 8 = some (.goto 29, 37, 0) from rfl) ?_
    exact zt_wk (zt_cov_nil) (S_Tb_allowedCards_37  ht0 _ _ _ h)
theorem S_Tb_holderOf_2 {X : q_X} {t0 : Nat} (ht0 : t0 ∈ zt_tabs) : ∀ (n : Nat) (v1 : Int) (v2 : Int) (σ : zt_S) (o : (Int × zt_S)), F_Tb_holderOf_2 t0 n v1 v2 σ = some o → zt_Ex X 1 63 2 [(0, .ref t0), (1, .int (Int32.ofInt v1)), (2, .int (Int32.ofInt v2))] [] (zt_M T σ) (zo_I T o) := by
  intro n
  induction n with
  | zero => intro v1 v2 σ o  h; cases h
  | succ n ih =>
  intro v1 v2 σ o  h
  rw [F_Tb_holderOf_2] at h
  refine zt_iload_n zy_63 (show q_ins q_k63 2 = some (.iload_n 2, 0, 0) from rfl) (v := Int32.ofInt v2) rfl ?_
  refine zt_aload_n zy_63 (show q_ins q_k63 3 = some (.aload_n 0, 0, 0) from rfl) (v := t0) rfl ?_
  refine zt_getR zy_63 (show q_ins q_k63 4 = some (.getfield 44, 6, 0) from rfl) (r := (zt_su t0)) (zk_T_0 ht0) ?_
  refine zt_getI zy_63 (show q_ins q_k63 7 = some (.getfield 146, 4, 1) from rfl) (j := 1) (zk_S_1 (zm_T0 ht0)) rfl ?_
  obtain ⟨hg, h⟩ := zt_ckE h
  refine zt_icmp_ge zy_63 (show q_ins q_k63 10 = some (.if_icmp .ge 23, 33, 0) from rfl) (⟨hg.1, hg.2⟩) (fun hc => ?_) (fun hc => ?_)
  · rw [if_pos hc] at h
    refine zt_aload_n zy_63 (show q_ins q_k63 13 = some (.aload_n 0, 0, 0) from rfl) (v := t0) rfl ?_
    refine zt_iload_n zy_63 (show q_ins q_k63 14 = some (.iload_n 2, 0, 0) from rfl) (v := Int32.ofInt v2) rfl ?_
    obtain ⟨a1, s2, hca1, h⟩ := zt_bdE h
    refine zt_callV (d := 0) zy_63 (show q_ins q_k63 15 = some (.invokevirtual 153, 60, 1) from rfl) zy_60 (by decide) ⟨zq_lt (by decide), by decide⟩ rfl (by simp [Value.category]) (by simp [lg_sl, Value.category]) (zt_rcv (zc_T ht0)) (zt_dm (by decide) (S_Tb_handOf ht0 hca1)) ?_
    refine zt_iload_n zy_63 (show q_ins q_k63 18 = some (.iload_n 1, 0, 0) from rfl) (v := Int32.ofInt v1) rfl ?_
    obtain ⟨a3, s4, hca3, h⟩ := zt_bdE h
    refine zt_callS (d := 0) zy_63 (show q_ins q_k63 19 = some (.invokestatic 174, 314, 2) from rfl) zy_314 (by decide) ⟨zq_lt (by decide), by decide⟩ rfl (by simp [Value.category]) (by simp [lg_sl, Value.category]) rfl (zt_dm (by decide) (S_Rw_has hca3)) ?_
    obtain ⟨hg, h⟩ := zt_ckE h
    refine zt_if_eq zy_63 (show q_ins q_k63 22 = some (.ifCond .eq 5, 27, 0) from rfl) (hg) (fun hc => ?_) (fun hc => ?_)
    · rw [if_pos hc] at h
      refine zt_iinc zy_63 (show q_ins q_k63 27 = some (.iinc 2 1, 0, 0) from rfl) (v := v2) (by decide) rfl ?_
      refine zt_goto zy_63 (show q_ins q_k63 30 = some (.goto (-28), 2, 0) from rfl) ?_
      exact zt_wk (zt_cov_cons rfl (zt_cov_cons rfl (zt_cov_cons rfl (zt_cov_nil)))) (ih _ _ _ _ h)
    · rw [if_neg hc] at h
      refine zt_iload_n zy_63 (show q_ins q_k63 25 = some (.iload_n 2, 0, 0) from rfl) (v := Int32.ofInt v2) rfl ?_
      cases h
      exact zt_iret zy_63 (show q_ins q_k63 26 = some (.ireturn, 0, 0) from rfl)
  · rw [if_neg hc] at h
    refine zt_iconst zy_63 (show q_ins q_k63 33 = some (.iconst (-1), 0, 0) from rfl) ?_
    cases h
    exact zt_iret zy_63 (show q_ins q_k63 34 = some (.ireturn, 0, 0) from rfl)
theorem S_Tb_holderOf {X : q_X} {t0 : Nat} (ht0 : t0 ∈ zt_tabs) {v1 : Int} {σ : zt_S} {o : (Int × zt_S)} (h : F_Tb_holderOf t0 v1 σ = some o) : zt_Ex X 1 63 0 (lv_args 0 [.ref t0, .int (Int32.ofInt v1)]) [] (zt_M T σ) (zo_I T o) := by
  unfold F_Tb_holderOf at h
  refine zt_iconst zy_63 (show q_ins q_k63 0 = some (.iconst 0, 0, 0) from rfl) ?_
  refine zt_istore_n zy_63 (show q_ins q_k63 1 = some (.istore_n 2, 0, 0) from rfl) (by decide) ?_
  exact zt_wk (zt_cov_cons rfl (zt_cov_cons rfl (zt_cov_cons rfl (zt_cov_nil)))) (S_Tb_holderOf_2  ht0 _ _ _ _ _ h)
theorem S_Tr_powerOf_49 {X : q_X} {t0 : Nat} {t1 : Nat} (ht0 : t0 ∈ zt_tris) (ht1 : t1 ∈ zt_sets) : ∀ (x0 : Int) (σ : zt_S) (o : (Int × zt_S)), F_Tr_powerOf_49 t0 t1 x0 σ = some o → zt_Ex X 1 108 49 [] [.int (Int32.ofInt x0)] (zt_M T σ) (zo_I T o) := by
  intro x0 σ o  h
  unfold F_Tr_powerOf_49 at h
  cases h
  exact zt_iret zy_108 (show q_ins q_k108 49 = some (.ireturn, 0, 0) from rfl)
theorem S_Tr_powerOf_40 {X : q_X} {t0 : Nat} {t1 : Nat} (ht0 : t0 ∈ zt_tris) (ht1 : t1 ∈ zt_sets) : ∀ (v2 : Int) (σ : zt_S) (o : (Int × zt_S)), F_Tr_powerOf_40 t0 t1 v2 σ = some o → zt_Ex X 1 108 40 [(1, .ref t1), (2, .int (Int32.ofInt v2))] [] (zt_M T σ) (zo_I T o) := by
  intro v2 σ o  h
  unfold F_Tr_powerOf_40 at h
  refine zt_aload_n zy_108 (show q_ins q_k108 40 = some (.aload_n 1, 0, 0) from rfl) (v := t1) rfl ?_
  refine zt_iload_n zy_108 (show q_ins q_k108 41 = some (.iload_n 2, 0, 0) from rfl) (v := Int32.ofInt v2) rfl ?_
  obtain ⟨a5, s6, hca5, h⟩ := zt_bdE h
  refine zt_callV (d := 0) zy_108 (show q_ins q_k108 42 = some (.invokevirtual 45, 34, 1) from rfl) zy_34 (by decide) ⟨zq_lt (by decide), by decide⟩ rfl (by simp [Value.category]) (by simp [lg_sl, Value.category]) (zt_rcv (zc_S ht1)) (zt_dm (by decide) (S_Su_rankOf ht1 hca5)) ?_
  refine zt_goto zy_108 (show q_ins q_k108 45 = some (.goto 4, 49, 0) from rfl) ?_
  exact zt_wk (zt_cov_nil) (S_Tr_powerOf_49  ht0 ht1 _ _ _ h)
theorem S_Tr_powerOf {X : q_X} {t0 : Nat} {t1 : Nat} (ht0 : t0 ∈ zt_tris) (ht1 : t1 ∈ zt_sets) {v2 : Int} {σ : zt_S} {o : (Int × zt_S)} (h : F_Tr_powerOf t0 t1 v2 σ = some o) : zt_Ex X 1 108 0 (lv_args 0 [.ref t0, .ref t1, .int (Int32.ofInt v2)]) [] (zt_M T σ) (zo_I T o) := by
  unfold F_Tr_powerOf at h
  refine zt_aload_n zy_108 (show q_ins q_k108 0 = some (.aload_n 1, 0, 0) from rfl) (v := t1) rfl ?_
  refine zt_iload_n zy_108 (show q_ins q_k108 1 = some (.iload_n 2, 0, 0) from rfl) (v := Int32.ofInt v2) rfl ?_
  obtain ⟨a1, s2, hca1, h⟩ := zt_bdE h
  refine zt_callV (d := 0) zy_108 (show q_ins q_k108 2 = some (.invokevirtual 39, 33, 1) from rfl) zy_33 (by decide) ⟨zq_lt (by decide), by decide⟩ rfl (by simp [Value.category]) (by simp [lg_sl, Value.category]) (zt_rcv (zc_S ht1)) (zt_dm (by decide) (S_Su_suitOf ht1 hca1)) ?_
  refine zt_istore_n zy_108 (show q_ins q_k108 5 = some (.istore_n 3, 0, 0) from rfl) (by decide) ?_
  refine zt_iload_n zy_108 (show q_ins q_k108 6 = some (.iload_n 3, 0, 0) from rfl) (v := Int32.ofInt a1) rfl ?_
  refine zt_aload_n zy_108 (show q_ins q_k108 7 = some (.aload_n 0, 0, 0) from rfl) (v := t0) rfl ?_
  refine zt_getI zy_108 (show q_ins q_k108 8 = some (.getfield 21, 9, 7) from rfl) (j := 7) (zk_K_7 ht0) rfl ?_
  obtain ⟨hg, h⟩ := zt_ckE h
  refine zt_icmp_ne zy_108 (show q_ins q_k108 11 = some (.if_icmp .ne 14, 25, 0) from rfl) (⟨hg.1, hg.2⟩) (fun hc => ?_) (fun hc => ?_)
  · rw [if_pos hc] at h
    refine zt_aload_n zy_108 (show q_ins q_k108 14 = some (.aload_n 1, 0, 0) from rfl) (v := t1) rfl ?_
    refine zt_iload_n zy_108 (show q_ins q_k108 15 = some (.iload_n 2, 0, 0) from rfl) (v := Int32.ofInt v2) rfl ?_
    obtain ⟨a3, s4, hca3, h⟩ := zt_bdE h
    refine zt_callV (d := 0) zy_108 (show q_ins q_k108 16 = some (.invokevirtual 45, 34, 1) from rfl) zy_34 (by decide) ⟨zq_lt (by decide), by decide⟩ rfl (by simp [Value.category]) (by simp [lg_sl, Value.category]) (zt_rcv (zc_S ht1)) (zt_dm (by decide) (S_Su_rankOf ht1 hca3)) ?_
    refine zt_aload_n zy_108 (show q_ins q_k108 19 = some (.aload_n 0, 0, 0) from rfl) (v := t0) rfl ?_
    refine zt_getI zy_108 (show q_ins q_k108 20 = some (.getfield 36, 9, 8) from rfl) (j := 8) (zk_K_8 ht0) rfl ?_
    refine zt_iadd zy_108 (show q_ins q_k108 23 = some (.iadd, 0, 0) from rfl) ?_
    cases h
    exact zt_iret zy_108 (show q_ins q_k108 24 = some (.ireturn, 0, 0) from rfl)
  · rw [if_neg hc] at h
    refine zt_aload_n zy_108 (show q_ins q_k108 25 = some (.aload_n 0, 0, 0) from rfl) (v := t0) rfl ?_
    refine zt_getI zy_108 (show q_ins q_k108 26 = some (.getfield 30, 9, 2) from rfl) (j := 2) (zk_K_2 ht0) rfl ?_
    obtain ⟨hg, h⟩ := zt_ckE h
    refine zt_if_eq zy_108 (show q_ins q_k108 29 = some (.ifCond .eq 11, 40, 0) from rfl) (hg) (fun hc => ?_) (fun hc => ?_)
    · rw [if_pos hc] at h
      exact zt_wk (zt_cov_cons rfl (zt_cov_cons rfl (zt_cov_nil))) (S_Tr_powerOf_40  ht0 ht1 _ _ _ h)
    · rw [if_neg hc] at h
      refine zt_iload_n zy_108 (show q_ins q_k108 32 = some (.iload_n 3, 0, 0) from rfl) (v := Int32.ofInt a1) rfl ?_
      refine zt_aload_n zy_108 (show q_ins q_k108 33 = some (.aload_n 0, 0, 0) from rfl) (v := t0) rfl ?_
      refine zt_getI zy_108 (show q_ins q_k108 34 = some (.getfield 9, 9, 3) from rfl) (j := 3) (zk_K_3 ht0) rfl ?_
      obtain ⟨hg, h⟩ := zt_ckE h
      refine zt_icmp_ne zy_108 (show q_ins q_k108 37 = some (.if_icmp .ne 11, 48, 0) from rfl) (⟨hg.1, hg.2⟩) (fun hc => ?_) (fun hc => ?_)
      · rw [if_pos hc] at h
        exact zt_wk (zt_cov_cons rfl (zt_cov_cons rfl (zt_cov_nil))) (S_Tr_powerOf_40  ht0 ht1 _ _ _ h)
      · rw [if_neg hc] at h
        refine zt_iconst zy_108 (show q_ins q_k108 48 = some (.iconst 0, 0, 0) from rfl) ?_
        exact zt_wk (zt_cov_nil) (S_Tr_powerOf_49  ht0 ht1 _ _ _ h)
end TT
