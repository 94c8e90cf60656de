/-! the mini-machine does what the functions say (by program) -/
theorem S_M_isMasterOf_69 {X : q_X}   : ∀  (σ : zt_S) (o : (Int × zt_S)), F_M_isMasterOf_69   σ = some o → zt_Ex X 2 258 69 [] [] (zt_M σ) (zo_I o) := by
  intro  σ o  h
  unfold F_M_isMasterOf_69 at h
  refine zt_iconst zy_258 (show q_ins q_k258 69 = some (.iconst 0, 0, 0) from rfl) ?_
  cases h
  exact zt_zret zy_258 (show q_ins q_k258 70 = some (.ireturn, 0, 0) from rfl) (by decide)
theorem S_M_isMasterOf_71 {X : q_X}   {r20 : Int → Int → Int → Int → zt_S → Option (Int × zt_S)} (hr20 : ∀ (v1 : Int) (v2 : Int) (v3 : Int) (v4 : Int) (σ : zt_S) (o : (Int × zt_S)), r20 v1 v2 v3 v4 σ = some o → zt_Ex X 2 258 20 [(0, .ref 163), (1, .int (Int32.ofInt v1)), (2, .int (Int32.ofInt v2)), (3, .int (Int32.ofInt v3)), (4, .int (Int32.ofInt v4))] [] (zt_M σ) (zo_I o)) : ∀ (v1 : Int) (v2 : Int) (v3 : Int) (v4 : Int) (σ : zt_S) (o : (Int × zt_S)), F_M_isMasterOf_71  r20 v1 v2 v3 v4 σ = some o → zt_Ex X 2 258 71 [(0, .ref 163), (1, .int (Int32.ofInt v1)), (2, .int (Int32.ofInt v2)), (3, .int (Int32.ofInt v3)), (4, .int (Int32.ofInt v4))] [] (zt_M σ) (zo_I o) := by
  intro v1 v2 v3 v4 σ o  h
  unfold F_M_isMasterOf_71 at h
  refine zt_iinc zy_258 (show q_ins q_k258 71 = some (.iinc 4 1, 0, 0) from rfl) (v := v4) (by decide) rfl ?_
  refine zt_goto zy_258 (show q_ins q_k258 74 = some (.goto (-54), 20, 0) from rfl) ?_
  exact zt_wk (zt_cov_cons rfl (zt_cov_cons rfl (zt_cov_cons rfl (zt_cov_cons rfl (zt_cov_cons rfl (zt_cov_nil)))))) (hr20 _ _ _ _ _ _ h)
theorem S_M_isMasterOf_20 {X : q_X}   : ∀ (n : Nat) (v1 : Int) (v2 : Int) (v3 : Int) (v4 : Int) (σ : zt_S) (o : (Int × zt_S)), F_M_isMasterOf_20  n v1 v2 v3 v4 σ = some o → zt_Ex X 2 258 20 [(0, .ref 163), (1, .int (Int32.ofInt v1)), (2, .int (Int32.ofInt v2)), (3, .int (Int32.ofInt v3)), (4, .int (Int32.ofInt v4))] [] (zt_M σ) (zo_I o) := by
  intro n
  induction n with
  | zero => intro v1 v2 v3 v4 σ o  h; cases h
  | succ n ih =>
  intro v1 v2 v3 v4 σ o  h
  rw [F_M_isMasterOf_20] at h
  refine zt_iload zy_258 (show q_ins q_k258 20 = some (.iload 4, 0, 0) from rfl) (v := Int32.ofInt v4) rfl ?_
  refine zt_aload_n zy_258 (show q_ins q_k258 22 = some (.aload_n 0, 0, 0) from rfl) (v := 163) rfl ?_
  obtain ⟨a7, s8, hca7, h⟩ := zt_bdE h
  refine zt_callV (d := 1) zy_258 (show q_ins q_k258 23 = some (.invokevirtual 244, 207, 0) from rfl) zy_207 (by decide) ⟨zq_lt (by decide), by decide⟩ rfl (by simp [Value.category]) (by simp [lg_sl, Value.category]) (zt_rcv zc_163) (zt_dm (by decide) (S_M_cards hca7)) ?_
  obtain ⟨hg, h⟩ := zt_ckE h
  refine zt_icmp_ge zy_258 (show q_ins q_k258 26 = some (.if_icmp .ge 51, 77, 0) from rfl) (⟨hg.1, hg.2⟩) (fun hc => ?_) (fun hc => ?_)
  · rw [if_pos hc] at h
    refine zt_iload_n zy_258 (show q_ins q_k258 29 = some (.iload_n 2, 0, 0) from rfl) (v := Int32.ofInt v2) rfl ?_
    refine zt_iconst zy_258 (show q_ins q_k258 30 = some (.iconst (-1), 0, 0) from rfl) ?_
    obtain ⟨hg, h⟩ := zt_ckE h
    refine zt_icmp_eq zy_258 (show q_ins q_k258 31 = some (.if_icmp .eq 38, 69, 0) from rfl) (⟨hg, by decide⟩) (fun hc => ?_) (fun hc => ?_)
    · rw [if_pos hc] at h
      exact zt_wk (zt_cov_nil) (S_M_isMasterOf_69  _ _ h)
    · rw [if_neg hc] at h
      refine zt_aload_n zy_258 (show q_ins q_k258 34 = some (.aload_n 0, 0, 0) from rfl) (v := 163) rfl ?_
      refine zt_iload zy_258 (show q_ins q_k258 35 = some (.iload 4, 0, 0) from rfl) (v := Int32.ofInt v4) rfl ?_
      obtain ⟨a9, s10, hca9, h⟩ := zt_bdE h
      refine zt_callV (d := 1) zy_258 (show q_ins q_k258 37 = some (.invokevirtual 275, 220, 1) from rfl) zy_220 (by decide) ⟨zq_lt (by decide), by decide⟩ rfl (by simp [Value.category]) (by simp [lg_sl, Value.category]) (zt_rcv zc_163) (zt_dm (by decide) (S_M_holderOf hca9)) ?_
      refine zt_iconst zy_258 (show q_ins q_k258 40 = some (.iconst (-1), 0, 0) from rfl) ?_
      obtain ⟨hg, h⟩ := zt_ckE h
      refine zt_icmp_eq zy_258 (show q_ins q_k258 41 = some (.if_icmp .eq 30, 71, 0) from rfl) (⟨hg, by decide⟩) (fun hc => ?_) (fun hc => ?_)
      · rw [if_pos hc] at h
        exact zt_wk (zt_cov_cons rfl (zt_cov_cons rfl (zt_cov_cons rfl (zt_cov_cons rfl (zt_cov_cons rfl (zt_cov_nil)))))) (S_M_isMasterOf_71  ih _ _ _ _ _ _ h)
      · rw [if_neg hc] at h
        refine zt_aload_n zy_258 (show q_ins q_k258 44 = some (.aload_n 0, 0, 0) from rfl) (v := 163) rfl ?_
        refine zt_iload zy_258 (show q_ins q_k258 45 = some (.iload 4, 0, 0) from rfl) (v := Int32.ofInt v4) rfl ?_
        obtain ⟨a11, s12, hca11, h⟩ := zt_bdE h
        refine zt_callV (d := 1) zy_258 (show q_ins q_k258 47 = some (.invokevirtual 275, 220, 1) from rfl) zy_220 (by decide) ⟨zq_lt (by decide), by decide⟩ rfl (by simp [Value.category]) (by simp [lg_sl, Value.category]) (zt_rcv zc_163) (zt_dm (by decide) (S_M_holderOf hca11)) ?_
        refine zt_iload_n zy_258 (show q_ins q_k258 50 = some (.iload_n 2, 0, 0) from rfl) (v := Int32.ofInt v2) rfl ?_
        obtain ⟨hg, h⟩ := zt_ckE h
        refine zt_icmp_eq zy_258 (show q_ins q_k258 51 = some (.if_icmp .eq 20, 71, 0) from rfl) (⟨hg.1, hg.2⟩) (fun hc => ?_) (fun hc => ?_)
        · rw [if_pos hc] at h
          exact zt_wk (zt_cov_cons rfl (zt_cov_cons rfl (zt_cov_cons rfl (zt_cov_cons rfl (zt_cov_cons rfl (zt_cov_nil)))))) (S_M_isMasterOf_71  ih _ _ _ _ _ _ h)
        · rw [if_neg hc] at h
          refine zt_aload_n zy_258 (show q_ins q_k258 54 = some (.aload_n 0, 0, 0) from rfl) (v := 163) rfl ?_
          refine zt_iload zy_258 (show q_ins q_k258 55 = some (.iload 4, 0, 0) from rfl) (v := Int32.ofInt v4) rfl ?_
          refine zt_aload_n zy_258 (show q_ins q_k258 57 = some (.aload_n 0, 0, 0) from rfl) (v := 163) rfl ?_
          refine zt_iload_n zy_258 (show q_ins q_k258 58 = some (.iload_n 1, 0, 0) from rfl) (v := Int32.ofInt v1) rfl ?_
          obtain ⟨a13, s14, hca13, h⟩ := zt_bdE h
          refine zt_callV (d := 1) zy_258 (show q_ins q_k258 59 = some (.invokevirtual 257, 209, 1) from rfl) zy_209 (by decide) ⟨zq_lt (by decide), by decide⟩ rfl (by simp [Value.category]) (by simp [lg_sl, Value.category]) (zt_rcv zc_163) (zt_dm (by decide) (S_M_suitOf hca13)) ?_
          obtain ⟨a15, s16, hca15, h⟩ := zt_bdE h
          refine zt_callV (d := 1) zy_258 (show q_ins q_k258 62 = some (.invokevirtual 266, 216, 2) from rfl) zy_216 (by decide) ⟨zq_lt (by decide), by decide⟩ rfl (by simp [Value.category]) (by simp [lg_sl, Value.category]) (zt_rcv zc_163) (zt_dm (by decide) (S_M_powerWith hca15)) ?_
          refine zt_iload_n zy_258 (show q_ins q_k258 65 = some (.iload_n 3, 0, 0) from rfl) (v := Int32.ofInt v3) rfl ?_
          obtain ⟨hg, h⟩ := zt_ckE h
          refine zt_icmp_lt zy_258 (show q_ins q_k258 66 = some (.if_icmp .lt 5, 71, 0) from rfl) (⟨hg.1, hg.2⟩) (fun hc => ?_) (fun hc => ?_)
          · rw [if_pos hc] at h
            exact zt_wk (zt_cov_cons rfl (zt_cov_cons rfl (zt_cov_cons rfl (zt_cov_cons rfl (zt_cov_cons rfl (zt_cov_nil)))))) (S_M_isMasterOf_71  ih _ _ _ _ _ _ h)
          · rw [if_neg hc] at h
            exact zt_wk (zt_cov_nil) (S_M_isMasterOf_69  _ _ h)
  · rw [if_neg hc] at h
    refine zt_iconst zy_258 (show q_ins q_k258 77 = some (.iconst 1, 0, 0) from rfl) ?_
    cases h
    exact zt_zret zy_258 (show q_ins q_k258 78 = some (.ireturn, 0, 0) from rfl) (by decide)
theorem S_M_isMasterOf {X : q_X}   {v1 : Int} {σ : zt_S} {o : (Int × zt_S)} (h : F_M_isMasterOf  v1 σ = some o) : zt_Ex X 2 258 0 (lv_args 0 [.ref 163, .int (Int32.ofInt v1)]) [] (zt_M σ) (zo_I o) := by
  unfold F_M_isMasterOf at h
  refine zt_aload_n zy_258 (show q_ins q_k258 0 = some (.aload_n 0, 0, 0) from rfl) (v := 163) rfl ?_
  refine zt_iload_n zy_258 (show q_ins q_k258 1 = some (.iload_n 1, 0, 0) from rfl) (v := Int32.ofInt v1) rfl ?_
  obtain ⟨a1, s2, hca1, h⟩ := zt_bdE h
  refine zt_callV (d := 1) zy_258 (show q_ins q_k258 2 = some (.invokevirtual 275, 220, 1) from rfl) zy_220 (by decide) ⟨zq_lt (by decide), by decide⟩ rfl (by simp [Value.category]) (by simp [lg_sl, Value.category]) (zt_rcv zc_163) (zt_dm (by decide) (S_M_holderOf hca1)) ?_
  refine zt_istore_n zy_258 (show q_ins q_k258 5 = some (.istore_n 2, 0, 0) from rfl) (by decide) ?_
  refine zt_aload_n zy_258 (show q_ins q_k258 6 = some (.aload_n 0, 0, 0) from rfl) (v := 163) rfl ?_
  refine zt_iload_n zy_258 (show q_ins q_k258 7 = some (.iload_n 1, 0, 0) from rfl) (v := Int32.ofInt v1) rfl ?_
  refine zt_aload_n zy_258 (show q_ins q_k258 8 = some (.aload_n 0, 0, 0) from rfl) (v := 163) rfl ?_
  refine zt_iload_n zy_258 (show q_ins q_k258 9 = some (.iload_n 1, 0, 0) from rfl) (v := Int32.ofInt v1) rfl ?_
  obtain ⟨a3, s4, hca3, h⟩ := zt_bdE h
  refine zt_callV (d := 1) zy_258 (show q_ins q_k258 10 = some (.invokevirtual 257, 209, 1) from rfl) zy_209 (by decide) ⟨zq_lt (by decide), by decide⟩ rfl (by simp [Value.category]) (by simp [lg_sl, Value.category]) (zt_rcv zc_163) (zt_dm (by decide) (S_M_suitOf hca3)) ?_
  obtain ⟨a5, s6, hca5, h⟩ := zt_bdE h
  refine zt_callV (d := 1) zy_258 (show q_ins q_k258 13 = some (.invokevirtual 266, 216, 2) from rfl) zy_216 (by decide) ⟨zq_lt (by decide), by decide⟩ rfl (by simp [Value.category]) (by simp [lg_sl, Value.category]) (zt_rcv zc_163) (zt_dm (by decide) (S_M_powerWith hca5)) ?_
  refine zt_istore_n zy_258 (show q_ins q_k258 16 = some (.istore_n 3, 0, 0) from rfl) (by decide) ?_
  refine zt_iconst zy_258 (show q_ins q_k258 17 = some (.iconst 0, 0, 0) from rfl) ?_
  refine zt_istore zy_258 (show q_ins q_k258 18 = some (.istore 4, 0, 0) from rfl) (by decide) ?_
  exact zt_wk (zt_cov_cons rfl (zt_cov_cons rfl (zt_cov_cons rfl (zt_cov_cons rfl (zt_cov_cons rfl (zt_cov_nil)))))) (S_M_isMasterOf_20  _ _ _ _ _ _ _ h)
theorem S_M_isMaster_31 {X : q_X}   : ∀ (x0 : Int) (σ : zt_S) (o : (Int × zt_S)), F_M_isMaster_31  x0 σ = some o → zt_Ex X 3 259 31 [] [.int (Int32.ofInt x0)] (zt_M σ) (zo_I o) := by
  intro x0 σ o  h
  unfold F_M_isMaster_31 at h
  obtain ⟨hg, h⟩ := zt_ckE h
  cases h
  exact zt_zret zy_259 (show q_ins q_k259 31 = some (.ireturn, 0, 0) from rfl) hg
theorem S_M_isMaster_30 {X : q_X}   : ∀  (σ : zt_S) (o : (Int × zt_S)), F_M_isMaster_30   σ = some o → zt_Ex X 3 259 30 [] [] (zt_M σ) (zo_I o) := by
  intro  σ o  h
  unfold F_M_isMaster_30 at h
  refine zt_iconst zy_259 (show q_ins q_k259 30 = some (.iconst 0, 0, 0) from rfl) ?_
  exact zt_wk (zt_cov_nil) (S_M_isMaster_31  _ _ _ h)
theorem S_M_isMaster {X : q_X}   {v1 : Int} {σ : zt_S} {o : (Int × zt_S)} (h : F_M_isMaster  v1 σ = some o) : zt_Ex X 3 259 0 (lv_args 0 [.ref 163, .int (Int32.ofInt v1)]) [] (zt_M σ) (zo_I o) := by
  unfold F_M_isMaster at h
  refine zt_aload_n zy_259 (show q_ins q_k259 0 = some (.aload_n 0, 0, 0) from rfl) (v := 163) rfl ?_
  refine zt_iconst zy_259 (show q_ins q_k259 1 = some (.iconst 0, 0, 0) from rfl) ?_
  obtain ⟨s1, hs1, h⟩ := zt_letE h
  refine zt_putI zy_259 (show q_ins q_k259 2 = some (.putfield 1, 11, 0) from rfl) (j := 0) zk_163_0 rfl rfl rfl ?_
  rw [← hs1]
  refine zt_aload_n zy_259 (show q_ins q_k259 5 = some (.aload_n 0, 0, 0) from rfl) (v := 163) rfl ?_
  refine zt_aload_n zy_259 (show q_ins q_k259 6 = some (.aload_n 0, 0, 0) from rfl) (v := 163) rfl ?_
  refine zt_iload_n zy_259 (show q_ins q_k259 7 = some (.iload_n 1, 0, 0) from rfl) (v := Int32.ofInt v1) rfl ?_
  obtain ⟨a2, s3, hca2, h⟩ := zt_bdE h
  refine zt_callV (d := 2) zy_259 (show q_ins q_k259 8 = some (.invokevirtual 314, 208, 1) from rfl) zy_208 (by decide) ⟨zq_lt (by decide), by decide⟩ rfl (by simp [Value.category]) (by simp [lg_sl, Value.category]) (zt_rcv zc_163) (zt_dm (by decide) (S_M_isCard hca2)) ?_
  refine zt_iconst zy_259 (show q_ins q_k259 11 = some (.iconst 1, 0, 0) from rfl) ?_
  obtain ⟨a4, s5, hca4, h⟩ := zt_bdE h
  refine zt_callV (d := 2) zy_259 (show q_ins q_k259 12 = some (.invokevirtual 227, 174, 2) from rfl) zy_174 (by decide) ⟨zq_lt (by decide), by decide⟩ rfl (by simp [Value.category]) (by simp [lg_sl, Value.category]) (zt_rcv zc_163) (zt_dm (by decide) (S_M_fails hca4)) ?_
  obtain ⟨hg, h⟩ := zt_ckE h
  refine zt_if_ne zy_259 (show q_ins q_k259 15 = some (.ifCond .ne 15, 30, 0) from rfl) (hg) (fun hc => ?_) (fun hc => ?_)
  · rw [if_pos hc] at h
    refine zt_aload_n zy_259 (show q_ins q_k259 18 = some (.aload_n 0, 0, 0) from rfl) (v := 163) rfl ?_
    refine zt_iload_n zy_259 (show q_ins q_k259 19 = some (.iload_n 1, 0, 0) from rfl) (v := Int32.ofInt v1) rfl ?_
    obtain ⟨a6, s7, hca6, h⟩ := zt_bdE h
    refine zt_callV (d := 2) zy_259 (show q_ins q_k259 20 = some (.invokevirtual 335, 258, 1) from rfl) zy_258 (by decide) ⟨zq_lt (by decide), by decide⟩ rfl (by simp [Value.category]) (by simp [lg_sl, Value.category]) (zt_rcv zc_163) (zt_dm (by decide) (S_M_isMasterOf hca6)) ?_
    obtain ⟨hg, h⟩ := zt_ckE h
    refine zt_if_eq zy_259 (show q_ins q_k259 23 = some (.ifCond .eq 7, 30, 0) from rfl) (hg) (fun hc => ?_) (fun hc => ?_)
    · rw [if_pos hc] at h
      exact zt_wk (zt_cov_nil) (S_M_isMaster_30  _ _ h)
    · rw [if_neg hc] at h
      refine zt_iconst zy_259 (show q_ins q_k259 26 = some (.iconst 1, 0, 0) from rfl) ?_
      refine zt_goto zy_259 (show q_ins q_k259 27 = some (.goto 4, 31, 0) from rfl) ?_
      exact zt_wk (zt_cov_nil) (S_M_isMaster_31  _ _ _ h)
  · rw [if_neg hc] at h
    exact zt_wk (zt_cov_nil) (S_M_isMaster_30  _ _ h)
theorem S_M_masters_55 {X : q_X}   {r24 : Int → Int → Int → zt_S → Option (Int × zt_S)} (hr24 : ∀ (v1 : Int) (v2 : Int) (v3 : Int) (σ : zt_S) (o : (Int × zt_S)), r24 v1 v2 v3 σ = some o → zt_Ex X 3 260 24 [(0, .ref 163), (1, .int (Int32.ofInt v1)), (2, .int (Int32.ofInt v2)), (3, .int (Int32.ofInt v3))] [] (zt_M σ) (zo_I o)) : ∀ (v1 : Int) (v3 : Int) (x0 : Int) (x1 : Int) (σ : zt_S) (o : (Int × zt_S)), F_M_masters_55  r24 v1 v3 x0 x1 σ = some o → zt_Ex X 3 260 55 [(0, .ref 163), (1, .int (Int32.ofInt v1)), (3, .int (Int32.ofInt v3))] [.int (Int32.ofInt x0), .int (Int32.ofInt x1)] (zt_M σ) (zo_I o) := by
  intro v1 v3 x0 x1 σ o  h
  unfold F_M_masters_55 at h
  refine zt_iadd zy_260 (show q_ins q_k260 55 = some (.iadd, 0, 0) from rfl) ?_
  refine zt_istore_n zy_260 (show q_ins q_k260 56 = some (.istore_n 2, 0, 0) from rfl) (by decide) ?_
  refine zt_iinc zy_260 (show q_ins q_k260 57 = some (.iinc 3 1, 0, 0) from rfl) (v := v3) (by decide) rfl ?_
  refine zt_goto zy_260 (show q_ins q_k260 60 = some (.goto (-36), 24, 0) from rfl) ?_
  exact zt_wk (zt_cov_cons rfl (zt_cov_cons rfl (zt_cov_cons rfl (zt_cov_cons rfl (zt_cov_nil))))) (hr24 _ _ _ _ _ h)
theorem S_M_masters_54 {X : q_X}   {r24 : Int → Int → Int → zt_S → Option (Int × zt_S)} (hr24 : ∀ (v1 : Int) (v2 : Int) (v3 : Int) (σ : zt_S) (o : (Int × zt_S)), r24 v1 v2 v3 σ = some o → zt_Ex X 3 260 24 [(0, .ref 163), (1, .int (Int32.ofInt v1)), (2, .int (Int32.ofInt v2)), (3, .int (Int32.ofInt v3))] [] (zt_M σ) (zo_I o)) : ∀ (v1 : Int) (v3 : Int) (x0 : Int) (σ : zt_S) (o : (Int × zt_S)), F_M_masters_54  r24 v1 v3 x0 σ = some o → zt_Ex X 3 260 54 [(0, .ref 163), (1, .int (Int32.ofInt v1)), (3, .int (Int32.ofInt v3))] [.int (Int32.ofInt x0)] (zt_M σ) (zo_I o) := by
  intro v1 v3 x0 σ o  h
  unfold F_M_masters_54 at h
  refine zt_iconst zy_260 (show q_ins q_k260 54 = some (.iconst 0, 0, 0) from rfl) ?_
  exact zt_wk (zt_cov_cons rfl (zt_cov_cons rfl (zt_cov_cons rfl (zt_cov_nil)))) (S_M_masters_55  hr24 _ _ _ _ _ _ h)
theorem S_M_masters_24 {X : q_X}   : ∀ (n : Nat) (v1 : Int) (v2 : Int) (v3 : Int) (σ : zt_S) (o : (Int × zt_S)), F_M_masters_24  n v1 v2 v3 σ = some o → zt_Ex X 3 260 24 [(0, .ref 163), (1, .int (Int32.ofInt v1)), (2, .int (Int32.ofInt v2)), (3, .int (Int32.ofInt v3))] [] (zt_M σ) (zo_I o) := by
  intro n
  induction n with
  | zero => intro v1 v2 v3 σ o  h; cases h
  | succ n ih =>
  intro v1 v2 v3 σ o  h
  rw [F_M_masters_24] at h
  refine zt_iload_n zy_260 (show q_ins q_k260 24 = some (.iload_n 3, 0, 0) from rfl) (v := Int32.ofInt v3) rfl ?_
  refine zt_aload_n zy_260 (show q_ins q_k260 25 = some (.aload_n 0, 0, 0) from rfl) (v := 163) rfl ?_
  obtain ⟨a6, s7, hca6, h⟩ := zt_bdE h
  refine zt_callV (d := 2) zy_260 (show q_ins q_k260 26 = some (.invokevirtual 244, 207, 0) from rfl) zy_207 (by decide) ⟨zq_lt (by decide), by decide⟩ rfl (by simp [Value.category]) (by simp [lg_sl, Value.category]) (zt_rcv zc_163) (zt_dm (by decide) (S_M_cards hca6)) ?_
  obtain ⟨hg, h⟩ := zt_ckE h
  refine zt_icmp_ge zy_260 (show q_ins q_k260 29 = some (.if_icmp .ge 34, 63, 0) from rfl) (⟨hg.1, hg.2⟩) (fun hc => ?_) (fun hc => ?_)
  · rw [if_pos hc] at h
    refine zt_iload_n zy_260 (show q_ins q_k260 32 = some (.iload_n 2, 0, 0) from rfl) (v := Int32.ofInt v2) rfl ?_
    refine zt_aload_n zy_260 (show q_ins q_k260 33 = some (.aload_n 0, 0, 0) from rfl) (v := 163) rfl ?_
    refine zt_iload_n zy_260 (show q_ins q_k260 34 = some (.iload_n 3, 0, 0) from rfl) (v := Int32.ofInt v3) rfl ?_
    obtain ⟨a8, s9, hca8, h⟩ := zt_bdE h
    refine zt_callV (d := 2) zy_260 (show q_ins q_k260 35 = some (.invokevirtual 275, 220, 1) from rfl) zy_220 (by decide) ⟨zq_lt (by decide), by decide⟩ rfl (by simp [Value.category]) (by simp [lg_sl, Value.category]) (zt_rcv zc_163) (zt_dm (by decide) (S_M_holderOf hca8)) ?_
    refine zt_iload_n zy_260 (show q_ins q_k260 38 = some (.iload_n 1, 0, 0) from rfl) (v := Int32.ofInt v1) rfl ?_
    obtain ⟨hg, h⟩ := zt_ckE h
    refine zt_icmp_ne zy_260 (show q_ins q_k260 39 = some (.if_icmp .ne 15, 54, 0) from rfl) (⟨hg.1, hg.2⟩) (fun hc => ?_) (fun hc => ?_)
    · rw [if_pos hc] at h
      refine zt_aload_n zy_260 (show q_ins q_k260 42 = some (.aload_n 0, 0, 0) from rfl) (v := 163) rfl ?_
      refine zt_iload_n zy_260 (show q_ins q_k260 43 = some (.iload_n 3, 0, 0) from rfl) (v := Int32.ofInt v3) rfl ?_
      obtain ⟨a10, s11, hca10, h⟩ := zt_bdE h
      refine zt_callV (d := 2) zy_260 (show q_ins q_k260 44 = some (.invokevirtual 335, 258, 1) from rfl) zy_258 (by decide) ⟨zq_lt (by decide), by decide⟩ rfl (by simp [Value.category]) (by simp [lg_sl, Value.category]) (zt_rcv zc_163) (zt_dm (by decide) (S_M_isMasterOf hca10)) ?_
      obtain ⟨hg, h⟩ := zt_ckE h
      refine zt_if_eq zy_260 (show q_ins q_k260 47 = some (.ifCond .eq 7, 54, 0) from rfl) (hg) (fun hc => ?_) (fun hc => ?_)
      · rw [if_pos hc] at h
        exact zt_wk (zt_cov_cons rfl (zt_cov_cons rfl (zt_cov_cons rfl (zt_cov_nil)))) (S_M_masters_54  ih _ _ _ _ _ h)
      · rw [if_neg hc] at h
        refine zt_iconst zy_260 (show q_ins q_k260 50 = some (.iconst 1, 0, 0) from rfl) ?_
        refine zt_goto zy_260 (show q_ins q_k260 51 = some (.goto 4, 55, 0) from rfl) ?_
        exact zt_wk (zt_cov_cons rfl (zt_cov_cons rfl (zt_cov_cons rfl (zt_cov_nil)))) (S_M_masters_55  ih _ _ _ _ _ _ h)
    · rw [if_neg hc] at h
      exact zt_wk (zt_cov_cons rfl (zt_cov_cons rfl (zt_cov_cons rfl (zt_cov_nil)))) (S_M_masters_54  ih _ _ _ _ _ h)
  · rw [if_neg hc] at h
    refine zt_iload_n zy_260 (show q_ins q_k260 63 = some (.iload_n 2, 0, 0) from rfl) (v := Int32.ofInt v2) rfl ?_
    cases h
    exact zt_iret zy_260 (show q_ins q_k260 64 = some (.ireturn, 0, 0) from rfl)
theorem S_M_masters {X : q_X}   {v1 : Int} {σ : zt_S} {o : (Int × zt_S)} (h : F_M_masters  v1 σ = some o) : zt_Ex X 3 260 0 (lv_args 0 [.ref 163, .int (Int32.ofInt v1)]) [] (zt_M σ) (zo_I o) := by
  unfold F_M_masters at h
  refine zt_aload_n zy_260 (show q_ins q_k260 0 = some (.aload_n 0, 0, 0) from rfl) (v := 163) rfl ?_
  refine zt_iconst zy_260 (show q_ins q_k260 1 = some (.iconst 0, 0, 0) from rfl) ?_
  obtain ⟨s1, hs1, h⟩ := zt_letE h
  refine zt_putI zy_260 (show q_ins q_k260 2 = some (.putfield 1, 11, 0) from rfl) (j := 0) zk_163_0 rfl rfl rfl ?_
  rw [← hs1]
  refine zt_aload_n zy_260 (show q_ins q_k260 5 = some (.aload_n 0, 0, 0) from rfl) (v := 163) rfl ?_
  refine zt_aload_n zy_260 (show q_ins q_k260 6 = some (.aload_n 0, 0, 0) from rfl) (v := 163) rfl ?_
  refine zt_iload_n zy_260 (show q_ins q_k260 7 = some (.iload_n 1, 0, 0) from rfl) (v := Int32.ofInt v1) rfl ?_
  obtain ⟨a2, s3, hca2, h⟩ := zt_bdE h
  refine zt_callV (d := 2) zy_260 (show q_ins q_k260 8 = some (.invokevirtual 319, 236, 1) from rfl) zy_236 (by decide) ⟨zq_lt (by decide), by decide⟩ rfl (by simp [Value.category]) (by simp [lg_sl, Value.category]) (zt_rcv zc_163) (zt_dm (by decide) (S_M_isPlayer hca2)) ?_
  refine zt_iconst zy_260 (show q_ins q_k260 11 = some (.iconst 1, 0, 0) from rfl) ?_
  obtain ⟨a4, s5, hca4, h⟩ := zt_bdE h
  refine zt_callV (d := 2) zy_260 (show q_ins q_k260 12 = some (.invokevirtual 227, 174, 2) from rfl) zy_174 (by decide) ⟨zq_lt (by decide), by decide⟩ rfl (by simp [Value.category]) (by simp [lg_sl, Value.category]) (zt_rcv zc_163) (zt_dm (by decide) (S_M_fails hca4)) ?_
  obtain ⟨hg, h⟩ := zt_ckE h
  refine zt_if_eq zy_260 (show q_ins q_k260 15 = some (.ifCond .eq 5, 20, 0) from rfl) (hg) (fun hc => ?_) (fun hc => ?_)
  · rw [if_pos hc] at h
    refine zt_iconst zy_260 (show q_ins q_k260 20 = some (.iconst 0, 0, 0) from rfl) ?_
    refine zt_istore_n zy_260 (show q_ins q_k260 21 = some (.istore_n 2, 0, 0) from rfl) (by decide) ?_
    refine zt_iconst zy_260 (show q_ins q_k260 22 = some (.iconst 0, 0, 0) from rfl) ?_
    refine zt_istore_n zy_260 (show q_ins q_k260 23 = some (.istore_n 3, 0, 0) from rfl) (by decide) ?_
    exact zt_wk (zt_cov_cons rfl (zt_cov_cons rfl (zt_cov_cons rfl (zt_cov_cons rfl (zt_cov_nil))))) (S_M_masters_24  _ _ _ _ _ _ h)
  · rw [if_neg hc] at h
    refine zt_iconst zy_260 (show q_ins q_k260 18 = some (.iconst 0, 0, 0) from rfl) ?_
    cases h
    exact zt_iret zy_260 (show q_ins q_k260 19 = some (.ireturn, 0, 0) from rfl)
theorem S_M_darkIn_56 {X : q_X}   : ∀ (x0 : Int) (σ : zt_S) (o : (Int × zt_S)), F_M_darkIn_56  x0 σ = some o → zt_Ex X 0 261 56 [] [.int (Int32.ofInt x0)] (zt_M σ) (zo_I o) := by
  intro x0 σ o  h
  unfold F_M_darkIn_56 at h
  cases h
  exact zt_iret zy_261 (show q_ins q_k261 56 = some (.ireturn, 0, 0) from rfl)
theorem S_M_darkIn {X : q_X}    {σ : zt_S} {o : (Int × zt_S)} (h : F_M_darkIn   σ = some o) : zt_Ex X 0 261 0 (lv_args 0 [.ref 163]) [] (zt_M σ) (zo_I o) := by
  unfold F_M_darkIn at h
  refine zt_aload_n zy_261 (show q_ins q_k261 0 = some (.aload_n 0, 0, 0) from rfl) (v := 163) rfl ?_
  refine zt_iconst zy_261 (show q_ins q_k261 1 = some (.iconst 0, 0, 0) from rfl) ?_
  obtain ⟨s1, hs1, h⟩ := zt_letE h
  refine zt_putI zy_261 (show q_ins q_k261 2 = some (.putfield 1, 11, 0) from rfl) (j := 0) zk_163_0 rfl rfl rfl ?_
  rw [← hs1]
  refine zt_aload_n zy_261 (show q_ins q_k261 5 = some (.aload_n 0, 0, 0) from rfl) (v := 163) rfl ?_
  refine zt_getR zy_261 (show q_ins q_k261 6 = some (.getfield 13, 11, 1) from rfl) (r := 164) zk_163_1 ?_
  refine zt_bipush zy_261 (show q_ins q_k261 9 = some (.bipush 11, 0, 0) from rfl) (by decide) ?_
  refine zt_ald zy_261 (show q_ins q_k261 11 = some (.iaload, 0, 0) from rfl) za_164 (by decide) (by decide) ?_
  obtain ⟨hg, h⟩ := zt_ckE h
  refine zt_if_ne zy_261 (show q_ins q_k261 12 = some (.ifCond .ne 5, 17, 0) from rfl) (hg) (fun hc => ?_) (fun hc => ?_)
  · rw [if_pos hc] at h
    refine zt_iconst zy_261 (show q_ins q_k261 15 = some (.iconst 0, 0, 0) from rfl) ?_
    cases h
    exact zt_iret zy_261 (show q_ins q_k261 16 = some (.ireturn, 0, 0) from rfl)
  · rw [if_neg hc] at h
    refine zt_aload_n zy_261 (show q_ins q_k261 17 = some (.aload_n 0, 0, 0) from rfl) (v := 163) rfl ?_
    refine zt_getR zy_261 (show q_ins q_k261 18 = some (.getfield 13, 11, 1) from rfl) (r := 164) zk_163_1 ?_
    refine zt_bipush zy_261 (show q_ins q_k261 21 = some (.bipush 6, 0, 0) from rfl) (by decide) ?_
    refine zt_ald zy_261 (show q_ins q_k261 23 = some (.iaload, 0, 0) from rfl) za_164 (by decide) (by decide) ?_
    obtain ⟨hg, h⟩ := zt_ckE h
    refine zt_if_ne zy_261 (show q_ins q_k261 24 = some (.ifCond .ne 7, 31, 0) from rfl) (hg) (fun hc => ?_) (fun hc => ?_)
    · rw [if_pos hc] at h
      refine zt_iconst zy_261 (show q_ins q_k261 27 = some (.iconst (-1), 0, 0) from rfl) ?_
      refine zt_goto zy_261 (show q_ins q_k261 28 = some (.goto 28, 56, 0) from rfl) ?_
      exact zt_wk (zt_cov_nil) (S_M_darkIn_56  _ _ _ h)
    · rw [if_neg hc] at h
      refine zt_aload_n zy_261 (show q_ins q_k261 31 = some (.aload_n 0, 0, 0) from rfl) (v := 163) rfl ?_
      refine zt_getR zy_261 (show q_ins q_k261 32 = some (.getfield 13, 11, 1) from rfl) (r := 164) zk_163_1 ?_
      refine zt_bipush zy_261 (show q_ins q_k261 35 = some (.bipush 11, 0, 0) from rfl) (by decide) ?_
      refine zt_ald zy_261 (show q_ins q_k261 37 = some (.iaload, 0, 0) from rfl) za_164 (by decide) (by decide) ?_
      refine zt_aload_n zy_261 (show q_ins q_k261 38 = some (.aload_n 0, 0, 0) from rfl) (v := 163) rfl ?_
      refine zt_getR zy_261 (show q_ins q_k261 39 = some (.getfield 13, 11, 1) from rfl) (r := 164) zk_163_1 ?_
      refine zt_bipush zy_261 (show q_ins q_k261 42 = some (.bipush 6, 0, 0) from rfl) (by decide) ?_
      refine zt_ald zy_261 (show q_ins q_k261 44 = some (.iaload, 0, 0) from rfl) za_164 (by decide) (by decide) ?_
      refine zt_iadd zy_261 (show q_ins q_k261 45 = some (.iadd, 0, 0) from rfl) ?_
      refine zt_iconst zy_261 (show q_ins q_k261 46 = some (.iconst 1, 0, 0) from rfl) ?_
      refine zt_isub zy_261 (show q_ins q_k261 47 = some (.isub, 0, 0) from rfl) ?_
      refine zt_aload_n zy_261 (show q_ins q_k261 48 = some (.aload_n 0, 0, 0) from rfl) (v := 163) rfl ?_
      refine zt_getR zy_261 (show q_ins q_k261 49 = some (.getfield 13, 11, 1) from rfl) (r := 164) zk_163_1 ?_
      refine zt_bipush zy_261 (show q_ins q_k261 52 = some (.bipush 6, 0, 0) from rfl) (by decide) ?_
      refine zt_ald zy_261 (show q_ins q_k261 54 = some (.iaload, 0, 0) from rfl) za_164 (by decide) (by decide) ?_
      obtain ⟨hg, h⟩ := zt_ckE h
      refine zt_idiv zy_261 (show q_ins q_k261 55 = some (.idiv, 0, 0) from rfl) hg.1 hg.2 ?_
      exact zt_wk (zt_cov_nil) (S_M_darkIn_56  _ _ _ h)
theorem S_M_puts_113 {X : q_X}   : ∀  (σ : zt_S) (o : (Unit × zt_S)), F_M_puts_113   σ = some o → zt_Ex X 5 262 113 [] [] (zt_M σ) (zo_V o) := by
  intro  σ o  h
  unfold F_M_puts_113 at h
  cases h
  exact zt_ret zy_262 (show q_ins q_k262 113 = some (.return_, 0, 0) from rfl)
theorem S_M_puts {X : q_X}   {v1 : Int} {v2 : Int} {σ : zt_S} {o : (Unit × zt_S)} (h : F_M_puts  v1 v2 σ = some o) : zt_Ex X 5 262 0 (lv_args 0 [.ref 163, .int (Int32.ofInt v1), .int (Int32.ofInt v2)]) [] (zt_M σ) (zo_V o) := by
  unfold F_M_puts at h
  refine zt_aload_n zy_262 (show q_ins q_k262 0 = some (.aload_n 0, 0, 0) from rfl) (v := 163) rfl ?_
  refine zt_getR zy_262 (show q_ins q_k262 1 = some (.getfield 51, 11, 23) from rfl) (r := 175) zk_163_23 ?_
  refine zt_iload_n zy_262 (show q_ins q_k262 4 = some (.iload_n 1, 0, 0) from rfl) (v := Int32.ofInt v1) rfl ?_
  refine zt_iload_n zy_262 (show q_ins q_k262 5 = some (.iload_n 2, 0, 0) from rfl) (v := Int32.ofInt v2) rfl ?_
  obtain ⟨hg, h⟩ := zt_ckE h
  obtain ⟨s1, hs1, h⟩ := zt_letE h
  refine zt_ast zy_262 (show q_ins q_k262 6 = some (.iastore, 0, 0) from rfl) za_175 (by decide) hg ?_
  rw [← hs1]
  refine zt_aload_n zy_262 (show q_ins q_k262 7 = some (.aload_n 0, 0, 0) from rfl) (v := 163) rfl ?_
  refine zt_getR zy_262 (show q_ins q_k262 8 = some (.getfield 54, 11, 24) from rfl) (r := 176) zk_163_24 ?_
  refine zt_iload_n zy_262 (show q_ins q_k262 11 = some (.iload_n 1, 0, 0) from rfl) (v := Int32.ofInt v1) rfl ?_
  refine zt_aload_n zy_262 (show q_ins q_k262 12 = some (.aload_n 0, 0, 0) from rfl) (v := 163) rfl ?_
  refine zt_getR zy_262 (show q_ins q_k262 13 = some (.getfield 13, 11, 1) from rfl) (r := 164) zk_163_1 ?_
  refine zt_bipush zy_262 (show q_ins q_k262 16 = some (.bipush 9, 0, 0) from rfl) (by decide) ?_
  refine zt_ald zy_262 (show q_ins q_k262 18 = some (.iaload, 0, 0) from rfl) za_164 (by decide) (by decide) ?_
  obtain ⟨hg, h⟩ := zt_ckE h
  obtain ⟨s2, hs2, h⟩ := zt_letE h
  refine zt_ast zy_262 (show q_ins q_k262 19 = some (.iastore, 0, 0) from rfl) za_176 (by decide) hg ?_
  rw [← hs2]
  refine zt_aload_n zy_262 (show q_ins q_k262 20 = some (.aload_n 0, 0, 0) from rfl) (v := 163) rfl ?_
  refine zt_getR zy_262 (show q_ins q_k262 21 = some (.getfield 57, 11, 25) from rfl) (r := 177) zk_163_25 ?_
  refine zt_iload_n zy_262 (show q_ins q_k262 24 = some (.iload_n 1, 0, 0) from rfl) (v := Int32.ofInt v1) rfl ?_
  refine zt_aload_n zy_262 (show q_ins q_k262 25 = some (.aload_n 0, 0, 0) from rfl) (v := 163) rfl ?_
  refine zt_getR zy_262 (show q_ins q_k262 26 = some (.getfield 13, 11, 1) from rfl) (r := 164) zk_163_1 ?_
  refine zt_bipush zy_262 (show q_ins q_k262 29 = some (.bipush 10, 0, 0) from rfl) (by decide) ?_
  refine zt_ald zy_262 (show q_ins q_k262 31 = some (.iaload, 0, 0) from rfl) za_164 (by decide) (by decide) ?_
  obtain ⟨hg, h⟩ := zt_ckE h
  obtain ⟨s3, hs3, h⟩ := zt_letE h
  refine zt_ast zy_262 (show q_ins q_k262 32 = some (.iastore, 0, 0) from rfl) za_177 (by decide) hg ?_
  rw [← hs3]
  refine zt_aload_n zy_262 (show q_ins q_k262 33 = some (.aload_n 0, 0, 0) from rfl) (v := 163) rfl ?_
  refine zt_getR zy_262 (show q_ins q_k262 34 = some (.getfield 60, 11, 26) from rfl) (r := 178) zk_163_26 ?_
  refine zt_iload_n zy_262 (show q_ins q_k262 37 = some (.iload_n 1, 0, 0) from rfl) (v := Int32.ofInt v1) rfl ?_
  refine zt_aload_n zy_262 (show q_ins q_k262 38 = some (.aload_n 0, 0, 0) from rfl) (v := 163) rfl ?_
  refine zt_getR zy_262 (show q_ins q_k262 39 = some (.getfield 13, 11, 1) from rfl) (r := 164) zk_163_1 ?_
  refine zt_bipush zy_262 (show q_ins q_k262 42 = some (.bipush 11, 0, 0) from rfl) (by decide) ?_
  refine zt_ald zy_262 (show q_ins q_k262 44 = some (.iaload, 0, 0) from rfl) za_164 (by decide) (by decide) ?_
  obtain ⟨hg, h⟩ := zt_ckE h
  obtain ⟨s4, hs4, h⟩ := zt_letE h
  refine zt_ast zy_262 (show q_ins q_k262 45 = some (.iastore, 0, 0) from rfl) za_178 (by decide) hg ?_
  rw [← hs4]
  refine zt_aload_n zy_262 (show q_ins q_k262 46 = some (.aload_n 0, 0, 0) from rfl) (v := 163) rfl ?_
  refine zt_getR zy_262 (show q_ins q_k262 47 = some (.getfield 63, 11, 27) from rfl) (r := 179) zk_163_27 ?_
  refine zt_iload_n zy_262 (show q_ins q_k262 50 = some (.iload_n 1, 0, 0) from rfl) (v := Int32.ofInt v1) rfl ?_
  refine zt_aload_n zy_262 (show q_ins q_k262 51 = some (.aload_n 0, 0, 0) from rfl) (v := 163) rfl ?_
  refine zt_getR zy_262 (show q_ins q_k262 52 = some (.getfield 13, 11, 1) from rfl) (r := 164) zk_163_1 ?_
  refine zt_bipush zy_262 (show q_ins q_k262 55 = some (.bipush 13, 0, 0) from rfl) (by decide) ?_
  refine zt_ald zy_262 (show q_ins q_k262 57 = some (.iaload, 0, 0) from rfl) za_164 (by decide) (by decide) ?_
  obtain ⟨hg, h⟩ := zt_ckE h
  obtain ⟨s5, hs5, h⟩ := zt_letE h
  refine zt_ast zy_262 (show q_ins q_k262 58 = some (.iastore, 0, 0) from rfl) za_179 (by decide) hg ?_
  rw [← hs5]
  refine zt_aload_n zy_262 (show q_ins q_k262 59 = some (.aload_n 0, 0, 0) from rfl) (v := 163) rfl ?_
  refine zt_getR zy_262 (show q_ins q_k262 60 = some (.getfield 13, 11, 1) from rfl) (r := 164) zk_163_1 ?_
  refine zt_bipush zy_262 (show q_ins q_k262 63 = some (.bipush 40, 0, 0) from rfl) (by decide) ?_
  refine zt_iload_n zy_262 (show q_ins q_k262 65 = some (.iload_n 2, 0, 0) from rfl) (v := Int32.ofInt v2) rfl ?_
  refine zt_iadd zy_262 (show q_ins q_k262 66 = some (.iadd, 0, 0) from rfl) ?_
  refine zt_iconst zy_262 (show q_ins q_k262 67 = some (.iconst (-1), 0, 0) from rfl) ?_
  obtain ⟨hg, h⟩ := zt_ckE h
  obtain ⟨s6, hs6, h⟩ := zt_letE h
  refine zt_ast zy_262 (show q_ins q_k262 68 = some (.iastore, 0, 0) from rfl) za_164 (by decide) hg ?_
  rw [← hs6]
  refine zt_aload_n zy_262 (show q_ins q_k262 69 = some (.aload_n 0, 0, 0) from rfl) (v := 163) rfl ?_
  refine zt_getR zy_262 (show q_ins q_k262 70 = some (.getfield 13, 11, 1) from rfl) (r := 164) zk_163_1 ?_
  refine zt_bipush zy_262 (show q_ins q_k262 73 = some (.bipush 92, 0, 0) from rfl) (by decide) ?_
  refine zt_aload_n zy_262 (show q_ins q_k262 75 = some (.aload_n 0, 0, 0) from rfl) (v := 163) rfl ?_
  refine zt_getR zy_262 (show q_ins q_k262 76 = some (.getfield 13, 11, 1) from rfl) (r := 164) zk_163_1 ?_
  refine zt_bipush zy_262 (show q_ins q_k262 79 = some (.bipush 12, 0, 0) from rfl) (by decide) ?_
  refine zt_ald zy_262 (show q_ins q_k262 81 = some (.iaload, 0, 0) from rfl) za_164 (by decide) (by decide) ?_
  refine zt_iadd zy_262 (show q_ins q_k262 82 = some (.iadd, 0, 0) from rfl) ?_
  refine zt_iload_n zy_262 (show q_ins q_k262 83 = some (.iload_n 2, 0, 0) from rfl) (v := Int32.ofInt v2) rfl ?_
  obtain ⟨hg, h⟩ := zt_ckE h
  obtain ⟨s7, hs7, h⟩ := zt_letE h
  refine zt_ast zy_262 (show q_ins q_k262 84 = some (.iastore, 0, 0) from rfl) za_164 (by decide) hg ?_
  rw [← hs7]
  refine zt_aload_n zy_262 (show q_ins q_k262 85 = some (.aload_n 0, 0, 0) from rfl) (v := 163) rfl ?_
  refine zt_getR zy_262 (show q_ins q_k262 86 = some (.getfield 13, 11, 1) from rfl) (r := 164) zk_163_1 ?_
  refine zt_bipush zy_262 (show q_ins q_k262 89 = some (.bipush 12, 0, 0) from rfl) (by decide) ?_
  refine zt_dup2 zy_262 (show q_ins q_k262 91 = some (.dup2, 0, 0) from rfl) ⟨rfl, rfl⟩ ?_
  refine zt_ald zy_262 (show q_ins q_k262 92 = some (.iaload, 0, 0) from rfl) za_164 (by decide) (by decide) ?_
  refine zt_iconst zy_262 (show q_ins q_k262 93 = some (.iconst 1, 0, 0) from rfl) ?_
  refine zt_iadd zy_262 (show q_ins q_k262 94 = some (.iadd, 0, 0) from rfl) ?_
  obtain ⟨s8, hs8, h⟩ := zt_letE h
  refine zt_ast zy_262 (show q_ins q_k262 95 = some (.iastore, 0, 0) from rfl) za_164 (by decide) (by decide) ?_
  rw [← hs8]
  refine zt_aload_n zy_262 (show q_ins q_k262 96 = some (.aload_n 0, 0, 0) from rfl) (v := 163) rfl ?_
  obtain ⟨a9, s10, hca9, h⟩ := zt_bdE h
  refine zt_callV (d := 4) zy_262 (show q_ins q_k262 97 = some (.invokevirtual 251, 212, 0) from rfl) zy_212 (by decide) ⟨zq_lt (by decide), by decide⟩ rfl (by simp [Value.category]) (by simp [lg_sl, Value.category]) (zt_rcv zc_163) (zt_dm (by decide) (S_M_inTrick hca9)) ?_
  refine zt_aload_n zy_262 (show q_ins q_k262 100 = some (.aload_n 0, 0, 0) from rfl) (v := 163) rfl ?_
  refine zt_getR zy_262 (show q_ins q_k262 101 = some (.getfield 13, 11, 1) from rfl) (r := 164) zk_163_1 ?_
  refine zt_iconst zy_262 (show q_ins q_k262 104 = some (.iconst 1, 0, 0) from rfl) ?_
  refine zt_ald zy_262 (show q_ins q_k262 105 = some (.iaload, 0, 0) from rfl) za_164 (by decide) (by decide) ?_
  obtain ⟨hg, h⟩ := zt_ckE h
  refine zt_icmp_ne zy_262 (show q_ins q_k262 106 = some (.if_icmp .ne 7, 113, 0) from rfl) (⟨hg.1, hg.2⟩) (fun hc => ?_) (fun hc => ?_)
  · rw [if_pos hc] at h
    refine zt_aload_n zy_262 (show q_ins q_k262 109 = some (.aload_n 0, 0, 0) from rfl) (v := 163) rfl ?_
    obtain ⟨a11, s12, hca11, h⟩ := zt_bdE h
    refine zt_callV (d := 4) zy_262 (show q_ins q_k262 110 = some (.invokevirtual 303, 227, 0) from rfl) zy_227 (by decide) ⟨zq_lt (by decide), by decide⟩ rfl (by simp [Value.category]) (by simp [lg_sl, Value.category]) (zt_rcv zc_163) (zt_dm (by decide) (S_M_endsTrick hca11)) ?_
    exact zt_wk (zt_cov_nil) (S_M_puts_113  _ _ h)
  · rw [if_neg hc] at h
    exact zt_wk (zt_cov_nil) (S_M_puts_113  _ _ h)
theorem S_M_gains_44 {X : q_X}   : ∀ (x0 : Int) (σ : zt_S) (o : (Int × zt_S)), F_M_gains_44  x0 σ = some o → zt_Ex X 1 263 44 [] [.int (Int32.ofInt x0)] (zt_M σ) (zo_I o) := by
  intro x0 σ o  h
  unfold F_M_gains_44 at h
  cases h
  exact zt_iret zy_263 (show q_ins q_k263 44 = some (.ireturn, 0, 0) from rfl)
theorem S_M_gains_43 {X : q_X}   : ∀  (σ : zt_S) (o : (Int × zt_S)), F_M_gains_43   σ = some o → zt_Ex X 1 263 43 [] [] (zt_M σ) (zo_I o) := by
  intro  σ o  h
  unfold F_M_gains_43 at h
  refine zt_iconst zy_263 (show q_ins q_k263 43 = some (.iconst 0, 0, 0) from rfl) ?_
  exact zt_wk (zt_cov_nil) (S_M_gains_44  _ _ _ h)
theorem S_M_gains {X : q_X}   {v1 : Int} {σ : zt_S} {o : (Int × zt_S)} (h : F_M_gains  v1 σ = some o) : zt_Ex X 1 263 0 (lv_args 0 [.ref 163, .int (Int32.ofInt v1)]) [] (zt_M σ) (zo_I o) := by
  unfold F_M_gains at h
  refine zt_aload_n zy_263 (show q_ins q_k263 0 = some (.aload_n 0, 0, 0) from rfl) (v := 163) rfl ?_
  refine zt_getR zy_263 (show q_ins q_k263 1 = some (.getfield 13, 11, 1) from rfl) (r := 164) zk_163_1 ?_
  refine zt_bipush zy_263 (show q_ins q_k263 4 = some (.bipush 13, 0, 0) from rfl) (by decide) ?_
  refine zt_ald zy_263 (show q_ins q_k263 6 = some (.iaload, 0, 0) from rfl) za_164 (by decide) (by decide) ?_
  refine zt_aload_n zy_263 (show q_ins q_k263 7 = some (.aload_n 0, 0, 0) from rfl) (v := 163) rfl ?_
  refine zt_getR zy_263 (show q_ins q_k263 8 = some (.getfield 63, 11, 27) from rfl) (r := 179) zk_163_27 ?_
  refine zt_iload_n zy_263 (show q_ins q_k263 11 = some (.iload_n 1, 0, 0) from rfl) (v := Int32.ofInt v1) rfl ?_
  obtain ⟨hg, h⟩ := zt_ckE h
  refine zt_ald zy_263 (show q_ins q_k263 12 = some (.iaload, 0, 0) from rfl) za_179 (by decide) hg ?_
  obtain ⟨hg, h⟩ := zt_ckE h
  refine zt_icmp_le zy_263 (show q_ins q_k263 13 = some (.if_icmp .le 30, 43, 0) from rfl) (⟨hg.1, hg.2⟩) (fun hc => ?_) (fun hc => ?_)
  · rw [if_pos hc] at h
    refine zt_aload_n zy_263 (show q_ins q_k263 16 = some (.aload_n 0, 0, 0) from rfl) (v := 163) rfl ?_
    refine zt_getR zy_263 (show q_ins q_k263 17 = some (.getfield 13, 11, 1) from rfl) (r := 164) zk_163_1 ?_
    refine zt_aload_n zy_263 (show q_ins q_k263 20 = some (.aload_n 0, 0, 0) from rfl) (v := 163) rfl ?_
    refine zt_aload_n zy_263 (show q_ins q_k263 21 = some (.aload_n 0, 0, 0) from rfl) (v := 163) rfl ?_
    refine zt_getR zy_263 (show q_ins q_k263 22 = some (.getfield 63, 11, 27) from rfl) (r := 179) zk_163_27 ?_
    refine zt_iload_n zy_263 (show q_ins q_k263 25 = some (.iload_n 1, 0, 0) from rfl) (v := Int32.ofInt v1) rfl ?_
    obtain ⟨hg, h⟩ := zt_ckE h
    refine zt_ald zy_263 (show q_ins q_k263 26 = some (.iaload, 0, 0) from rfl) za_179 (by decide) hg ?_
    refine zt_iconst zy_263 (show q_ins q_k263 27 = some (.iconst 1, 0, 0) from rfl) ?_
    obtain ⟨a1, s2, hca1, h⟩ := zt_bdE h
    refine zt_callV (d := 0) zy_263 (show q_ins q_k263 28 = some (.invokevirtual 297, 225, 2) from rfl) zy_225 (by decide) ⟨zq_lt (by decide), by decide⟩ rfl (by simp [Value.category]) (by simp [lg_sl, Value.category]) (zt_rcv zc_163) (zt_dm (by decide) (S_M_trickCell hca1)) ?_
    obtain ⟨hg, h⟩ := zt_ckE h
    refine zt_ald zy_263 (show q_ins q_k263 31 = some (.iaload, 0, 0) from rfl) za_164 (by decide) hg ?_
    refine zt_aload_n zy_263 (show q_ins q_k263 32 = some (.aload_n 0, 0, 0) from rfl) (v := 163) rfl ?_
    refine zt_getI zy_263 (show q_ins q_k263 33 = some (.getfield 338, 11, 28) from rfl) (j := 28) zk_163_28 rfl ?_
    obtain ⟨hg, h⟩ := zt_ckE h
    refine zt_icmp_ne zy_263 (show q_ins q_k263 36 = some (.if_icmp .ne 7, 43, 0) from rfl) (⟨hg.1, hg.2⟩) (fun hc => ?_) (fun hc => ?_)
    · rw [if_pos hc] at h
      refine zt_iconst zy_263 (show q_ins q_k263 39 = some (.iconst 1, 0, 0) from rfl) ?_
      refine zt_goto zy_263 (show q_ins q_k263 40 = some (.goto 4, 44, 0) from rfl) ?_
      exact zt_wk (zt_cov_nil) (S_M_gains_44  _ _ _ h)
    · rw [if_neg hc] at h
      exact zt_wk (zt_cov_nil) (S_M_gains_43  _ _ h)
  · rw [if_neg hc] at h
    exact zt_wk (zt_cov_nil) (S_M_gains_43  _ _ h)
theorem S_M_takesBack {X : q_X}   {v1 : Int} {v2 : Int} {σ : zt_S} {o : (Int × zt_S)} (h : F_M_takesBack  v1 v2 σ = some o) : zt_Ex X 2 264 0 (lv_args 0 [.ref 163, .int (Int32.ofInt v1), .int (Int32.ofInt v2)]) [] (zt_M σ) (zo_I o) := by
  unfold F_M_takesBack at h
  refine zt_aload_n zy_264 (show q_ins q_k264 0 = some (.aload_n 0, 0, 0) from rfl) (v := 163) rfl ?_
  refine zt_iload_n zy_264 (show q_ins q_k264 1 = some (.iload_n 1, 0, 0) from rfl) (v := Int32.ofInt v1) rfl ?_
  obtain ⟨a1, s2, hca1, h⟩ := zt_bdE h
  refine zt_callV (d := 1) zy_264 (show q_ins q_k264 2 = some (.invokevirtual 341, 263, 1) from rfl) zy_263 (by decide) ⟨zq_lt (by decide), by decide⟩ rfl (by simp [Value.category]) (by simp [lg_sl, Value.category]) (zt_rcv zc_163) (zt_dm (by decide) (S_M_gains hca1)) ?_
  refine zt_istore_n zy_264 (show q_ins q_k264 5 = some (.istore_n 3, 0, 0) from rfl) (by decide) ?_
  refine zt_aload_n zy_264 (show q_ins q_k264 6 = some (.aload_n 0, 0, 0) from rfl) (v := 163) rfl ?_
  refine zt_getR zy_264 (show q_ins q_k264 7 = some (.getfield 13, 11, 1) from rfl) (r := 164) zk_163_1 ?_
  refine zt_bipush zy_264 (show q_ins q_k264 10 = some (.bipush 9, 0, 0) from rfl) (by decide) ?_
  refine zt_aload_n zy_264 (show q_ins q_k264 12 = some (.aload_n 0, 0, 0) from rfl) (v := 163) rfl ?_
  refine zt_getR zy_264 (show q_ins q_k264 13 = some (.getfield 54, 11, 24) from rfl) (r := 176) zk_163_24 ?_
  refine zt_iload_n zy_264 (show q_ins q_k264 16 = some (.iload_n 1, 0, 0) from rfl) (v := Int32.ofInt v1) rfl ?_
  obtain ⟨hg, h⟩ := zt_ckE h
  refine zt_ald zy_264 (show q_ins q_k264 17 = some (.iaload, 0, 0) from rfl) za_176 (by decide) hg ?_
  obtain ⟨s3, hs3, h⟩ := zt_letE h
  refine zt_ast zy_264 (show q_ins q_k264 18 = some (.iastore, 0, 0) from rfl) za_164 (by decide) (by decide) ?_
  rw [← hs3]
  refine zt_aload_n zy_264 (show q_ins q_k264 19 = some (.aload_n 0, 0, 0) from rfl) (v := 163) rfl ?_
  refine zt_getR zy_264 (show q_ins q_k264 20 = some (.getfield 13, 11, 1) from rfl) (r := 164) zk_163_1 ?_
  refine zt_bipush zy_264 (show q_ins q_k264 23 = some (.bipush 10, 0, 0) from rfl) (by decide) ?_
  refine zt_aload_n zy_264 (show q_ins q_k264 25 = some (.aload_n 0, 0, 0) from rfl) (v := 163) rfl ?_
  refine zt_getR zy_264 (show q_ins q_k264 26 = some (.getfield 57, 11, 25) from rfl) (r := 177) zk_163_25 ?_
  refine zt_iload_n zy_264 (show q_ins q_k264 29 = some (.iload_n 1, 0, 0) from rfl) (v := Int32.ofInt v1) rfl ?_
  obtain ⟨hg, h⟩ := zt_ckE h
  refine zt_ald zy_264 (show q_ins q_k264 30 = some (.iaload, 0, 0) from rfl) za_177 (by decide) hg ?_
  obtain ⟨s4, hs4, h⟩ := zt_letE h
  refine zt_ast zy_264 (show q_ins q_k264 31 = some (.iastore, 0, 0) from rfl) za_164 (by decide) (by decide) ?_
  rw [← hs4]
  refine zt_aload_n zy_264 (show q_ins q_k264 32 = some (.aload_n 0, 0, 0) from rfl) (v := 163) rfl ?_
  refine zt_getR zy_264 (show q_ins q_k264 33 = some (.getfield 13, 11, 1) from rfl) (r := 164) zk_163_1 ?_
  refine zt_bipush zy_264 (show q_ins q_k264 36 = some (.bipush 11, 0, 0) from rfl) (by decide) ?_
  refine zt_aload_n zy_264 (show q_ins q_k264 38 = some (.aload_n 0, 0, 0) from rfl) (v := 163) rfl ?_
  refine zt_getR zy_264 (show q_ins q_k264 39 = some (.getfield 60, 11, 26) from rfl) (r := 178) zk_163_26 ?_
  refine zt_iload_n zy_264 (show q_ins q_k264 42 = some (.iload_n 1, 0, 0) from rfl) (v := Int32.ofInt v1) rfl ?_
  obtain ⟨hg, h⟩ := zt_ckE h
  refine zt_ald zy_264 (show q_ins q_k264 43 = some (.iaload, 0, 0) from rfl) za_178 (by decide) hg ?_
  obtain ⟨s5, hs5, h⟩ := zt_letE h
  refine zt_ast zy_264 (show q_ins q_k264 44 = some (.iastore, 0, 0) from rfl) za_164 (by decide) (by decide) ?_
  rw [← hs5]
  refine zt_aload_n zy_264 (show q_ins q_k264 45 = some (.aload_n 0, 0, 0) from rfl) (v := 163) rfl ?_
  refine zt_getR zy_264 (show q_ins q_k264 46 = some (.getfield 13, 11, 1) from rfl) (r := 164) zk_163_1 ?_
  refine zt_bipush zy_264 (show q_ins q_k264 49 = some (.bipush 13, 0, 0) from rfl) (by decide) ?_
  refine zt_aload_n zy_264 (show q_ins q_k264 51 = some (.aload_n 0, 0, 0) from rfl) (v := 163) rfl ?_
  refine zt_getR zy_264 (show q_ins q_k264 52 = some (.getfield 63, 11, 27) from rfl) (r := 179) zk_163_27 ?_
  refine zt_iload_n zy_264 (show q_ins q_k264 55 = some (.iload_n 1, 0, 0) from rfl) (v := Int32.ofInt v1) rfl ?_
  obtain ⟨hg, h⟩ := zt_ckE h
  refine zt_ald zy_264 (show q_ins q_k264 56 = some (.iaload, 0, 0) from rfl) za_179 (by decide) hg ?_
  obtain ⟨s6, hs6, h⟩ := zt_letE h
  refine zt_ast zy_264 (show q_ins q_k264 57 = some (.iastore, 0, 0) from rfl) za_164 (by decide) (by decide) ?_
  rw [← hs6]
  refine zt_aload_n zy_264 (show q_ins q_k264 58 = some (.aload_n 0, 0, 0) from rfl) (v := 163) rfl ?_
  refine zt_getR zy_264 (show q_ins q_k264 59 = some (.getfield 13, 11, 1) from rfl) (r := 164) zk_163_1 ?_
  refine zt_bipush zy_264 (show q_ins q_k264 62 = some (.bipush 12, 0, 0) from rfl) (by decide) ?_
  refine zt_dup2 zy_264 (show q_ins q_k264 64 = some (.dup2, 0, 0) from rfl) ⟨rfl, rfl⟩ ?_
  refine zt_ald zy_264 (show q_ins q_k264 65 = some (.iaload, 0, 0) from rfl) za_164 (by decide) (by decide) ?_
  refine zt_iconst zy_264 (show q_ins q_k264 66 = some (.iconst 1, 0, 0) from rfl) ?_
  refine zt_isub zy_264 (show q_ins q_k264 67 = some (.isub, 0, 0) from rfl) ?_
  obtain ⟨s7, hs7, h⟩ := zt_letE h
  refine zt_ast zy_264 (show q_ins q_k264 68 = some (.iastore, 0, 0) from rfl) za_164 (by decide) (by decide) ?_
  rw [← hs7]
  refine zt_aload_n zy_264 (show q_ins q_k264 69 = some (.aload_n 0, 0, 0) from rfl) (v := 163) rfl ?_
  refine zt_getR zy_264 (show q_ins q_k264 70 = some (.getfield 13, 11, 1) from rfl) (r := 164) zk_163_1 ?_
  refine zt_bipush zy_264 (show q_ins q_k264 73 = some (.bipush 40, 0, 0) from rfl) (by decide) ?_
  refine zt_aload_n zy_264 (show q_ins q_k264 75 = some (.aload_n 0, 0, 0) from rfl) (v := 163) rfl ?_
  refine zt_getR zy_264 (show q_ins q_k264 76 = some (.getfield 51, 11, 23) from rfl) (r := 175) zk_163_23 ?_
  refine zt_iload_n zy_264 (show q_ins q_k264 79 = some (.iload_n 1, 0, 0) from rfl) (v := Int32.ofInt v1) rfl ?_
  obtain ⟨hg, h⟩ := zt_ckE h
  refine zt_ald zy_264 (show q_ins q_k264 80 = some (.iaload, 0, 0) from rfl) za_175 (by decide) hg ?_
  refine zt_iadd zy_264 (show q_ins q_k264 81 = some (.iadd, 0, 0) from rfl) ?_
  refine zt_iload_n zy_264 (show q_ins q_k264 82 = some (.iload_n 2, 0, 0) from rfl) (v := Int32.ofInt v2) rfl ?_
  obtain ⟨hg, h⟩ := zt_ckE h
  obtain ⟨s8, hs8, h⟩ := zt_letE h
  refine zt_ast zy_264 (show q_ins q_k264 83 = some (.iastore, 0, 0) from rfl) za_164 (by decide) hg ?_
  rw [← hs8]
  refine zt_iload_n zy_264 (show q_ins q_k264 84 = some (.iload_n 3, 0, 0) from rfl) (v := Int32.ofInt a1) rfl ?_
  cases h
  exact zt_iret zy_264 (show q_ins q_k264 85 = some (.ireturn, 0, 0) from rfl)
theorem S_M_weighs_162 {X : q_X}   : ∀  (σ : zt_S) (o : (Unit × zt_S)), F_M_weighs_162   σ = some o → zt_Ex X 1 265 162 [] [] (zt_M σ) (zo_V o) := by
  intro  σ o  h
  unfold F_M_weighs_162 at h
  cases h
  exact zt_ret zy_265 (show q_ins q_k265 162 = some (.return_, 0, 0) from rfl)
theorem S_M_weighs_147 {X : q_X}   : ∀ (v1 : Int) (x0 : Int) (σ : zt_S) (o : (Unit × zt_S)), F_M_weighs_147  v1 x0 σ = some o → zt_Ex X 1 265 147 [(0, .ref 163), (1, .int (Int32.ofInt v1))] [.int (Int32.ofInt x0)] (zt_M σ) (zo_V o) := by
  intro v1 x0 σ o  h
  unfold F_M_weighs_147 at h
  refine zt_istore_n zy_265 (show q_ins q_k265 147 = some (.istore_n 3, 0, 0) from rfl) (by decide) ?_
  refine zt_iload_n zy_265 (show q_ins q_k265 148 = some (.iload_n 3, 0, 0) from rfl) (v := Int32.ofInt x0) rfl ?_
  obtain ⟨hg, h⟩ := zt_ckE h
  refine zt_if_eq zy_265 (show q_ins q_k265 149 = some (.ifCond .eq 13, 162, 0) from rfl) (hg) (fun hc => ?_) (fun hc => ?_)
  · rw [if_pos hc] at h
    exact zt_wk (zt_cov_nil) (S_M_weighs_162  _ _ h)
  · rw [if_neg hc] at h
    refine zt_aload_n zy_265 (show q_ins q_k265 152 = some (.aload_n 0, 0, 0) from rfl) (v := 163) rfl ?_
    refine zt_getR zy_265 (show q_ins q_k265 153 = some (.getfield 45, 11, 21) from rfl) (r := 173) zk_163_21 ?_
    refine zt_iload_n zy_265 (show q_ins q_k265 156 = some (.iload_n 1, 0, 0) from rfl) (v := Int32.ofInt v1) rfl ?_
    refine zt_aload_n zy_265 (show q_ins q_k265 157 = some (.aload_n 0, 0, 0) from rfl) (v := 163) rfl ?_
    obtain ⟨a3, s4, hca3, h⟩ := zt_bdE h
    refine zt_callV (d := 0) zy_265 (show q_ins q_k265 158 = some (.invokevirtual 244, 207, 0) from rfl) zy_207 (by decide) ⟨zq_lt (by decide), by decide⟩ rfl (by simp [Value.category]) (by simp [lg_sl, Value.category]) (zt_rcv zc_163) (zt_dm (by decide) (S_M_cards hca3)) ?_
    obtain ⟨hg, h⟩ := zt_ckE h
    obtain ⟨s5, hs5, h⟩ := zt_letE h
    refine zt_ast zy_265 (show q_ins q_k265 161 = some (.iastore, 0, 0) from rfl) za_173 (by decide) hg ?_
    rw [← hs5]
    exact zt_wk (zt_cov_nil) (S_M_weighs_162  _ _ h)
theorem S_M_weighs_142 {X : q_X}   : ∀ (v1 : Int) (σ : zt_S) (o : (Unit × zt_S)), F_M_weighs_142  v1 σ = some o → zt_Ex X 1 265 142 [(0, .ref 163), (1, .int (Int32.ofInt v1))] [] (zt_M σ) (zo_V o) := by
  intro v1 σ o  h
  unfold F_M_weighs_142 at h
  refine zt_iconst zy_265 (show q_ins q_k265 142 = some (.iconst 1, 0, 0) from rfl) ?_
  refine zt_goto zy_265 (show q_ins q_k265 143 = some (.goto 4, 147, 0) from rfl) ?_
  exact zt_wk (zt_cov_cons rfl (zt_cov_cons rfl (zt_cov_nil))) (S_M_weighs_147  _ _ _ _ h)
theorem S_M_weighs_110 {X : q_X}   : ∀ (v1 : Int) (σ : zt_S) (o : (Unit × zt_S)), F_M_weighs_110  v1 σ = some o → zt_Ex X 1 265 110 [(0, .ref 163), (1, .int (Int32.ofInt v1))] [] (zt_M σ) (zo_V o) := by
  intro v1 σ o  h
  unfold F_M_weighs_110 at h
  refine zt_iconst zy_265 (show q_ins q_k265 110 = some (.iconst 1, 0, 0) from rfl) ?_
  refine zt_goto zy_265 (show q_ins q_k265 111 = some (.goto 36, 147, 0) from rfl) ?_
  exact zt_wk (zt_cov_cons rfl (zt_cov_cons rfl (zt_cov_nil))) (S_M_weighs_147  _ _ _ _ h)
theorem S_M_weighs_63 {X : q_X}   : ∀ (v1 : Int) (σ : zt_S) (o : (Unit × zt_S)), F_M_weighs_63  v1 σ = some o → zt_Ex X 1 265 63 [(0, .ref 163), (1, .int (Int32.ofInt v1))] [] (zt_M σ) (zo_V o) := by
  intro v1 σ o  h
  unfold F_M_weighs_63 at h
  refine zt_aload_n zy_265 (show q_ins q_k265 63 = some (.aload_n 0, 0, 0) from rfl) (v := 163) rfl ?_
  refine zt_getR zy_265 (show q_ins q_k265 64 = some (.getfield 41, 11, 20) from rfl) (r := 172) zk_163_20 ?_
  refine zt_iload_n zy_265 (show q_ins q_k265 67 = some (.iload_n 1, 0, 0) from rfl) (v := Int32.ofInt v1) rfl ?_
  obtain ⟨hg, h⟩ := zt_ckE h
  refine zt_bld zy_265 (show q_ins q_k265 68 = some (.baload, 0, 0) from rfl) za_172 (by decide) (by decide) hg ?_
  obtain ⟨hg, h⟩ := zt_ckE h
  refine zt_if_eq zy_265 (show q_ins q_k265 69 = some (.ifCond .eq 49, 118, 0) from rfl) (hg) (fun hc => ?_) (fun hc => ?_)
  · rw [if_pos hc] at h
    refine zt_aload_n zy_265 (show q_ins q_k265 118 = some (.aload_n 0, 0, 0) from rfl) (v := 163) rfl ?_
    refine zt_getR zy_265 (show q_ins q_k265 119 = some (.getfield 48, 11, 22) from rfl) (r := 174) zk_163_22 ?_
    refine zt_iload_n zy_265 (show q_ins q_k265 122 = some (.iload_n 1, 0, 0) from rfl) (v := Int32.ofInt v1) rfl ?_
    obtain ⟨hg, h⟩ := zt_ckE h
    refine zt_ald zy_265 (show q_ins q_k265 123 = some (.iaload, 0, 0) from rfl) za_174 (by decide) hg ?_
    refine zt_aload_n zy_265 (show q_ins q_k265 124 = some (.aload_n 0, 0, 0) from rfl) (v := 163) rfl ?_
    refine zt_getR zy_265 (show q_ins q_k265 125 = some (.getfield 35, 11, 18) from rfl) (r := 170) zk_163_18 ?_
    refine zt_iload_n zy_265 (show q_ins q_k265 128 = some (.iload_n 1, 0, 0) from rfl) (v := Int32.ofInt v1) rfl ?_
    obtain ⟨hg, h⟩ := zt_ckE h
    refine zt_ald zy_265 (show q_ins q_k265 129 = some (.iaload, 0, 0) from rfl) za_170 (by decide) hg ?_
    obtain ⟨hg, h⟩ := zt_ckE h
    refine zt_icmp_le zy_265 (show q_ins q_k265 130 = some (.if_icmp .le 12, 142, 0) from rfl) (⟨hg.1, hg.2⟩) (fun hc => ?_) (fun hc => ?_)
    · rw [if_pos hc] at h
      refine zt_aload_n zy_265 (show q_ins q_k265 133 = some (.aload_n 0, 0, 0) from rfl) (v := 163) rfl ?_
      refine zt_getR zy_265 (show q_ins q_k265 134 = some (.getfield 48, 11, 22) from rfl) (r := 174) zk_163_22 ?_
      refine zt_iload_n zy_265 (show q_ins q_k265 137 = some (.iload_n 1, 0, 0) from rfl) (v := Int32.ofInt v1) rfl ?_
      obtain ⟨hg, h⟩ := zt_ckE h
      refine zt_ald zy_265 (show q_ins q_k265 138 = some (.iaload, 0, 0) from rfl) za_174 (by decide) hg ?_
      obtain ⟨hg, h⟩ := zt_ckE h
      refine zt_if_ne zy_265 (show q_ins q_k265 139 = some (.ifCond .ne 7, 146, 0) from rfl) (hg) (fun hc => ?_) (fun hc => ?_)
      · rw [if_pos hc] at h
        exact zt_wk (zt_cov_cons rfl (zt_cov_cons rfl (zt_cov_nil))) (S_M_weighs_142  _ _ _ h)
      · rw [if_neg hc] at h
        refine zt_iconst zy_265 (show q_ins q_k265 146 = some (.iconst 0, 0, 0) from rfl) ?_
        exact zt_wk (zt_cov_cons rfl (zt_cov_cons rfl (zt_cov_nil))) (S_M_weighs_147  _ _ _ _ h)
    · rw [if_neg hc] at h
      exact zt_wk (zt_cov_cons rfl (zt_cov_cons rfl (zt_cov_nil))) (S_M_weighs_142  _ _ _ h)
  · rw [if_neg hc] at h
    refine zt_aload_n zy_265 (show q_ins q_k265 72 = some (.aload_n 0, 0, 0) from rfl) (v := 163) rfl ?_
    refine zt_getR zy_265 (show q_ins q_k265 73 = some (.getfield 48, 11, 22) from rfl) (r := 174) zk_163_22 ?_
    refine zt_iload_n zy_265 (show q_ins q_k265 76 = some (.iload_n 1, 0, 0) from rfl) (v := Int32.ofInt v1) rfl ?_
    obtain ⟨hg, h⟩ := zt_ckE h
    refine zt_ald zy_265 (show q_ins q_k265 77 = some (.iaload, 0, 0) from rfl) za_174 (by decide) hg ?_
    refine zt_aload_n zy_265 (show q_ins q_k265 78 = some (.aload_n 0, 0, 0) from rfl) (v := 163) rfl ?_
    refine zt_getR zy_265 (show q_ins q_k265 79 = some (.getfield 38, 11, 19) from rfl) (r := 171) zk_163_19 ?_
    refine zt_iload_n zy_265 (show q_ins q_k265 82 = some (.iload_n 1, 0, 0) from rfl) (v := Int32.ofInt v1) rfl ?_
    obtain ⟨hg, h⟩ := zt_ckE h
    refine zt_ald zy_265 (show q_ins q_k265 83 = some (.iaload, 0, 0) from rfl) za_171 (by decide) hg ?_
    obtain ⟨hg, h⟩ := zt_ckE h
    refine zt_icmp_ge zy_265 (show q_ins q_k265 84 = some (.if_icmp .ge 26, 110, 0) from rfl) (⟨hg.1, hg.2⟩) (fun hc => ?_) (fun hc => ?_)
    · rw [if_pos hc] at h
      refine zt_aload_n zy_265 (show q_ins q_k265 87 = some (.aload_n 0, 0, 0) from rfl) (v := 163) rfl ?_
      refine zt_getR zy_265 (show q_ins q_k265 88 = some (.getfield 48, 11, 22) from rfl) (r := 174) zk_163_22 ?_
      refine zt_iload_n zy_265 (show q_ins q_k265 91 = some (.iload_n 1, 0, 0) from rfl) (v := Int32.ofInt v1) rfl ?_
      obtain ⟨hg, h⟩ := zt_ckE h
      refine zt_ald zy_265 (show q_ins q_k265 92 = some (.iaload, 0, 0) from rfl) za_174 (by decide) hg ?_
      refine zt_aload_n zy_265 (show q_ins q_k265 93 = some (.aload_n 0, 0, 0) from rfl) (v := 163) rfl ?_
      refine zt_getR zy_265 (show q_ins q_k265 94 = some (.getfield 13, 11, 1) from rfl) (r := 164) zk_163_1 ?_
      refine zt_iconst zy_265 (show q_ins q_k265 97 = some (.iconst 2, 0, 0) from rfl) ?_
      refine zt_ald zy_265 (show q_ins q_k265 98 = some (.iaload, 0, 0) from rfl) za_164 (by decide) (by decide) ?_
      refine zt_aload_n zy_265 (show q_ins q_k265 99 = some (.aload_n 0, 0, 0) from rfl) (v := 163) rfl ?_
      refine zt_getR zy_265 (show q_ins q_k265 100 = some (.getfield 13, 11, 1) from rfl) (r := 164) zk_163_1 ?_
      refine zt_bipush zy_265 (show q_ins q_k265 103 = some (.bipush 13, 0, 0) from rfl) (by decide) ?_
      refine zt_ald zy_265 (show q_ins q_k265 105 = some (.iaload, 0, 0) from rfl) za_164 (by decide) (by decide) ?_
      refine zt_isub zy_265 (show q_ins q_k265 106 = some (.isub, 0, 0) from rfl) ?_
      obtain ⟨hg, h⟩ := zt_ckE h
      refine zt_icmp_ne zy_265 (show q_ins q_k265 107 = some (.if_icmp .ne 7, 114, 0) from rfl) (⟨hg.1, hg.2⟩) (fun hc => ?_) (fun hc => ?_)
      · rw [if_pos hc] at h
        exact zt_wk (zt_cov_cons rfl (zt_cov_cons rfl (zt_cov_nil))) (S_M_weighs_110  _ _ _ h)
      · rw [if_neg hc] at h
        refine zt_iconst zy_265 (show q_ins q_k265 114 = some (.iconst 0, 0, 0) from rfl) ?_
        refine zt_goto zy_265 (show q_ins q_k265 115 = some (.goto 32, 147, 0) from rfl) ?_
        exact zt_wk (zt_cov_cons rfl (zt_cov_cons rfl (zt_cov_nil))) (S_M_weighs_147  _ _ _ _ h)
    · rw [if_neg hc] at h
      exact zt_wk (zt_cov_cons rfl (zt_cov_cons rfl (zt_cov_nil))) (S_M_weighs_110  _ _ _ h)
theorem S_M_weighs_42 {X : q_X}   : ∀ (v1 : Int) (v2 : Int) (σ : zt_S) (o : (Unit × zt_S)), F_M_weighs_42  v1 v2 σ = some o → zt_Ex X 1 265 42 [(0, .ref 163), (1, .int (Int32.ofInt v1)), (2, .int (Int32.ofInt v2))] [] (zt_M σ) (zo_V o) := by
  intro v1 v2 σ o  h
  unfold F_M_weighs_42 at h
  refine zt_aload_n zy_265 (show q_ins q_k265 42 = some (.aload_n 0, 0, 0) from rfl) (v := 163) rfl ?_
  refine zt_getR zy_265 (show q_ins q_k265 43 = some (.getfield 48, 11, 22) from rfl) (r := 174) zk_163_22 ?_
  refine zt_iload_n zy_265 (show q_ins q_k265 46 = some (.iload_n 1, 0, 0) from rfl) (v := Int32.ofInt v1) rfl ?_
  refine zt_iload_n zy_265 (show q_ins q_k265 47 = some (.iload_n 2, 0, 0) from rfl) (v := Int32.ofInt v2) rfl ?_
  obtain ⟨hg, h⟩ := zt_ckE h
  obtain ⟨s1, hs1, h⟩ := zt_letE h
  refine zt_ast zy_265 (show q_ins q_k265 48 = some (.iastore, 0, 0) from rfl) za_174 (by decide) hg ?_
  rw [← hs1]
  refine zt_iload_n zy_265 (show q_ins q_k265 49 = some (.iload_n 1, 0, 0) from rfl) (v := Int32.ofInt v1) rfl ?_
  obtain ⟨hg, h⟩ := zt_ckE h
  refine zt_if_ne zy_265 (show q_ins q_k265 50 = some (.ifCond .ne 13, 63, 0) from rfl) (hg) (fun hc => ?_) (fun hc => ?_)
  · rw [if_pos hc] at h
    refine zt_aload_n zy_265 (show q_ins q_k265 53 = some (.aload_n 0, 0, 0) from rfl) (v := 163) rfl ?_
    refine zt_aload_n zy_265 (show q_ins q_k265 54 = some (.aload_n 0, 0, 0) from rfl) (v := 163) rfl ?_
    refine zt_getR zy_265 (show q_ins q_k265 55 = some (.getfield 51, 11, 23) from rfl) (r := 175) zk_163_23 ?_
    refine zt_iconst zy_265 (show q_ins q_k265 58 = some (.iconst 0, 0, 0) from rfl) ?_
    refine zt_ald zy_265 (show q_ins q_k265 59 = some (.iaload, 0, 0) from rfl) za_175 (by decide) (by decide) ?_
    obtain ⟨s2, hs2, h⟩ := zt_letE h
    refine zt_putI zy_265 (show q_ins q_k265 60 = some (.putfield 344, 11, 29) from rfl) (j := 29) zk_163_29 rfl rfl rfl ?_
    rw [← hs2]
    exact zt_wk (zt_cov_cons rfl (zt_cov_cons rfl (zt_cov_nil))) (S_M_weighs_63  _ _ _ h)
  · rw [if_neg hc] at h
    exact zt_wk (zt_cov_cons rfl (zt_cov_cons rfl (zt_cov_nil))) (S_M_weighs_63  _ _ _ h)
theorem S_M_weighs {X : q_X}   {v1 : Int} {v2 : Int} {σ : zt_S} {o : (Unit × zt_S)} (h : F_M_weighs  v1 v2 σ = some o) : zt_Ex X 1 265 0 (lv_args 0 [.ref 163, .int (Int32.ofInt v1), .int (Int32.ofInt v2)]) [] (zt_M σ) (zo_V o) := by
  unfold F_M_weighs at h
  refine zt_aload_n zy_265 (show q_ins q_k265 0 = some (.aload_n 0, 0, 0) from rfl) (v := 163) rfl ?_
  refine zt_getR zy_265 (show q_ins q_k265 1 = some (.getfield 48, 11, 22) from rfl) (r := 174) zk_163_22 ?_
  refine zt_iload_n zy_265 (show q_ins q_k265 4 = some (.iload_n 1, 0, 0) from rfl) (v := Int32.ofInt v1) rfl ?_
  obtain ⟨hg, h⟩ := zt_ckE h
  refine zt_ald zy_265 (show q_ins q_k265 5 = some (.iaload, 0, 0) from rfl) za_174 (by decide) hg ?_
  refine zt_iconst zy_265 (show q_ins q_k265 6 = some (.iconst (-1), 0, 0) from rfl) ?_
  obtain ⟨hg, h⟩ := zt_ckE h
  refine zt_icmp_eq zy_265 (show q_ins q_k265 7 = some (.if_icmp .eq 35, 42, 0) from rfl) (⟨hg, by decide⟩) (fun hc => ?_) (fun hc => ?_)
  · rw [if_pos hc] at h
    exact zt_wk (zt_cov_cons rfl (zt_cov_cons rfl (zt_cov_cons rfl (zt_cov_nil)))) (S_M_weighs_42  _ _ _ _ h)
  · rw [if_neg hc] at h
    refine zt_aload_n zy_265 (show q_ins q_k265 10 = some (.aload_n 0, 0, 0) from rfl) (v := 163) rfl ?_
    refine zt_getR zy_265 (show q_ins q_k265 11 = some (.getfield 41, 11, 20) from rfl) (r := 172) zk_163_20 ?_
    refine zt_iload_n zy_265 (show q_ins q_k265 14 = some (.iload_n 1, 0, 0) from rfl) (v := Int32.ofInt v1) rfl ?_
    obtain ⟨hg, h⟩ := zt_ckE h
    refine zt_bld zy_265 (show q_ins q_k265 15 = some (.baload, 0, 0) from rfl) za_172 (by decide) (by decide) hg ?_
    obtain ⟨hg, h⟩ := zt_ckE h
    refine zt_if_eq zy_265 (show q_ins q_k265 16 = some (.ifCond .eq 16, 32, 0) from rfl) (hg) (fun hc => ?_) (fun hc => ?_)
    · rw [if_pos hc] at h
      refine zt_iload_n zy_265 (show q_ins q_k265 32 = some (.iload_n 2, 0, 0) from rfl) (v := Int32.ofInt v2) rfl ?_
      refine zt_aload_n zy_265 (show q_ins q_k265 33 = some (.aload_n 0, 0, 0) from rfl) (v := 163) rfl ?_
      refine zt_getR zy_265 (show q_ins q_k265 34 = some (.getfield 48, 11, 22) from rfl) (r := 174) zk_163_22 ?_
      refine zt_iload_n zy_265 (show q_ins q_k265 37 = some (.iload_n 1, 0, 0) from rfl) (v := Int32.ofInt v1) rfl ?_
      obtain ⟨hg, h⟩ := zt_ckE h
      refine zt_ald zy_265 (show q_ins q_k265 38 = some (.iaload, 0, 0) from rfl) za_174 (by decide) hg ?_
      obtain ⟨hg, h⟩ := zt_ckE h
      refine zt_icmp_ge zy_265 (show q_ins q_k265 39 = some (.if_icmp .ge 24, 63, 0) from rfl) (⟨hg.1, hg.2⟩) (fun hc => ?_) (fun hc => ?_)
      · rw [if_pos hc] at h
        exact zt_wk (zt_cov_cons rfl (zt_cov_cons rfl (zt_cov_cons rfl (zt_cov_nil)))) (S_M_weighs_42  _ _ _ _ h)
      · rw [if_neg hc] at h
        exact zt_wk (zt_cov_cons rfl (zt_cov_cons rfl (zt_cov_nil))) (S_M_weighs_63  _ _ _ h)
    · rw [if_neg hc] at h
      refine zt_iload_n zy_265 (show q_ins q_k265 19 = some (.iload_n 2, 0, 0) from rfl) (v := Int32.ofInt v2) rfl ?_
      refine zt_aload_n zy_265 (show q_ins q_k265 20 = some (.aload_n 0, 0, 0) from rfl) (v := 163) rfl ?_
      refine zt_getR zy_265 (show q_ins q_k265 21 = some (.getfield 48, 11, 22) from rfl) (r := 174) zk_163_22 ?_
      refine zt_iload_n zy_265 (show q_ins q_k265 24 = some (.iload_n 1, 0, 0) from rfl) (v := Int32.ofInt v1) rfl ?_
      obtain ⟨hg, h⟩ := zt_ckE h
      refine zt_ald zy_265 (show q_ins q_k265 25 = some (.iaload, 0, 0) from rfl) za_174 (by decide) hg ?_
      obtain ⟨hg, h⟩ := zt_ckE h
      refine zt_icmp_le zy_265 (show q_ins q_k265 26 = some (.if_icmp .le 37, 63, 0) from rfl) (⟨hg.1, hg.2⟩) (fun hc => ?_) (fun hc => ?_)
      · rw [if_pos hc] at h
        refine zt_goto zy_265 (show q_ins q_k265 29 = some (.goto 13, 42, 0) from rfl) ?_
        exact zt_wk (zt_cov_cons rfl (zt_cov_cons rfl (zt_cov_cons rfl (zt_cov_nil)))) (S_M_weighs_42  _ _ _ _ h)
      · rw [if_neg hc] at h
        exact zt_wk (zt_cov_cons rfl (zt_cov_cons rfl (zt_cov_nil))) (S_M_weighs_63  _ _ _ h)
theorem S_M_opens_49 {X : q_X}   : ∀ (x0 : Int) (x1 : Int) (σ : zt_S) (o : (Unit × zt_S)), F_M_opens_49  x0 x1 σ = some o → zt_Ex X 2 266 49 [] [.int (Int32.ofInt x0), .int (Int32.ofInt x1), .ref 172] (zt_M σ) (zo_V o) := by
  intro x0 x1 σ o  h
  unfold F_M_opens_49 at h
  obtain ⟨hg, h⟩ := zt_ckE h
  obtain ⟨s7, hs7, h⟩ := zt_letE h
  refine zt_zst zy_266 (show q_ins q_k266 49 = some (.bastore, 0, 0) from rfl) za_172 (by decide) hg.1 hg.2 ?_
  rw [← hs7]
  cases h
  exact zt_ret zy_266 (show q_ins q_k266 50 = some (.return_, 0, 0) from rfl)
theorem S_M_opens {X : q_X}   {v1 : Int} {v2 : Int} {v3 : Int} {σ : zt_S} {o : (Unit × zt_S)} (h : F_M_opens  v1 v2 v3 σ = some o) : zt_Ex X 2 266 0 (lv_args 0 [.ref 163, .int (Int32.ofInt v1), .int (Int32.ofInt v2), .int (Int32.ofInt v3)]) [] (zt_M σ) (zo_V o) := by
  unfold F_M_opens at h
  refine zt_aload_n zy_266 (show q_ins q_k266 0 = some (.aload_n 0, 0, 0) from rfl) (v := 163) rfl ?_
  refine zt_getR zy_266 (show q_ins q_k266 1 = some (.getfield 45, 11, 21) from rfl) (r := 173) zk_163_21 ?_
  refine zt_iload_n zy_266 (show q_ins q_k266 4 = some (.iload_n 1, 0, 0) from rfl) (v := Int32.ofInt v1) rfl ?_
  refine zt_iconst zy_266 (show q_ins q_k266 5 = some (.iconst 0, 0, 0) from rfl) ?_
  obtain ⟨hg, h⟩ := zt_ckE h
  obtain ⟨s1, hs1, h⟩ := zt_letE h
  refine zt_ast zy_266 (show q_ins q_k266 6 = some (.iastore, 0, 0) from rfl) za_173 (by decide) hg ?_
  rw [← hs1]
  refine zt_aload_n zy_266 (show q_ins q_k266 7 = some (.aload_n 0, 0, 0) from rfl) (v := 163) rfl ?_
  refine zt_getR zy_266 (show q_ins q_k266 8 = some (.getfield 48, 11, 22) from rfl) (r := 174) zk_163_22 ?_
  refine zt_iload_n zy_266 (show q_ins q_k266 11 = some (.iload_n 1, 0, 0) from rfl) (v := Int32.ofInt v1) rfl ?_
  refine zt_iconst zy_266 (show q_ins q_k266 12 = some (.iconst (-1), 0, 0) from rfl) ?_
  obtain ⟨hg, h⟩ := zt_ckE h
  obtain ⟨s2, hs2, h⟩ := zt_letE h
  refine zt_ast zy_266 (show q_ins q_k266 13 = some (.iastore, 0, 0) from rfl) za_174 (by decide) hg ?_
  rw [← hs2]
  refine zt_aload_n zy_266 (show q_ins q_k266 14 = some (.aload_n 0, 0, 0) from rfl) (v := 163) rfl ?_
  refine zt_getR zy_266 (show q_ins q_k266 15 = some (.getfield 35, 11, 18) from rfl) (r := 170) zk_163_18 ?_
  refine zt_iload_n zy_266 (show q_ins q_k266 18 = some (.iload_n 1, 0, 0) from rfl) (v := Int32.ofInt v1) rfl ?_
  refine zt_iload_n zy_266 (show q_ins q_k266 19 = some (.iload_n 2, 0, 0) from rfl) (v := Int32.ofInt v2) rfl ?_
  obtain ⟨hg, h⟩ := zt_ckE h
  obtain ⟨s3, hs3, h⟩ := zt_letE h
  refine zt_ast zy_266 (show q_ins q_k266 20 = some (.iastore, 0, 0) from rfl) za_170 (by decide) hg ?_
  rw [← hs3]
  refine zt_aload_n zy_266 (show q_ins q_k266 21 = some (.aload_n 0, 0, 0) from rfl) (v := 163) rfl ?_
  refine zt_getR zy_266 (show q_ins q_k266 22 = some (.getfield 38, 11, 19) from rfl) (r := 171) zk_163_19 ?_
  refine zt_iload_n zy_266 (show q_ins q_k266 25 = some (.iload_n 1, 0, 0) from rfl) (v := Int32.ofInt v1) rfl ?_
  refine zt_iload_n zy_266 (show q_ins q_k266 26 = some (.iload_n 3, 0, 0) from rfl) (v := Int32.ofInt v3) rfl ?_
  obtain ⟨hg, h⟩ := zt_ckE h
  obtain ⟨s4, hs4, h⟩ := zt_letE h
  refine zt_ast zy_266 (show q_ins q_k266 27 = some (.iastore, 0, 0) from rfl) za_171 (by decide) hg ?_
  rw [← hs4]
  refine zt_aload_n zy_266 (show q_ins q_k266 28 = some (.aload_n 0, 0, 0) from rfl) (v := 163) rfl ?_
  refine zt_getR zy_266 (show q_ins q_k266 29 = some (.getfield 41, 11, 20) from rfl) (r := 172) zk_163_20 ?_
  refine zt_iload_n zy_266 (show q_ins q_k266 32 = some (.iload_n 1, 0, 0) from rfl) (v := Int32.ofInt v1) rfl ?_
  refine zt_aload_n zy_266 (show q_ins q_k266 33 = some (.aload_n 0, 0, 0) from rfl) (v := 163) rfl ?_
  obtain ⟨a5, s6, hca5, h⟩ := zt_bdE h
  refine zt_callV (d := 1) zy_266 (show q_ins q_k266 34 = some (.invokevirtual 288, 214, 0) from rfl) zy_214 (by decide) ⟨zq_lt (by decide), by decide⟩ rfl (by simp [Value.category]) (by simp [lg_sl, Value.category]) (zt_rcv zc_163) (zt_dm (by decide) (S_M_turn hca5)) ?_
  refine zt_aload_n zy_266 (show q_ins q_k266 37 = some (.aload_n 0, 0, 0) from rfl) (v := 163) rfl ?_
  refine zt_getI zy_266 (show q_ins q_k266 38 = some (.getfield 338, 11, 28) from rfl) (j := 28) zk_163_28 rfl ?_
  obtain ⟨hg, h⟩ := zt_ckE h
  refine zt_icmp_ne zy_266 (show q_ins q_k266 41 = some (.if_icmp .ne 7, 48, 0) from rfl) (⟨hg.1, hg.2⟩) (fun hc => ?_) (fun hc => ?_)
  · rw [if_pos hc] at h
    refine zt_iconst zy_266 (show q_ins q_k266 44 = some (.iconst 1, 0, 0) from rfl) ?_
    refine zt_goto zy_266 (show q_ins q_k266 45 = some (.goto 4, 49, 0) from rfl) ?_
    exact zt_wk (zt_cov_nil) (S_M_opens_49  _ _ _ _ h)
  · rw [if_neg hc] at h
    refine zt_iconst zy_266 (show q_ins q_k266 48 = some (.iconst 0, 0, 0) from rfl) ?_
    exact zt_wk (zt_cov_nil) (S_M_opens_49  _ _ _ _ h)
theorem S_M_deepens_78 {X : q_X}   : ∀ (v1 : Int) (v2 : Int) (v4 : Int) (x0 : Int) (σ : zt_S) (o : (Unit × zt_S)), F_M_deepens_78  v1 v2 v4 x0 σ = some o → zt_Ex X 3 267 78 [(0, .ref 163), (1, .int (Int32.ofInt v1)), (2, .int (Int32.ofInt v2)), (4, .int (Int32.ofInt v4))] [.int (Int32.ofInt x0)] (zt_M σ) (zo_V o) := by
  intro v1 v2 v4 x0 σ o  h
  unfold F_M_deepens_78 at h
  refine zt_istore zy_267 (show q_ins q_k267 78 = some (.istore 5, 0, 0) from rfl) (by decide) ?_
  refine zt_aload_n zy_267 (show q_ins q_k267 80 = some (.aload_n 0, 0, 0) from rfl) (v := 163) rfl ?_
  refine zt_iload_n zy_267 (show q_ins q_k267 81 = some (.iload_n 1, 0, 0) from rfl) (v := Int32.ofInt v1) rfl ?_
  refine zt_iconst zy_267 (show q_ins q_k267 82 = some (.iconst 1, 0, 0) from rfl) ?_
  refine zt_iadd zy_267 (show q_ins q_k267 83 = some (.iadd, 0, 0) from rfl) ?_
  refine zt_iload zy_267 (show q_ins q_k267 84 = some (.iload 4, 0, 0) from rfl) (v := Int32.ofInt v4) rfl ?_
  refine zt_iload_n zy_267 (show q_ins q_k267 86 = some (.iload_n 2, 0, 0) from rfl) (v := Int32.ofInt v2) rfl ?_
  refine zt_isub zy_267 (show q_ins q_k267 87 = some (.isub, 0, 0) from rfl) ?_
  refine zt_iload zy_267 (show q_ins q_k267 88 = some (.iload 5, 0, 0) from rfl) (v := Int32.ofInt x0) rfl ?_
  refine zt_iload_n zy_267 (show q_ins q_k267 90 = some (.iload_n 2, 0, 0) from rfl) (v := Int32.ofInt v2) rfl ?_
  refine zt_isub zy_267 (show q_ins q_k267 91 = some (.isub, 0, 0) from rfl) ?_
  obtain ⟨a3, s4, hca3, h⟩ := zt_bdE h
  refine zt_callV (d := 2) zy_267 (show q_ins q_k267 92 = some (.invokevirtual 347, 266, 3) from rfl) zy_266 (by decide) ⟨zq_lt (by decide), by decide⟩ rfl (by simp [Value.category]) (by simp [lg_sl, Value.category]) (zt_rcv zc_163) (zt_dm (by decide) (S_M_opens hca3)) ?_
  cases h
  exact zt_ret zy_267 (show q_ins q_k267 95 = some (.return_, 0, 0) from rfl)
theorem S_M_deepens_72 {X : q_X}   : ∀ (v1 : Int) (v2 : Int) (v4 : Int) (σ : zt_S) (o : (Unit × zt_S)), F_M_deepens_72  v1 v2 v4 σ = some o → zt_Ex X 3 267 72 [(0, .ref 163), (1, .int (Int32.ofInt v1)), (2, .int (Int32.ofInt v2)), (4, .int (Int32.ofInt v4))] [] (zt_M σ) (zo_V o) := by
  intro v1 v2 v4 σ o  h
  unfold F_M_deepens_72 at h
  refine zt_aload_n zy_267 (show q_ins q_k267 72 = some (.aload_n 0, 0, 0) from rfl) (v := 163) rfl ?_
  refine zt_getR zy_267 (show q_ins q_k267 73 = some (.getfield 38, 11, 19) from rfl) (r := 171) zk_163_19 ?_
  refine zt_iload_n zy_267 (show q_ins q_k267 76 = some (.iload_n 1, 0, 0) from rfl) (v := Int32.ofInt v1) rfl ?_
  obtain ⟨hg, h⟩ := zt_ckE h
  refine zt_ald zy_267 (show q_ins q_k267 77 = some (.iaload, 0, 0) from rfl) za_171 (by decide) hg ?_
  exact zt_wk (zt_cov_cons rfl (zt_cov_cons rfl (zt_cov_cons rfl (zt_cov_cons rfl (zt_cov_nil))))) (S_M_deepens_78  _ _ _ _ _ _ h)
theorem S_M_deepens_42 {X : q_X}   : ∀ (v1 : Int) (v2 : Int) (v3 : Int) (x0 : Int) (σ : zt_S) (o : (Unit × zt_S)), F_M_deepens_42  v1 v2 v3 x0 σ = some o → zt_Ex X 3 267 42 [(0, .ref 163), (1, .int (Int32.ofInt v1)), (2, .int (Int32.ofInt v2)), (3, .int (Int32.ofInt v3))] [.int (Int32.ofInt x0)] (zt_M σ) (zo_V o) := by
  intro v1 v2 v3 x0 σ o  h
  unfold F_M_deepens_42 at h
  refine zt_istore zy_267 (show q_ins q_k267 42 = some (.istore 4, 0, 0) from rfl) (by decide) ?_
  refine zt_aload_n zy_267 (show q_ins q_k267 44 = some (.aload_n 0, 0, 0) from rfl) (v := 163) rfl ?_
  refine zt_getR zy_267 (show q_ins q_k267 45 = some (.getfield 41, 11, 20) from rfl) (r := 172) zk_163_20 ?_
  refine zt_iload_n zy_267 (show q_ins q_k267 48 = some (.iload_n 1, 0, 0) from rfl) (v := Int32.ofInt v1) rfl ?_
  obtain ⟨hg, h⟩ := zt_ckE h
  refine zt_bld zy_267 (show q_ins q_k267 49 = some (.baload, 0, 0) from rfl) za_172 (by decide) (by decide) hg ?_
  obtain ⟨hg, h⟩ := zt_ckE h
  refine zt_if_ne zy_267 (show q_ins q_k267 50 = some (.ifCond .ne 22, 72, 0) from rfl) (hg) (fun hc => ?_) (fun hc => ?_)
  · rw [if_pos hc] at h
    refine zt_iload_n zy_267 (show q_ins q_k267 53 = some (.iload_n 3, 0, 0) from rfl) (v := Int32.ofInt v3) rfl ?_
    refine zt_iconst zy_267 (show q_ins q_k267 54 = some (.iconst (-1), 0, 0) from rfl) ?_
    obtain ⟨hg, h⟩ := zt_ckE h
    refine zt_icmp_eq zy_267 (show q_ins q_k267 55 = some (.if_icmp .eq 17, 72, 0) from rfl) (⟨hg, by decide⟩) (fun hc => ?_) (fun hc => ?_)
    · rw [if_pos hc] at h
      exact zt_wk (zt_cov_cons rfl (zt_cov_cons rfl (zt_cov_cons rfl (zt_cov_cons rfl (zt_cov_nil))))) (S_M_deepens_72  _ _ _ _ _ h)
    · rw [if_neg hc] at h
      refine zt_iload_n zy_267 (show q_ins q_k267 58 = some (.iload_n 3, 0, 0) from rfl) (v := Int32.ofInt v3) rfl ?_
      refine zt_aload_n zy_267 (show q_ins q_k267 59 = some (.aload_n 0, 0, 0) from rfl) (v := 163) rfl ?_
      refine zt_getR zy_267 (show q_ins q_k267 60 = some (.getfield 38, 11, 19) from rfl) (r := 171) zk_163_19 ?_
      refine zt_iload_n zy_267 (show q_ins q_k267 63 = some (.iload_n 1, 0, 0) from rfl) (v := Int32.ofInt v1) rfl ?_
      obtain ⟨hg, h⟩ := zt_ckE h
      refine zt_ald zy_267 (show q_ins q_k267 64 = some (.iaload, 0, 0) from rfl) za_171 (by decide) hg ?_
      obtain ⟨hg, h⟩ := zt_ckE h
      refine zt_icmp_ge zy_267 (show q_ins q_k267 65 = some (.if_icmp .ge 7, 72, 0) from rfl) (⟨hg.1, hg.2⟩) (fun hc => ?_) (fun hc => ?_)
      · rw [if_pos hc] at h
        refine zt_iload_n zy_267 (show q_ins q_k267 68 = some (.iload_n 3, 0, 0) from rfl) (v := Int32.ofInt v3) rfl ?_
        refine zt_goto zy_267 (show q_ins q_k267 69 = some (.goto 9, 78, 0) from rfl) ?_
        exact zt_wk (zt_cov_cons rfl (zt_cov_cons rfl (zt_cov_cons rfl (zt_cov_cons rfl (zt_cov_nil))))) (S_M_deepens_78  _ _ _ _ _ _ h)
      · rw [if_neg hc] at h
        exact zt_wk (zt_cov_cons rfl (zt_cov_cons rfl (zt_cov_cons rfl (zt_cov_cons rfl (zt_cov_nil))))) (S_M_deepens_72  _ _ _ _ _ h)
  · rw [if_neg hc] at h
    exact zt_wk (zt_cov_cons rfl (zt_cov_cons rfl (zt_cov_cons rfl (zt_cov_cons rfl (zt_cov_nil))))) (S_M_deepens_72  _ _ _ _ _ h)
theorem S_M_deepens_36 {X : q_X}   : ∀ (v1 : Int) (v2 : Int) (v3 : Int) (σ : zt_S) (o : (Unit × zt_S)), F_M_deepens_36  v1 v2 v3 σ = some o → zt_Ex X 3 267 36 [(0, .ref 163), (1, .int (Int32.ofInt v1)), (2, .int (Int32.ofInt v2)), (3, .int (Int32.ofInt v3))] [] (zt_M σ) (zo_V o) := by
  intro v1 v2 v3 σ o  h
  unfold F_M_deepens_36 at h
  refine zt_aload_n zy_267 (show q_ins q_k267 36 = some (.aload_n 0, 0, 0) from rfl) (v := 163) rfl ?_
  refine zt_getR zy_267 (show q_ins q_k267 37 = some (.getfield 35, 11, 18) from rfl) (r := 170) zk_163_18 ?_
  refine zt_iload_n zy_267 (show q_ins q_k267 40 = some (.iload_n 1, 0, 0) from rfl) (v := Int32.ofInt v1) rfl ?_
  obtain ⟨hg, h⟩ := zt_ckE h
  refine zt_ald zy_267 (show q_ins q_k267 41 = some (.iaload, 0, 0) from rfl) za_170 (by decide) hg ?_
  exact zt_wk (zt_cov_cons rfl (zt_cov_cons rfl (zt_cov_cons rfl (zt_cov_cons rfl (zt_cov_nil))))) (S_M_deepens_42  _ _ _ _ _ _ h)
theorem S_M_deepens {X : q_X}   {v1 : Int} {σ : zt_S} {o : (Unit × zt_S)} (h : F_M_deepens  v1 σ = some o) : zt_Ex X 3 267 0 (lv_args 0 [.ref 163, .int (Int32.ofInt v1)]) [] (zt_M σ) (zo_V o) := by
  unfold F_M_deepens at h
  refine zt_aload_n zy_267 (show q_ins q_k267 0 = some (.aload_n 0, 0, 0) from rfl) (v := 163) rfl ?_
  refine zt_iload_n zy_267 (show q_ins q_k267 1 = some (.iload_n 1, 0, 0) from rfl) (v := Int32.ofInt v1) rfl ?_
  obtain ⟨a1, s2, hca1, h⟩ := zt_bdE h
  refine zt_callV (d := 2) zy_267 (show q_ins q_k267 2 = some (.invokevirtual 341, 263, 1) from rfl) zy_263 (by decide) ⟨zq_lt (by decide), by decide⟩ rfl (by simp [Value.category]) (by simp [lg_sl, Value.category]) (zt_rcv zc_163) (zt_dm (by decide) (S_M_gains hca1)) ?_
  refine zt_istore_n zy_267 (show q_ins q_k267 5 = some (.istore_n 2, 0, 0) from rfl) (by decide) ?_
  refine zt_aload_n zy_267 (show q_ins q_k267 6 = some (.aload_n 0, 0, 0) from rfl) (v := 163) rfl ?_
  refine zt_getR zy_267 (show q_ins q_k267 7 = some (.getfield 48, 11, 22) from rfl) (r := 174) zk_163_22 ?_
  refine zt_iload_n zy_267 (show q_ins q_k267 10 = some (.iload_n 1, 0, 0) from rfl) (v := Int32.ofInt v1) rfl ?_
  obtain ⟨hg, h⟩ := zt_ckE h
  refine zt_ald zy_267 (show q_ins q_k267 11 = some (.iaload, 0, 0) from rfl) za_174 (by decide) hg ?_
  refine zt_istore_n zy_267 (show q_ins q_k267 12 = some (.istore_n 3, 0, 0) from rfl) (by decide) ?_
  refine zt_aload_n zy_267 (show q_ins q_k267 13 = some (.aload_n 0, 0, 0) from rfl) (v := 163) rfl ?_
  refine zt_getR zy_267 (show q_ins q_k267 14 = some (.getfield 41, 11, 20) from rfl) (r := 172) zk_163_20 ?_
  refine zt_iload_n zy_267 (show q_ins q_k267 17 = some (.iload_n 1, 0, 0) from rfl) (v := Int32.ofInt v1) rfl ?_
  obtain ⟨hg, h⟩ := zt_ckE h
  refine zt_bld zy_267 (show q_ins q_k267 18 = some (.baload, 0, 0) from rfl) za_172 (by decide) (by decide) hg ?_
  obtain ⟨hg, h⟩ := zt_ckE h
  refine zt_if_eq zy_267 (show q_ins q_k267 19 = some (.ifCond .eq 17, 36, 0) from rfl) (hg) (fun hc => ?_) (fun hc => ?_)
  · rw [if_pos hc] at h
    exact zt_wk (zt_cov_cons rfl (zt_cov_cons rfl (zt_cov_cons rfl (zt_cov_cons rfl (zt_cov_nil))))) (S_M_deepens_36  _ _ _ _ _ h)
  · rw [if_neg hc] at h
    refine zt_iload_n zy_267 (show q_ins q_k267 22 = some (.iload_n 3, 0, 0) from rfl) (v := Int32.ofInt (s2.1 174 v1)) rfl ?_
    refine zt_aload_n zy_267 (show q_ins q_k267 23 = some (.aload_n 0, 0, 0) from rfl) (v := 163) rfl ?_
    refine zt_getR zy_267 (show q_ins q_k267 24 = some (.getfield 35, 11, 18) from rfl) (r := 170) zk_163_18 ?_
    refine zt_iload_n zy_267 (show q_ins q_k267 27 = some (.iload_n 1, 0, 0) from rfl) (v := Int32.ofInt v1) rfl ?_
    obtain ⟨hg, h⟩ := zt_ckE h
    refine zt_ald zy_267 (show q_ins q_k267 28 = some (.iaload, 0, 0) from rfl) za_170 (by decide) hg ?_
    obtain ⟨hg, h⟩ := zt_ckE h
    refine zt_icmp_le zy_267 (show q_ins q_k267 29 = some (.if_icmp .le 7, 36, 0) from rfl) (⟨hg.1, hg.2⟩) (fun hc => ?_) (fun hc => ?_)
    · rw [if_pos hc] at h
      refine zt_iload_n zy_267 (show q_ins q_k267 32 = some (.iload_n 3, 0, 0) from rfl) (v := Int32.ofInt (s2.1 174 v1)) rfl ?_
      refine zt_goto zy_267 (show q_ins q_k267 33 = some (.goto 9, 42, 0) from rfl) ?_
      exact zt_wk (zt_cov_cons rfl (zt_cov_cons rfl (zt_cov_cons rfl (zt_cov_cons rfl (zt_cov_nil))))) (S_M_deepens_42  _ _ _ _ _ _ h)
    · rw [if_neg hc] at h
      exact zt_wk (zt_cov_cons rfl (zt_cov_cons rfl (zt_cov_cons rfl (zt_cov_cons rfl (zt_cov_nil))))) (S_M_deepens_36  _ _ _ _ _ h)
theorem S_M_nextLegal_24 {X : q_X}   : ∀ (v2 : Int) (σ : zt_S) (o : (Int × zt_S)), F_M_nextLegal_24  v2 σ = some o → zt_Ex X 8 268 24 [(2, .int (Int32.ofInt v2))] [] (zt_M σ) (zo_I o) := by
  intro v2 σ o  h
  unfold F_M_nextLegal_24 at h
  refine zt_iload_n zy_268 (show q_ins q_k268 24 = some (.iload_n 2, 0, 0) from rfl) (v := Int32.ofInt v2) rfl ?_
  cases h
  exact zt_iret zy_268 (show q_ins q_k268 25 = some (.ireturn, 0, 0) from rfl)
theorem S_M_nextLegal_2 {X : q_X}   : ∀ (n : Nat) (v2 : Int) (σ : zt_S) (o : (Int × zt_S)), F_M_nextLegal_2  n v2 σ = some o → zt_Ex X 8 268 2 [(0, .ref 163), (2, .int (Int32.ofInt v2))] [] (zt_M σ) (zo_I o) := by
  intro n
  induction n with
  | zero => intro v2 σ o  h; cases h
  | succ n ih =>
  intro v2 σ o  h
  rw [F_M_nextLegal_2] at h
  refine zt_iload_n zy_268 (show q_ins q_k268 2 = some (.iload_n 2, 0, 0) from rfl) (v := Int32.ofInt v2) rfl ?_
  refine zt_aload_n zy_268 (show q_ins q_k268 3 = some (.aload_n 0, 0, 0) from rfl) (v := 163) rfl ?_
  obtain ⟨a1, s2, hca1, h⟩ := zt_bdE h
  refine zt_callV (d := 7) zy_268 (show q_ins q_k268 4 = some (.invokevirtual 244, 207, 0) from rfl) zy_207 (by decide) ⟨zq_lt (by decide), by decide⟩ rfl (by simp [Value.category]) (by simp [lg_sl, Value.category]) (zt_rcv zc_163) (zt_dm (by decide) (S_M_cards hca1)) ?_
  obtain ⟨hg, h⟩ := zt_ckE h
  refine zt_icmp_ge zy_268 (show q_ins q_k268 7 = some (.if_icmp .ge 17, 24, 0) from rfl) (⟨hg.1, hg.2⟩) (fun hc => ?_) (fun hc => ?_)
  · rw [if_pos hc] at h
    refine zt_aload_n zy_268 (show q_ins q_k268 10 = some (.aload_n 0, 0, 0) from rfl) (v := 163) rfl ?_
    refine zt_iload_n zy_268 (show q_ins q_k268 11 = some (.iload_n 2, 0, 0) from rfl) (v := Int32.ofInt v2) rfl ?_
    obtain ⟨a3, s4, hca3, h⟩ := zt_bdE h
    refine zt_callV (d := 7) zy_268 (show q_ins q_k268 12 = some (.invokevirtual 325, 224, 1) from rfl) zy_224 (by decide) ⟨zq_lt (by decide), by decide⟩ rfl (by simp [Value.category]) (by simp [lg_sl, Value.category]) (zt_rcv zc_163) (zt_dm (by decide) (S_M_isLegalNow hca3)) ?_
    obtain ⟨hg, h⟩ := zt_ckE h
    refine zt_if_ne zy_268 (show q_ins q_k268 15 = some (.ifCond .ne 9, 24, 0) from rfl) (hg) (fun hc => ?_) (fun hc => ?_)
    · rw [if_pos hc] at h
      refine zt_iinc zy_268 (show q_ins q_k268 18 = some (.iinc 2 1, 0, 0) from rfl) (v := v2) (by decide) rfl ?_
      refine zt_goto zy_268 (show q_ins q_k268 21 = some (.goto (-19), 2, 0) from rfl) ?_
      exact zt_wk (zt_cov_cons rfl (zt_cov_cons rfl (zt_cov_nil))) (ih _ _ _ h)
    · rw [if_neg hc] at h
      exact zt_wk (zt_cov_cons rfl (zt_cov_nil)) (S_M_nextLegal_24  _ _ _ h)
  · rw [if_neg hc] at h
    exact zt_wk (zt_cov_cons rfl (zt_cov_nil)) (S_M_nextLegal_24  _ _ _ h)
theorem S_M_nextLegal {X : q_X}   {v1 : Int} {σ : zt_S} {o : (Int × zt_S)} (h : F_M_nextLegal  v1 σ = some o) : zt_Ex X 8 268 0 (lv_args 0 [.ref 163, .int (Int32.ofInt v1)]) [] (zt_M σ) (zo_I o) := by
  unfold F_M_nextLegal at h
  refine zt_iload_n zy_268 (show q_ins q_k268 0 = some (.iload_n 1, 0, 0) from rfl) (v := Int32.ofInt v1) rfl ?_
  refine zt_istore_n zy_268 (show q_ins q_k268 1 = some (.istore_n 2, 0, 0) from rfl) (by decide) ?_
  exact zt_wk (zt_cov_cons rfl (zt_cov_cons rfl (zt_cov_nil))) (S_M_nextLegal_2  _ _ _ _ h)
theorem S_M_backs {X : q_X}   {v1 : Int} {v2 : Int} {σ : zt_S} {o : (Unit × zt_S)} (h : F_M_backs  v1 v2 σ = some o) : zt_Ex X 3 270 0 (lv_args 0 [.ref 163, .int (Int32.ofInt v1), .int (Int32.ofInt v2)]) [] (zt_M σ) (zo_V o) := by
  unfold F_M_backs at h
  refine zt_aload_n zy_270 (show q_ins q_k270 0 = some (.aload_n 0, 0, 0) from rfl) (v := 163) rfl ?_
  refine zt_getR zy_270 (show q_ins q_k270 1 = some (.getfield 13, 11, 1) from rfl) (r := 164) zk_163_1 ?_
  refine zt_bipush zy_270 (show q_ins q_k270 4 = some (.bipush 12, 0, 0) from rfl) (by decide) ?_
  refine zt_ald zy_270 (show q_ins q_k270 6 = some (.iaload, 0, 0) from rfl) za_164 (by decide) (by decide) ?_
  refine zt_iconst zy_270 (show q_ins q_k270 7 = some (.iconst 1, 0, 0) from rfl) ?_
  refine zt_isub zy_270 (show q_ins q_k270 8 = some (.isub, 0, 0) from rfl) ?_
  refine zt_aload_n zy_270 (show q_ins q_k270 9 = some (.aload_n 0, 0, 0) from rfl) (v := 163) rfl ?_
  refine zt_getR zy_270 (show q_ins q_k270 10 = some (.getfield 63, 11, 27) from rfl) (r := 179) zk_163_27 ?_
  refine zt_iload_n zy_270 (show q_ins q_k270 13 = some (.iload_n 1, 0, 0) from rfl) (v := Int32.ofInt v1) rfl ?_
  obtain ⟨hg, h⟩ := zt_ckE h
  refine zt_ald zy_270 (show q_ins q_k270 14 = some (.iaload, 0, 0) from rfl) za_179 (by decide) hg ?_
  refine zt_aload_n zy_270 (show q_ins q_k270 15 = some (.aload_n 0, 0, 0) from rfl) (v := 163) rfl ?_
  refine zt_getR zy_270 (show q_ins q_k270 16 = some (.getfield 13, 11, 1) from rfl) (r := 164) zk_163_1 ?_
  refine zt_iconst zy_270 (show q_ins q_k270 19 = some (.iconst 1, 0, 0) from rfl) ?_
  refine zt_ald zy_270 (show q_ins q_k270 20 = some (.iaload, 0, 0) from rfl) za_164 (by decide) (by decide) ?_
  refine zt_imul zy_270 (show q_ins q_k270 21 = some (.imul, 0, 0) from rfl) ?_
  refine zt_isub zy_270 (show q_ins q_k270 22 = some (.isub, 0, 0) from rfl) ?_
  refine zt_istore_n zy_270 (show q_ins q_k270 23 = some (.istore_n 3, 0, 0) from rfl) (by decide) ?_
  refine zt_aload_n zy_270 (show q_ins q_k270 24 = some (.aload_n 0, 0, 0) from rfl) (v := 163) rfl ?_
  refine zt_getR zy_270 (show q_ins q_k270 25 = some (.getfield 54, 11, 24) from rfl) (r := 176) zk_163_24 ?_
  refine zt_iload_n zy_270 (show q_ins q_k270 28 = some (.iload_n 1, 0, 0) from rfl) (v := Int32.ofInt v1) rfl ?_
  obtain ⟨hg, h⟩ := zt_ckE h
  refine zt_ald zy_270 (show q_ins q_k270 29 = some (.iaload, 0, 0) from rfl) za_176 (by decide) hg ?_
  refine zt_iload_n zy_270 (show q_ins q_k270 30 = some (.iload_n 3, 0, 0) from rfl) (v := Int32.ofInt (((σ.1 164 (12 : Int)) - (1 : Int)) - ((σ.1 179 v1) * (σ.1 164 (1 : Int))))) rfl ?_
  refine zt_iadd zy_270 (show q_ins q_k270 31 = some (.iadd, 0, 0) from rfl) ?_
  refine zt_aload_n zy_270 (show q_ins q_k270 32 = some (.aload_n 0, 0, 0) from rfl) (v := 163) rfl ?_
  refine zt_getR zy_270 (show q_ins q_k270 33 = some (.getfield 13, 11, 1) from rfl) (r := 164) zk_163_1 ?_
  refine zt_iconst zy_270 (show q_ins q_k270 36 = some (.iconst 1, 0, 0) from rfl) ?_
  refine zt_ald zy_270 (show q_ins q_k270 37 = some (.iaload, 0, 0) from rfl) za_164 (by decide) (by decide) ?_
  obtain ⟨hg, h⟩ := zt_ckE h
  refine zt_irem zy_270 (show q_ins q_k270 38 = some (.irem, 0, 0) from rfl) hg.1 hg.2 ?_
  obtain ⟨e1, he1, h⟩ := zt_letE h
  rw [← he1]
  refine zt_istore zy_270 (show q_ins q_k270 39 = some (.istore 4, 0, 0) from rfl) (by decide) ?_
  refine zt_aload_n zy_270 (show q_ins q_k270 41 = some (.aload_n 0, 0, 0) from rfl) (v := 163) rfl ?_
  refine zt_iload_n zy_270 (show q_ins q_k270 42 = some (.iload_n 1, 0, 0) from rfl) (v := Int32.ofInt v1) rfl ?_
  refine zt_iload zy_270 (show q_ins q_k270 43 = some (.iload 4, 0, 0) from rfl) (v := Int32.ofInt e1) rfl ?_
  obtain ⟨a2, s3, hca2, h⟩ := zt_bdE h
  refine zt_callV (d := 2) zy_270 (show q_ins q_k270 45 = some (.invokevirtual 362, 264, 2) from rfl) zy_264 (by decide) ⟨zq_lt (by decide), by decide⟩ rfl (by simp [Value.category]) (by simp [lg_sl, Value.category]) (zt_rcv zc_163) (zt_dm (by decide) (S_M_takesBack hca2)) ?_
  refine zt_istore zy_270 (show q_ins q_k270 48 = some (.istore 5, 0, 0) from rfl) (by decide) ?_
  refine zt_aload_n zy_270 (show q_ins q_k270 50 = some (.aload_n 0, 0, 0) from rfl) (v := 163) rfl ?_
  refine zt_iload_n zy_270 (show q_ins q_k270 51 = some (.iload_n 1, 0, 0) from rfl) (v := Int32.ofInt v1) rfl ?_
  refine zt_iload zy_270 (show q_ins q_k270 52 = some (.iload 5, 0, 0) from rfl) (v := Int32.ofInt a2) rfl ?_
  refine zt_iload_n zy_270 (show q_ins q_k270 54 = some (.iload_n 2, 0, 0) from rfl) (v := Int32.ofInt v2) rfl ?_
  refine zt_iadd zy_270 (show q_ins q_k270 55 = some (.iadd, 0, 0) from rfl) ?_
  obtain ⟨a4, s5, hca4, h⟩ := zt_bdE h
  refine zt_callV (d := 2) zy_270 (show q_ins q_k270 56 = some (.invokevirtual 365, 265, 2) from rfl) zy_265 (by decide) ⟨zq_lt (by decide), by decide⟩ rfl (by simp [Value.category]) (by simp [lg_sl, Value.category]) (zt_rcv zc_163) (zt_dm (by decide) (S_M_weighs hca4)) ?_
  cases h
  exact zt_ret zy_270 (show q_ins q_k270 59 = some (.return_, 0, 0) from rfl)
theorem S_M_searches_106 {X : q_X}   {r18 : Int → zt_S → Option (Int × zt_S)} (hr18 : ∀ (v1 : Int) (σ : zt_S) (o : (Int × zt_S)), r18 v1 σ = some o → zt_Ex X 9 269 18 [(0, .ref 163), (1, .int (Int32.ofInt v1))] [] (zt_M σ) (zo_I o)) : ∀ (v1 : Int) (σ : zt_S) (o : (Int × zt_S)), F_M_searches_106  r18 v1 σ = some o → zt_Ex X 9 269 106 [(0, .ref 163), (1, .int (Int32.ofInt v1))] [] (zt_M σ) (zo_I o) := by
  intro v1 σ o  h
  unfold F_M_searches_106 at h
  refine zt_goto zy_269 (show q_ins q_k269 106 = some (.goto (-88), 18, 0) from rfl) ?_
  exact zt_wk (zt_cov_cons rfl (zt_cov_cons rfl (zt_cov_nil))) (hr18 _ _ _ h)
theorem S_M_searches_18 {X : q_X}   : ∀ (n : Nat) (v1 : Int) (σ : zt_S) (o : (Int × zt_S)), F_M_searches_18  n v1 σ = some o → zt_Ex X 9 269 18 [(0, .ref 163), (1, .int (Int32.ofInt v1))] [] (zt_M σ) (zo_I o) := by
  intro n
  induction n with
  | zero => intro v1 σ o  h; cases h
  | succ n ih =>
  intro v1 σ o  h
  rw [F_M_searches_18] at h
  refine zt_aload_n zy_269 (show q_ins q_k269 18 = some (.aload_n 0, 0, 0) from rfl) (v := 163) rfl ?_
  refine zt_aload_n zy_269 (show q_ins q_k269 19 = some (.aload_n 0, 0, 0) from rfl) (v := 163) rfl ?_
  refine zt_getR zy_269 (show q_ins q_k269 20 = some (.getfield 45, 11, 21) from rfl) (r := 173) zk_163_21 ?_
  refine zt_iload_n zy_269 (show q_ins q_k269 23 = some (.iload_n 1, 0, 0) from rfl) (v := Int32.ofInt v1) rfl ?_
  obtain ⟨hg, h⟩ := zt_ckE h
  refine zt_ald zy_269 (show q_ins q_k269 24 = some (.iaload, 0, 0) from rfl) za_173 (by decide) hg ?_
  obtain ⟨a6, s7, hca6, h⟩ := zt_bdE h
  refine zt_callV (d := 8) zy_269 (show q_ins q_k269 25 = some (.invokevirtual 350, 268, 1) from rfl) zy_268 (by decide) ⟨zq_lt (by decide), by decide⟩ rfl (by simp [Value.category]) (by simp [lg_sl, Value.category]) (zt_rcv zc_163) (zt_dm (by decide) (S_M_nextLegal hca6)) ?_
  refine zt_istore_n zy_269 (show q_ins q_k269 28 = some (.istore_n 2, 0, 0) from rfl) (by decide) ?_
  refine zt_iload_n zy_269 (show q_ins q_k269 29 = some (.iload_n 2, 0, 0) from rfl) (v := Int32.ofInt a6) rfl ?_
  refine zt_aload_n zy_269 (show q_ins q_k269 30 = some (.aload_n 0, 0, 0) from rfl) (v := 163) rfl ?_
  obtain ⟨a8, s9, hca8, h⟩ := zt_bdE h
  refine zt_callV (d := 8) zy_269 (show q_ins q_k269 31 = some (.invokevirtual 244, 207, 0) from rfl) zy_207 (by decide) ⟨zq_lt (by decide), by decide⟩ rfl (by simp [Value.category]) (by simp [lg_sl, Value.category]) (zt_rcv zc_163) (zt_dm (by decide) (S_M_cards hca8)) ?_
  obtain ⟨hg, h⟩ := zt_ckE h
  refine zt_icmp_ge zy_269 (show q_ins q_k269 34 = some (.if_icmp .ge 45, 79, 0) from rfl) (⟨hg.1, hg.2⟩) (fun hc => ?_) (fun hc => ?_)
  · rw [if_pos hc] at h
    refine zt_aload_n zy_269 (show q_ins q_k269 37 = some (.aload_n 0, 0, 0) from rfl) (v := 163) rfl ?_
    refine zt_getR zy_269 (show q_ins q_k269 38 = some (.getfield 45, 11, 21) from rfl) (r := 173) zk_163_21 ?_
    refine zt_iload_n zy_269 (show q_ins q_k269 41 = some (.iload_n 1, 0, 0) from rfl) (v := Int32.ofInt v1) rfl ?_
    refine zt_iload_n zy_269 (show q_ins q_k269 42 = some (.iload_n 2, 0, 0) from rfl) (v := Int32.ofInt a6) rfl ?_
    refine zt_iconst zy_269 (show q_ins q_k269 43 = some (.iconst 1, 0, 0) from rfl) ?_
    refine zt_iadd zy_269 (show q_ins q_k269 44 = some (.iadd, 0, 0) from rfl) ?_
    obtain ⟨hg, h⟩ := zt_ckE h
    obtain ⟨s10, hs10, h⟩ := zt_letE h
    refine zt_ast zy_269 (show q_ins q_k269 45 = some (.iastore, 0, 0) from rfl) za_173 (by decide) hg ?_
    rw [← hs10]
    refine zt_aload_n zy_269 (show q_ins q_k269 46 = some (.aload_n 0, 0, 0) from rfl) (v := 163) rfl ?_
    refine zt_iload_n zy_269 (show q_ins q_k269 47 = some (.iload_n 1, 0, 0) from rfl) (v := Int32.ofInt v1) rfl ?_
    refine zt_iload_n zy_269 (show q_ins q_k269 48 = some (.iload_n 2, 0, 0) from rfl) (v := Int32.ofInt a6) rfl ?_
    obtain ⟨a11, s12, hca11, h⟩ := zt_bdE h
    refine zt_callV (d := 8) zy_269 (show q_ins q_k269 49 = some (.invokevirtual 353, 262, 2) from rfl) zy_262 (by decide) ⟨zq_lt (by decide), by decide⟩ rfl (by simp [Value.category]) (by simp [lg_sl, Value.category]) (zt_rcv zc_163) (zt_dm (by decide) (S_M_puts hca11)) ?_
    refine zt_aload_n zy_269 (show q_ins q_k269 52 = some (.aload_n 0, 0, 0) from rfl) (v := 163) rfl ?_
    obtain ⟨a13, s14, hca13, h⟩ := zt_bdE h
    refine zt_callV (d := 8) zy_269 (show q_ins q_k269 53 = some (.invokevirtual 248, 211, 0) from rfl) zy_211 (by decide) ⟨zq_lt (by decide), by decide⟩ rfl (by simp [Value.category]) (by simp [lg_sl, Value.category]) (zt_rcv zc_163) (zt_dm (by decide) (S_M_isOver hca13)) ?_
    obtain ⟨hg, h⟩ := zt_ckE h
    refine zt_if_ne zy_269 (show q_ins q_k269 56 = some (.ifCond .ne 14, 70, 0) from rfl) (hg) (fun hc => ?_) (fun hc => ?_)
    · rw [if_pos hc] at h
      refine zt_aload_n zy_269 (show q_ins q_k269 59 = some (.aload_n 0, 0, 0) from rfl) (v := 163) rfl ?_
      refine zt_iload_n zy_269 (show q_ins q_k269 60 = some (.iload_n 1, 0, 0) from rfl) (v := Int32.ofInt v1) rfl ?_
      obtain ⟨a15, s16, hca15, h⟩ := zt_bdE h
      refine zt_callV (d := 8) zy_269 (show q_ins q_k269 61 = some (.invokevirtual 356, 267, 1) from rfl) zy_267 (by decide) ⟨zq_lt (by decide), by decide⟩ rfl (by simp [Value.category]) (by simp [lg_sl, Value.category]) (zt_rcv zc_163) (zt_dm (by decide) (S_M_deepens hca15)) ?_
      refine zt_iinc zy_269 (show q_ins q_k269 64 = some (.iinc 1 1, 0, 0) from rfl) (v := v1) (by decide) rfl ?_
      refine zt_goto zy_269 (show q_ins q_k269 67 = some (.goto (-49), 18, 0) from rfl) ?_
      exact zt_wk (zt_cov_cons rfl (zt_cov_cons rfl (zt_cov_nil))) (ih _ _ _ h)
    · rw [if_neg hc] at h
      refine zt_aload_n zy_269 (show q_ins q_k269 70 = some (.aload_n 0, 0, 0) from rfl) (v := 163) rfl ?_
      refine zt_iload_n zy_269 (show q_ins q_k269 71 = some (.iload_n 1, 0, 0) from rfl) (v := Int32.ofInt v1) rfl ?_
      refine zt_iconst zy_269 (show q_ins q_k269 72 = some (.iconst 0, 0, 0) from rfl) ?_
      obtain ⟨a17, s18, hca17, h⟩ := zt_bdE h
      refine zt_callV (d := 8) zy_269 (show q_ins q_k269 73 = some (.invokevirtual 359, 270, 2) from rfl) zy_270 (by decide) ⟨zq_lt (by decide), by decide⟩ rfl (by simp [Value.category]) (by simp [lg_sl, Value.category]) (zt_rcv zc_163) (zt_dm (by decide) (S_M_backs hca17)) ?_
      refine zt_goto zy_269 (show q_ins q_k269 76 = some (.goto 30, 106, 0) from rfl) ?_
      exact zt_wk (zt_cov_cons rfl (zt_cov_cons rfl (zt_cov_nil))) (S_M_searches_106  ih _ _ _ h)
  · rw [if_neg hc] at h
    refine zt_iload_n zy_269 (show q_ins q_k269 79 = some (.iload_n 1, 0, 0) from rfl) (v := Int32.ofInt v1) rfl ?_
    obtain ⟨hg, h⟩ := zt_ckE h
    refine zt_if_ne zy_269 (show q_ins q_k269 80 = some (.ifCond .ne 10, 90, 0) from rfl) (hg) (fun hc => ?_) (fun hc => ?_)
    · rw [if_pos hc] at h
      refine zt_aload_n zy_269 (show q_ins q_k269 83 = some (.aload_n 0, 0, 0) from rfl) (v := 163) rfl ?_
      refine zt_getR zy_269 (show q_ins q_k269 84 = some (.getfield 48, 11, 22) from rfl) (r := 174) zk_163_22 ?_
      refine zt_iconst zy_269 (show q_ins q_k269 87 = some (.iconst 0, 0, 0) from rfl) ?_
      refine zt_ald zy_269 (show q_ins q_k269 88 = some (.iaload, 0, 0) from rfl) za_174 (by decide) (by decide) ?_
      cases h
      exact zt_iret zy_269 (show q_ins q_k269 89 = some (.ireturn, 0, 0) from rfl)
    · rw [if_neg hc] at h
      refine zt_iinc zy_269 (show q_ins q_k269 90 = some (.iinc 1 (-1), 0, 0) from rfl) (v := v1) (by decide) rfl ?_
      refine zt_aload_n zy_269 (show q_ins q_k269 93 = some (.aload_n 0, 0, 0) from rfl) (v := 163) rfl ?_
      refine zt_iload_n zy_269 (show q_ins q_k269 94 = some (.iload_n 1, 0, 0) from rfl) (v := Int32.ofInt (v1 + (-1 : Int))) rfl ?_
      refine zt_aload_n zy_269 (show q_ins q_k269 95 = some (.aload_n 0, 0, 0) from rfl) (v := 163) rfl ?_
      refine zt_getR zy_269 (show q_ins q_k269 96 = some (.getfield 48, 11, 22) from rfl) (r := 174) zk_163_22 ?_
      refine zt_iload_n zy_269 (show q_ins q_k269 99 = some (.iload_n 1, 0, 0) from rfl) (v := Int32.ofInt (v1 + (-1 : Int))) rfl ?_
      refine zt_iconst zy_269 (show q_ins q_k269 100 = some (.iconst 1, 0, 0) from rfl) ?_
      refine zt_iadd zy_269 (show q_ins q_k269 101 = some (.iadd, 0, 0) from rfl) ?_
      obtain ⟨hg, h⟩ := zt_ckE h
      refine zt_ald zy_269 (show q_ins q_k269 102 = some (.iaload, 0, 0) from rfl) za_174 (by decide) hg ?_
      obtain ⟨a19, s20, hca19, h⟩ := zt_bdE h
      refine zt_callV (d := 8) zy_269 (show q_ins q_k269 103 = some (.invokevirtual 359, 270, 2) from rfl) zy_270 (by decide) ⟨zq_lt (by decide), by decide⟩ rfl (by simp [Value.category]) (by simp [lg_sl, Value.category]) (zt_rcv zc_163) (zt_dm (by decide) (S_M_backs hca19)) ?_
      exact zt_wk (zt_cov_cons rfl (zt_cov_cons rfl (zt_cov_nil))) (S_M_searches_106  ih _ _ _ h)
theorem S_M_searches {X : q_X}    {σ : zt_S} {o : (Int × zt_S)} (h : F_M_searches   σ = some o) : zt_Ex X 9 269 0 (lv_args 0 [.ref 163]) [] (zt_M σ) (zo_I o) := by
  unfold F_M_searches at h
  refine zt_aload_n zy_269 (show q_ins q_k269 0 = some (.aload_n 0, 0, 0) from rfl) (v := 163) rfl ?_
  refine zt_aload_n zy_269 (show q_ins q_k269 1 = some (.aload_n 0, 0, 0) from rfl) (v := 163) rfl ?_
  obtain ⟨a1, s2, hca1, h⟩ := zt_bdE h
  refine zt_callV (d := 8) zy_269 (show q_ins q_k269 2 = some (.invokevirtual 288, 214, 0) from rfl) zy_214 (by decide) ⟨zq_lt (by decide), by decide⟩ rfl (by simp [Value.category]) (by simp [lg_sl, Value.category]) (zt_rcv zc_163) (zt_dm (by decide) (S_M_turn hca1)) ?_
  obtain ⟨s3, hs3, h⟩ := zt_letE h
  refine zt_putI zy_269 (show q_ins q_k269 5 = some (.putfield 338, 11, 28) from rfl) (j := 28) zk_163_28 rfl rfl rfl ?_
  rw [← hs3]
  refine zt_iconst zy_269 (show q_ins q_k269 8 = some (.iconst 0, 0, 0) from rfl) ?_
  refine zt_istore_n zy_269 (show q_ins q_k269 9 = some (.istore_n 1, 0, 0) from rfl) (by decide) ?_
  refine zt_aload_n zy_269 (show q_ins q_k269 10 = some (.aload_n 0, 0, 0) from rfl) (v := 163) rfl ?_
  refine zt_iconst zy_269 (show q_ins q_k269 11 = some (.iconst 0, 0, 0) from rfl) ?_
  refine zt_iconst zy_269 (show q_ins q_k269 12 = some (.iconst (-1), 0, 0) from rfl) ?_
  refine zt_bipush zy_269 (show q_ins q_k269 13 = some (.bipush 100, 0, 0) from rfl) (by decide) ?_
  obtain ⟨a4, s5, hca4, h⟩ := zt_bdE h
  refine zt_callV (d := 8) zy_269 (show q_ins q_k269 15 = some (.invokevirtual 347, 266, 3) from rfl) zy_266 (by decide) ⟨zq_lt (by decide), by decide⟩ rfl (by simp [Value.category]) (by simp [lg_sl, Value.category]) (zt_rcv zc_163) (zt_dm (by decide) (S_M_opens hca4)) ?_
  exact zt_wk (zt_cov_cons rfl (zt_cov_cons rfl (zt_cov_nil))) (S_M_searches_18  _ _ _ _ h)
theorem S_M_inHands {X : q_X}    {σ : zt_S} {o : (Int × zt_S)} (h : F_M_inHands   σ = some o) : zt_Ex X 0 271 0 (lv_args 0 [.ref 163]) [] (zt_M σ) (zo_I o) := by
  unfold F_M_inHands at h
  refine zt_aload_n zy_271 (show q_ins q_k271 0 = some (.aload_n 0, 0, 0) from rfl) (v := 163) rfl ?_
  refine zt_getR zy_271 (show q_ins q_k271 1 = some (.getfield 13, 11, 1) from rfl) (r := 164) zk_163_1 ?_
  refine zt_iconst zy_271 (show q_ins q_k271 4 = some (.iconst 1, 0, 0) from rfl) ?_
  refine zt_ald zy_271 (show q_ins q_k271 5 = some (.iaload, 0, 0) from rfl) za_164 (by decide) (by decide) ?_
  refine zt_aload_n zy_271 (show q_ins q_k271 6 = some (.aload_n 0, 0, 0) from rfl) (v := 163) rfl ?_
  refine zt_getR zy_271 (show q_ins q_k271 7 = some (.getfield 13, 11, 1) from rfl) (r := 164) zk_163_1 ?_
  refine zt_iconst zy_271 (show q_ins q_k271 10 = some (.iconst 2, 0, 0) from rfl) ?_
  refine zt_ald zy_271 (show q_ins q_k271 11 = some (.iaload, 0, 0) from rfl) za_164 (by decide) (by decide) ?_
  refine zt_imul zy_271 (show q_ins q_k271 12 = some (.imul, 0, 0) from rfl) ?_
  refine zt_aload_n zy_271 (show q_ins q_k271 13 = some (.aload_n 0, 0, 0) from rfl) (v := 163) rfl ?_
  refine zt_getR zy_271 (show q_ins q_k271 14 = some (.getfield 13, 11, 1) from rfl) (r := 164) zk_163_1 ?_
  refine zt_bipush zy_271 (show q_ins q_k271 17 = some (.bipush 12, 0, 0) from rfl) (by decide) ?_
  refine zt_ald zy_271 (show q_ins q_k271 19 = some (.iaload, 0, 0) from rfl) za_164 (by decide) (by decide) ?_
  refine zt_isub zy_271 (show q_ins q_k271 20 = some (.isub, 0, 0) from rfl) ?_
  cases h
  exact zt_iret zy_271 (show q_ins q_k271 21 = some (.ireturn, 0, 0) from rfl)
theorem S_M_sure_29 {X : q_X}   : ∀ (x0 : Int) (σ : zt_S) (o : (Int × zt_S)), F_M_sure_29  x0 σ = some o → zt_Ex X 10 272 29 [] [.int (Int32.ofInt x0)] (zt_M σ) (zo_I o) := by
  intro x0 σ o  h
  unfold F_M_sure_29 at h
  cases h
  exact zt_iret zy_272 (show q_ins q_k272 29 = some (.ireturn, 0, 0) from rfl)
theorem S_M_sure_21 {X : q_X}   : ∀  (σ : zt_S) (o : (Int × zt_S)), F_M_sure_21   σ = some o → zt_Ex X 10 272 21 [] [] (zt_M σ) (zo_I o) := by
  intro  σ o  h
  unfold F_M_sure_21 at h
  refine zt_iconst zy_272 (show q_ins q_k272 21 = some (.iconst (-1), 0, 0) from rfl) ?_
  refine zt_goto zy_272 (show q_ins q_k272 22 = some (.goto 7, 29, 0) from rfl) ?_
  exact zt_wk (zt_cov_nil) (S_M_sure_29  _ _ _ h)
theorem S_M_sure {X : q_X}    {σ : zt_S} {o : (Int × zt_S)} (h : F_M_sure   σ = some o) : zt_Ex X 10 272 0 (lv_args 0 [.ref 163]) [] (zt_M σ) (zo_I o) := by
  unfold F_M_sure at h
  refine zt_aload_n zy_272 (show q_ins q_k272 0 = some (.aload_n 0, 0, 0) from rfl) (v := 163) rfl ?_
  refine zt_iconst zy_272 (show q_ins q_k272 1 = some (.iconst 0, 0, 0) from rfl) ?_
  obtain ⟨s1, hs1, h⟩ := zt_letE h
  refine zt_putI zy_272 (show q_ins q_k272 2 = some (.putfield 1, 11, 0) from rfl) (j := 0) zk_163_0 rfl rfl rfl ?_
  rw [← hs1]
  refine zt_aload_n zy_272 (show q_ins q_k272 5 = some (.aload_n 0, 0, 0) from rfl) (v := 163) rfl ?_
  obtain ⟨a2, s3, hca2, h⟩ := zt_bdE h
  refine zt_callV (d := 9) zy_272 (show q_ins q_k272 6 = some (.invokevirtual 248, 211, 0) from rfl) zy_211 (by decide) ⟨zq_lt (by decide), by decide⟩ rfl (by simp [Value.category]) (by simp [lg_sl, Value.category]) (zt_rcv zc_163) (zt_dm (by decide) (S_M_isOver hca2)) ?_
  obtain ⟨hg, h⟩ := zt_ckE h
  refine zt_if_ne zy_272 (show q_ins q_k272 9 = some (.ifCond .ne 12, 21, 0) from rfl) (hg) (fun hc => ?_) (fun hc => ?_)
  · rw [if_pos hc] at h
    refine zt_aload_n zy_272 (show q_ins q_k272 12 = some (.aload_n 0, 0, 0) from rfl) (v := 163) rfl ?_
    obtain ⟨a4, s5, hca4, h⟩ := zt_bdE h
    refine zt_callV (d := 9) zy_272 (show q_ins q_k272 13 = some (.invokevirtual 368, 271, 0) from rfl) zy_271 (by decide) ⟨zq_lt (by decide), by decide⟩ rfl (by simp [Value.category]) (by simp [lg_sl, Value.category]) (zt_rcv zc_163) (zt_dm (by decide) (S_M_inHands hca4)) ?_
    refine zt_bipush zy_272 (show q_ins q_k272 16 = some (.bipush 12, 0, 0) from rfl) (by decide) ?_
    obtain ⟨hg, h⟩ := zt_ckE h
    refine zt_icmp_le zy_272 (show q_ins q_k272 18 = some (.if_icmp .le 7, 25, 0) from rfl) (⟨hg, by decide⟩) (fun hc => ?_) (fun hc => ?_)
    · rw [if_pos hc] at h
      exact zt_wk (zt_cov_nil) (S_M_sure_21  _ _ h)
    · rw [if_neg hc] at h
      refine zt_aload_n zy_272 (show q_ins q_k272 25 = some (.aload_n 0, 0, 0) from rfl) (v := 163) rfl ?_
      obtain ⟨a6, s7, hca6, h⟩ := zt_bdE h
      refine zt_callV (d := 9) zy_272 (show q_ins q_k272 26 = some (.invokevirtual 371, 269, 0) from rfl) zy_269 (by decide) ⟨zq_lt (by decide), by decide⟩ rfl (by simp [Value.category]) (by simp [lg_sl, Value.category]) (zt_rcv zc_163) (zt_dm (by decide) (S_M_searches hca6)) ?_
      exact zt_wk (zt_cov_nil) (S_M_sure_29  _ _ _ h)
  · rw [if_neg hc] at h
    exact zt_wk (zt_cov_nil) (S_M_sure_21  _ _ h)
theorem S_M_sureCard_21 {X : q_X}   : ∀  (σ : zt_S) (o : (Int × zt_S)), F_M_sureCard_21   σ = some o → zt_Ex X 10 273 21 [] [] (zt_M σ) (zo_I o) := by
  intro  σ o  h
  unfold F_M_sureCard_21 at h
  refine zt_iconst zy_273 (show q_ins q_k273 21 = some (.iconst (-1), 0, 0) from rfl) ?_
  cases h
  exact zt_iret zy_273 (show q_ins q_k273 22 = some (.ireturn, 0, 0) from rfl)
theorem S_M_sureCard {X : q_X}    {σ : zt_S} {o : (Int × zt_S)} (h : F_M_sureCard   σ = some o) : zt_Ex X 10 273 0 (lv_args 0 [.ref 163]) [] (zt_M σ) (zo_I o) := by
  unfold F_M_sureCard at h
  refine zt_aload_n zy_273 (show q_ins q_k273 0 = some (.aload_n 0, 0, 0) from rfl) (v := 163) rfl ?_
  refine zt_iconst zy_273 (show q_ins q_k273 1 = some (.iconst 0, 0, 0) from rfl) ?_
  obtain ⟨s1, hs1, h⟩ := zt_letE h
  refine zt_putI zy_273 (show q_ins q_k273 2 = some (.putfield 1, 11, 0) from rfl) (j := 0) zk_163_0 rfl rfl rfl ?_
  rw [← hs1]
  refine zt_aload_n zy_273 (show q_ins q_k273 5 = some (.aload_n 0, 0, 0) from rfl) (v := 163) rfl ?_
  obtain ⟨a2, s3, hca2, h⟩ := zt_bdE h
  refine zt_callV (d := 9) zy_273 (show q_ins q_k273 6 = some (.invokevirtual 248, 211, 0) from rfl) zy_211 (by decide) ⟨zq_lt (by decide), by decide⟩ rfl (by simp [Value.category]) (by simp [lg_sl, Value.category]) (zt_rcv zc_163) (zt_dm (by decide) (S_M_isOver hca2)) ?_
  obtain ⟨hg, h⟩ := zt_ckE h
  refine zt_if_ne zy_273 (show q_ins q_k273 9 = some (.ifCond .ne 12, 21, 0) from rfl) (hg) (fun hc => ?_) (fun hc => ?_)
  · rw [if_pos hc] at h
    refine zt_aload_n zy_273 (show q_ins q_k273 12 = some (.aload_n 0, 0, 0) from rfl) (v := 163) rfl ?_
    obtain ⟨a4, s5, hca4, h⟩ := zt_bdE h
    refine zt_callV (d := 9) zy_273 (show q_ins q_k273 13 = some (.invokevirtual 368, 271, 0) from rfl) zy_271 (by decide) ⟨zq_lt (by decide), by decide⟩ rfl (by simp [Value.category]) (by simp [lg_sl, Value.category]) (zt_rcv zc_163) (zt_dm (by decide) (S_M_inHands hca4)) ?_
    refine zt_bipush zy_273 (show q_ins q_k273 16 = some (.bipush 12, 0, 0) from rfl) (by decide) ?_
    obtain ⟨hg, h⟩ := zt_ckE h
    refine zt_icmp_le zy_273 (show q_ins q_k273 18 = some (.if_icmp .le 5, 23, 0) from rfl) (⟨hg, by decide⟩) (fun hc => ?_) (fun hc => ?_)
    · rw [if_pos hc] at h
      exact zt_wk (zt_cov_nil) (S_M_sureCard_21  _ _ h)
    · rw [if_neg hc] at h
      refine zt_aload_n zy_273 (show q_ins q_k273 23 = some (.aload_n 0, 0, 0) from rfl) (v := 163) rfl ?_
      obtain ⟨a6, s7, hca6, h⟩ := zt_bdE h
      refine zt_callV (d := 9) zy_273 (show q_ins q_k273 24 = some (.invokevirtual 371, 269, 0) from rfl) zy_269 (by decide) ⟨zq_lt (by decide), by decide⟩ rfl (by simp [Value.category]) (by simp [lg_sl, Value.category]) (zt_rcv zc_163) (zt_dm (by decide) (S_M_searches hca6)) ?_
      refine zt_istore_n zy_273 (show q_ins q_k273 27 = some (.istore_n 1, 0, 0) from rfl) (by decide) ?_
      refine zt_aload_n zy_273 (show q_ins q_k273 28 = some (.aload_n 0, 0, 0) from rfl) (v := 163) rfl ?_
      refine zt_getI zy_273 (show q_ins q_k273 29 = some (.getfield 344, 11, 29) from rfl) (j := 29) zk_163_29 rfl ?_
      cases h
      exact zt_iret zy_273 (show q_ins q_k273 32 = some (.ireturn, 0, 0) from rfl)
  · rw [if_neg hc] at h
    exact zt_wk (zt_cov_nil) (S_M_sureCard_21  _ _ h)
theorem S_M_meanRank_51 {X : q_X}   {r24 : Int → Int → Int → zt_S → Option (UInt64 × zt_S)} (hr24 : ∀ (v1 : Int) (v2 : Int) (v3 : Int) (σ : zt_S) (o : (UInt64 × zt_S)), r24 v1 v2 v3 σ = some o → zt_Ex X 2 274 24 [(0, .ref 163), (1, .int (Int32.ofInt v1)), (2, .int (Int32.ofInt v2)), (3, .int (Int32.ofInt v3))] [] (zt_M σ) (zo_D o)) : ∀ (v1 : Int) (v3 : Int) (x0 : Int) (x1 : Int) (σ : zt_S) (o : (UInt64 × zt_S)), F_M_meanRank_51  r24 v1 v3 x0 x1 σ = some o → zt_Ex X 2 274 51 [(0, .ref 163), (1, .int (Int32.ofInt v1)), (3, .int (Int32.ofInt v3))] [.int (Int32.ofInt x0), .int (Int32.ofInt x1)] (zt_M σ) (zo_D o) := by
  intro v1 v3 x0 x1 σ o  h
  unfold F_M_meanRank_51 at h
  refine zt_iadd zy_274 (show q_ins q_k274 51 = some (.iadd, 0, 0) from rfl) ?_
  refine zt_istore_n zy_274 (show q_ins q_k274 52 = some (.istore_n 2, 0, 0) from rfl) (by decide) ?_
  refine zt_iinc zy_274 (show q_ins q_k274 53 = some (.iinc 3 1, 0, 0) from rfl) (v := v3) (by decide) rfl ?_
  refine zt_goto zy_274 (show q_ins q_k274 56 = some (.goto (-32), 24, 0) from rfl) ?_
  exact zt_wk (zt_cov_cons rfl (zt_cov_cons rfl (zt_cov_cons rfl (zt_cov_cons rfl (zt_cov_nil))))) (hr24 _ _ _ _ _ h)
theorem S_M_meanRank_88 {X : q_X}   : ∀ (x0 : UInt64) (σ : zt_S) (o : (UInt64 × zt_S)), F_M_meanRank_88  x0 σ = some o → zt_Ex X 2 274 88 [] [.double x0] (zt_M σ) (zo_D o) := by
  intro x0 σ o  h
  unfold F_M_meanRank_88 at h
  cases h
  exact zt_dret zy_274 (show q_ins q_k274 88 = some (.dreturn, 0, 0) from rfl)
theorem S_M_meanRank_59 {X : q_X}   : ∀ (v1 : Int) (v2 : Int) (σ : zt_S) (o : (UInt64 × zt_S)), F_M_meanRank_59  v1 v2 σ = some o → zt_Ex X 2 274 59 [(0, .ref 163), (1, .int (Int32.ofInt v1)), (2, .int (Int32.ofInt v2))] [] (zt_M σ) (zo_D o) := by
  intro v1 v2 σ o  h
  unfold F_M_meanRank_59 at h
  refine zt_aload_n zy_274 (show q_ins q_k274 59 = some (.aload_n 0, 0, 0) from rfl) (v := 163) rfl ?_
  refine zt_aload_n zy_274 (show q_ins q_k274 60 = some (.aload_n 0, 0, 0) from rfl) (v := 163) rfl ?_
  refine zt_getR zy_274 (show q_ins q_k274 61 = some (.getfield 13, 11, 1) from rfl) (r := 164) zk_163_1 ?_
  refine zt_iload_n zy_274 (show q_ins q_k274 64 = some (.iload_n 1, 0, 0) from rfl) (v := Int32.ofInt v1) rfl ?_
  obtain ⟨a12, s13, hca12, h⟩ := zt_bdE h
  refine zt_callV (d := 1) zy_274 (show q_ins q_k274 65 = some (.invokevirtual 178, 199, 2) from rfl) zy_199 (by decide) ⟨zq_lt (by decide), by decide⟩ rfl (by simp [Value.category]) (by simp [lg_sl, Value.category]) (zt_rcv zc_163) (zt_dm (by decide) (S_M_heldBy za_164 (by decide) hca12)) ?_
  obtain ⟨hg, h⟩ := zt_ckE h
  refine zt_if_ne zy_274 (show q_ins q_k274 68 = some (.ifCond .ne 7, 75, 0) from rfl) (hg) (fun hc => ?_) (fun hc => ?_)
  · rw [if_pos hc] at h
    refine zt_dconst0 zy_274 (show q_ins q_k274 71 = some (.dconst 0, 0, 0) from rfl) ?_
    refine zt_goto zy_274 (show q_ins q_k274 72 = some (.goto 16, 88, 0) from rfl) ?_
    exact zt_wk (zt_cov_nil) (S_M_meanRank_88  _ _ _ h)
  · rw [if_neg hc] at h
    refine zt_iload_n zy_274 (show q_ins q_k274 75 = some (.iload_n 2, 0, 0) from rfl) (v := Int32.ofInt v2) rfl ?_
    refine zt_i2d zy_274 (show q_ins q_k274 76 = some (.i2d, 0, 0) from rfl) ?_
    refine zt_aload_n zy_274 (show q_ins q_k274 77 = some (.aload_n 0, 0, 0) from rfl) (v := 163) rfl ?_
    refine zt_aload_n zy_274 (show q_ins q_k274 78 = some (.aload_n 0, 0, 0) from rfl) (v := 163) rfl ?_
    refine zt_getR zy_274 (show q_ins q_k274 79 = some (.getfield 13, 11, 1) from rfl) (r := 164) zk_163_1 ?_
    refine zt_iload_n zy_274 (show q_ins q_k274 82 = some (.iload_n 1, 0, 0) from rfl) (v := Int32.ofInt v1) rfl ?_
    obtain ⟨a14, s15, hca14, h⟩ := zt_bdE h
    refine zt_callV (d := 1) zy_274 (show q_ins q_k274 83 = some (.invokevirtual 178, 199, 2) from rfl) zy_199 (by decide) ⟨zq_lt (by decide), by decide⟩ rfl (by simp [Value.category]) (by simp [lg_sl, Value.category]) (zt_rcv zc_163) (zt_dm (by decide) (S_M_heldBy za_164 (by decide) hca14)) ?_
    refine zt_i2d zy_274 (show q_ins q_k274 86 = some (.i2d, 0, 0) from rfl) ?_
    obtain ⟨hg, h⟩ := zt_ckE h
    refine zt_ddiv zy_274 (show q_ins q_k274 87 = some (.ddiv, 0, 0) from rfl) hg ?_
    exact zt_wk (zt_cov_nil) (S_M_meanRank_88  _ _ _ h)
theorem S_M_meanRank_24 {X : q_X}   : ∀ (n : Nat) (v1 : Int) (v2 : Int) (v3 : Int) (σ : zt_S) (o : (UInt64 × zt_S)), F_M_meanRank_24  n v1 v2 v3 σ = some o → zt_Ex X 2 274 24 [(0, .ref 163), (1, .int (Int32.ofInt v1)), (2, .int (Int32.ofInt v2)), (3, .int (Int32.ofInt v3))] [] (zt_M σ) (zo_D o) := by
  intro n
  induction n with
  | zero => intro v1 v2 v3 σ o  h; cases h
  | succ n ih =>
  intro v1 v2 v3 σ o  h
  rw [F_M_meanRank_24] at h
  refine zt_iload_n zy_274 (show q_ins q_k274 24 = some (.iload_n 3, 0, 0) from rfl) (v := Int32.ofInt v3) rfl ?_
  refine zt_aload_n zy_274 (show q_ins q_k274 25 = some (.aload_n 0, 0, 0) from rfl) (v := 163) rfl ?_
  obtain ⟨a6, s7, hca6, h⟩ := zt_bdE h
  refine zt_callV (d := 1) zy_274 (show q_ins q_k274 26 = some (.invokevirtual 244, 207, 0) from rfl) zy_207 (by decide) ⟨zq_lt (by decide), by decide⟩ rfl (by simp [Value.category]) (by simp [lg_sl, Value.category]) (zt_rcv zc_163) (zt_dm (by decide) (S_M_cards hca6)) ?_
  obtain ⟨hg, h⟩ := zt_ckE h
  refine zt_icmp_ge zy_274 (show q_ins q_k274 29 = some (.if_icmp .ge 30, 59, 0) from rfl) (⟨hg.1, hg.2⟩) (fun hc => ?_) (fun hc => ?_)
  · rw [if_pos hc] at h
    refine zt_iload_n zy_274 (show q_ins q_k274 32 = some (.iload_n 2, 0, 0) from rfl) (v := Int32.ofInt v2) rfl ?_
    refine zt_aload_n zy_274 (show q_ins q_k274 33 = some (.aload_n 0, 0, 0) from rfl) (v := 163) rfl ?_
    refine zt_iload_n zy_274 (show q_ins q_k274 34 = some (.iload_n 3, 0, 0) from rfl) (v := Int32.ofInt v3) rfl ?_
    obtain ⟨a8, s9, hca8, h⟩ := zt_bdE h
    refine zt_callV (d := 1) zy_274 (show q_ins q_k274 35 = some (.invokevirtual 275, 220, 1) from rfl) zy_220 (by decide) ⟨zq_lt (by decide), by decide⟩ rfl (by simp [Value.category]) (by simp [lg_sl, Value.category]) (zt_rcv zc_163) (zt_dm (by decide) (S_M_holderOf hca8)) ?_
    refine zt_iload_n zy_274 (show q_ins q_k274 38 = some (.iload_n 1, 0, 0) from rfl) (v := Int32.ofInt v1) rfl ?_
    obtain ⟨hg, h⟩ := zt_ckE h
    refine zt_icmp_ne zy_274 (show q_ins q_k274 39 = some (.if_icmp .ne 11, 50, 0) from rfl) (⟨hg.1, hg.2⟩) (fun hc => ?_) (fun hc => ?_)
    · rw [if_pos hc] at h
      refine zt_aload_n zy_274 (show q_ins q_k274 42 = some (.aload_n 0, 0, 0) from rfl) (v := 163) rfl ?_
      refine zt_iload_n zy_274 (show q_ins q_k274 43 = some (.iload_n 3, 0, 0) from rfl) (v := Int32.ofInt v3) rfl ?_
      obtain ⟨a10, s11, hca10, h⟩ := zt_bdE h
      refine zt_callV (d := 1) zy_274 (show q_ins q_k274 44 = some (.invokevirtual 260, 210, 1) from rfl) zy_210 (by decide) ⟨zq_lt (by decide), by decide⟩ rfl (by simp [Value.category]) (by simp [lg_sl, Value.category]) (zt_rcv zc_163) (zt_dm (by decide) (S_M_rankOf hca10)) ?_
      refine zt_goto zy_274 (show q_ins q_k274 47 = some (.goto 4, 51, 0) from rfl) ?_
      exact zt_wk (zt_cov_cons rfl (zt_cov_cons rfl (zt_cov_cons rfl (zt_cov_nil)))) (S_M_meanRank_51  ih _ _ _ _ _ _ h)
    · rw [if_neg hc] at h
      refine zt_iconst zy_274 (show q_ins q_k274 50 = some (.iconst 0, 0, 0) from rfl) ?_
      exact zt_wk (zt_cov_cons rfl (zt_cov_cons rfl (zt_cov_cons rfl (zt_cov_nil)))) (S_M_meanRank_51  ih _ _ _ _ _ _ h)
  · rw [if_neg hc] at h
    exact zt_wk (zt_cov_cons rfl (zt_cov_cons rfl (zt_cov_cons rfl (zt_cov_nil)))) (S_M_meanRank_59  _ _ _ _ h)
theorem S_M_meanRank {X : q_X}   {v1 : Int} {σ : zt_S} {o : (UInt64 × zt_S)} (h : F_M_meanRank  v1 σ = some o) : zt_Ex X 2 274 0 (lv_args 0 [.ref 163, .int (Int32.ofInt v1)]) [] (zt_M σ) (zo_D o) := by
  unfold F_M_meanRank at h
  refine zt_aload_n zy_274 (show q_ins q_k274 0 = some (.aload_n 0, 0, 0) from rfl) (v := 163) rfl ?_
  refine zt_iconst zy_274 (show q_ins q_k274 1 = some (.iconst 0, 0, 0) from rfl) ?_
  obtain ⟨s1, hs1, h⟩ := zt_letE h
  refine zt_putI zy_274 (show q_ins q_k274 2 = some (.putfield 1, 11, 0) from rfl) (j := 0) zk_163_0 rfl rfl rfl ?_
  rw [← hs1]
  refine zt_aload_n zy_274 (show q_ins q_k274 5 = some (.aload_n 0, 0, 0) from rfl) (v := 163) rfl ?_
  refine zt_aload_n zy_274 (show q_ins q_k274 6 = some (.aload_n 0, 0, 0) from rfl) (v := 163) rfl ?_
  refine zt_iload_n zy_274 (show q_ins q_k274 7 = some (.iload_n 1, 0, 0) from rfl) (v := Int32.ofInt v1) rfl ?_
  obtain ⟨a2, s3, hca2, h⟩ := zt_bdE h
  refine zt_callV (d := 1) zy_274 (show q_ins q_k274 8 = some (.invokevirtual 319, 236, 1) from rfl) zy_236 (by decide) ⟨zq_lt (by decide), by decide⟩ rfl (by simp [Value.category]) (by simp [lg_sl, Value.category]) (zt_rcv zc_163) (zt_dm (by decide) (S_M_isPlayer hca2)) ?_
  refine zt_iconst zy_274 (show q_ins q_k274 11 = some (.iconst 1, 0, 0) from rfl) ?_
  obtain ⟨a4, s5, hca4, h⟩ := zt_bdE h
  refine zt_callV (d := 1) zy_274 (show q_ins q_k274 12 = some (.invokevirtual 227, 174, 2) from rfl) zy_174 (by decide) ⟨zq_lt (by decide), by decide⟩ rfl (by simp [Value.category]) (by simp [lg_sl, Value.category]) (zt_rcv zc_163) (zt_dm (by decide) (S_M_fails hca4)) ?_
  obtain ⟨hg, h⟩ := zt_ckE h
  refine zt_if_eq zy_274 (show q_ins q_k274 15 = some (.ifCond .eq 5, 20, 0) from rfl) (hg) (fun hc => ?_) (fun hc => ?_)
  · rw [if_pos hc] at h
    refine zt_iconst zy_274 (show q_ins q_k274 20 = some (.iconst 0, 0, 0) from rfl) ?_
    refine zt_istore_n zy_274 (show q_ins q_k274 21 = some (.istore_n 2, 0, 0) from rfl) (by decide) ?_
    refine zt_iconst zy_274 (show q_ins q_k274 22 = some (.iconst 0, 0, 0) from rfl) ?_
    refine zt_istore_n zy_274 (show q_ins q_k274 23 = some (.istore_n 3, 0, 0) from rfl) (by decide) ?_
    exact zt_wk (zt_cov_cons rfl (zt_cov_cons rfl (zt_cov_cons rfl (zt_cov_cons rfl (zt_cov_nil))))) (S_M_meanRank_24  _ _ _ _ _ _ h)
  · rw [if_neg hc] at h
    refine zt_dconst0 zy_274 (show q_ins q_k274 18 = some (.dconst 0, 0, 0) from rfl) ?_
    cases h
    exact zt_dret zy_274 (show q_ins q_k274 19 = some (.dreturn, 0, 0) from rfl)
