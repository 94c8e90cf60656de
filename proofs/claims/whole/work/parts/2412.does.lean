/-! the mini-machine does what the functions say (by program) -/
theorem S_M_formattedByte_31 {X : q_X}   : ∀ (x0 : Int) (σ : zt_S) (o : (Int × zt_S)), F_M_formattedByte_31  x0 σ = some o → zt_Ex X 1 294 31 [] [.int (Int32.ofInt x0)] (zt_M σ) (zo_I o) := by
  intro x0 σ o  h
  unfold F_M_formattedByte_31 at h
  cases h
  exact zt_iret zy_294 (show q_ins q_k294 31 = some (.ireturn, 0, 0) from rfl)
theorem S_M_formattedByte {X : q_X}   {v1 : Int} {σ : zt_S} {o : (Int × zt_S)} (h : F_M_formattedByte  v1 σ = some o) : zt_Ex X 1 294 0 (lv_args 0 [.ref 163, .int (Int32.ofInt v1)]) [] (zt_M σ) (zo_I o) := by
  unfold F_M_formattedByte at h
  refine zt_aload_n zy_294 (show q_ins q_k294 0 = some (.aload_n 0, 0, 0) from rfl) (v := 163) rfl ?_
  refine zt_iconst zy_294 (show q_ins q_k294 1 = some (.iconst 0, 0, 0) from rfl) ?_
  obtain ⟨s1, hs1, h⟩ := zt_letE h
  refine zt_putI zy_294 (show q_ins q_k294 2 = some (.putfield 1, 11, 0) from rfl) (j := 0) zk_163_0 rfl rfl rfl ?_
  rw [← hs1]
  refine zt_iload_n zy_294 (show q_ins q_k294 5 = some (.iload_n 1, 0, 0) from rfl) (v := Int32.ofInt v1) rfl ?_
  refine zt_i2l zy_294 (show q_ins q_k294 6 = some (.i2l, 0, 0) from rfl) ?_
  refine zt_lconst zy_294 (show q_ins q_k294 7 = some (.lconst 0, 0, 0) from rfl) (v := (0 : Int64)) (by decide) ?_
  refine zt_aload_n zy_294 (show q_ins q_k294 8 = some (.aload_n 0, 0, 0) from rfl) (v := 163) rfl ?_
  refine zt_getI zy_294 (show q_ins q_k294 9 = some (.getfield 400, 11, 31) from rfl) (j := 31) zk_163_31 rfl ?_
  refine zt_iconst zy_294 (show q_ins q_k294 12 = some (.iconst 1, 0, 0) from rfl) ?_
  refine zt_isub zy_294 (show q_ins q_k294 13 = some (.isub, 0, 0) from rfl) ?_
  refine zt_i2l zy_294 (show q_ins q_k294 14 = some (.i2l, 0, 0) from rfl) ?_
  obtain ⟨a2, s3, hca2, h⟩ := zt_bdE h
  refine zt_callS (d := 0) zy_294 (show q_ins q_k294 15 = some (.invokestatic 170, 171, 3) from rfl) zy_171 (by decide) ⟨zq_lt (by decide), by decide⟩ rfl (by simp [Value.category]) (by simp [lg_sl, Value.category]) rfl (zt_dm (by decide) (S_M_in hca2)) ?_
  obtain ⟨hg, h⟩ := zt_ckE h
  refine zt_if_eq zy_294 (show q_ins q_k294 18 = some (.ifCond .eq 12, 30, 0) from rfl) (hg) (fun hc => ?_) (fun hc => ?_)
  · rw [if_pos hc] at h
    refine zt_iconst zy_294 (show q_ins q_k294 30 = some (.iconst (-1), 0, 0) from rfl) ?_
    exact zt_wk (zt_cov_nil) (S_M_formattedByte_31  _ _ _ h)
  · rw [if_neg hc] at h
    refine zt_aload_n zy_294 (show q_ins q_k294 21 = some (.aload_n 0, 0, 0) from rfl) (v := 163) rfl ?_
    refine zt_getR zy_294 (show q_ins q_k294 22 = some (.getfield 66, 11, 30) from rfl) (r := 180) zk_163_30 ?_
    refine zt_iload_n zy_294 (show q_ins q_k294 25 = some (.iload_n 1, 0, 0) from rfl) (v := Int32.ofInt v1) rfl ?_
    obtain ⟨hg, h⟩ := zt_ckE h
    refine zt_ald zy_294 (show q_ins q_k294 26 = some (.iaload, 0, 0) from rfl) za_180 (by decide) hg ?_
    refine zt_goto zy_294 (show q_ins q_k294 27 = some (.goto 4, 31, 0) from rfl) ?_
    exact zt_wk (zt_cov_nil) (S_M_formattedByte_31  _ _ _ h)
theorem S_M_adds {X : q_X}   {v1 : Int} {σ : zt_S} {o : (Unit × zt_S)} (h : F_M_adds  v1 σ = some o) : zt_Ex X 0 295 0 (lv_args 0 [.ref 163, .int (Int32.ofInt v1)]) [] (zt_M σ) (zo_V o) := by
  unfold F_M_adds at h
  refine zt_aload_n zy_295 (show q_ins q_k295 0 = some (.aload_n 0, 0, 0) from rfl) (v := 163) rfl ?_
  refine zt_getR zy_295 (show q_ins q_k295 1 = some (.getfield 69, 11, 32) from rfl) (r := 181) zk_163_32 ?_
  refine zt_aload_n zy_295 (show q_ins q_k295 4 = some (.aload_n 0, 0, 0) from rfl) (v := 163) rfl ?_
  refine zt_getI zy_295 (show q_ins q_k295 5 = some (.getfield 406, 11, 35) from rfl) (j := 35) zk_163_35 rfl ?_
  refine zt_iload_n zy_295 (show q_ins q_k295 8 = some (.iload_n 1, 0, 0) from rfl) (v := Int32.ofInt v1) rfl ?_
  obtain ⟨hg, h⟩ := zt_ckE h
  obtain ⟨s1, hs1, h⟩ := zt_letE h
  refine zt_ast zy_295 (show q_ins q_k295 9 = some (.iastore, 0, 0) from rfl) za_181 (by decide) hg ?_
  rw [← hs1]
  refine zt_aload_n zy_295 (show q_ins q_k295 10 = some (.aload_n 0, 0, 0) from rfl) (v := 163) rfl ?_
  refine zt_dup zy_295 (show q_ins q_k295 11 = some (.dup, 0, 0) from rfl) rfl ?_
  refine zt_getI zy_295 (show q_ins q_k295 12 = some (.getfield 406, 11, 35) from rfl) (j := 35) zk_163_35 rfl ?_
  refine zt_iconst zy_295 (show q_ins q_k295 15 = some (.iconst 1, 0, 0) from rfl) ?_
  refine zt_iadd zy_295 (show q_ins q_k295 16 = some (.iadd, 0, 0) from rfl) ?_
  obtain ⟨s2, hs2, h⟩ := zt_letE h
  refine zt_putI zy_295 (show q_ins q_k295 17 = some (.putfield 406, 11, 35) from rfl) (j := 35) zk_163_35 rfl rfl rfl ?_
  rw [← hs2]
  cases h
  exact zt_ret zy_295 (show q_ins q_k295 20 = some (.return_, 0, 0) from rfl)
theorem S_M_propertyHere_101 {X : q_X}   : ∀ (x0 : Int) (σ : zt_S) (o : (Int × zt_S)), F_M_propertyHere_101  x0 σ = some o → zt_Ex X 2 296 101 [] [.int (Int32.ofInt x0)] (zt_M σ) (zo_I o) := by
  intro x0 σ o  h
  unfold F_M_propertyHere_101 at h
  cases h
  exact zt_iret zy_296 (show q_ins q_k296 101 = some (.ireturn, 0, 0) from rfl)
theorem S_M_propertyHere {X : q_X}    {σ : zt_S} {o : (Int × zt_S)} (h : F_M_propertyHere   σ = some o) : zt_Ex X 2 296 0 (lv_args 0 [.ref 163]) [] (zt_M σ) (zo_I o) := by
  unfold F_M_propertyHere at h
  refine zt_aload_n zy_296 (show q_ins q_k296 0 = some (.aload_n 0, 0, 0) from rfl) (v := 163) rfl ?_
  refine zt_ldc2 zy_296 (show q_ins q_k296 1 = some (.ldc2_w 409, 0, 60268) from rfl) (v := (60268 : Int64)) (by decide) ?_
  obtain ⟨a1, s2, hca1, h⟩ := zt_bdE h
  refine zt_callV (d := 1) zy_296 (show q_ins q_k296 4 = some (.invokevirtual 160, 194, 1) from rfl) zy_194 (by decide) ⟨zq_lt (by decide), by decide⟩ rfl (by simp [Value.category]) (by simp [lg_sl, Value.category]) (zt_rcv zc_163) (zt_dm (by decide) (S_M_isWord hca1)) ?_
  obtain ⟨hg, h⟩ := zt_ckE h
  refine zt_if_eq zy_296 (show q_ins q_k296 7 = some (.ifCond .eq 5, 12, 0) from rfl) (hg) (fun hc => ?_) (fun hc => ?_)
  · rw [if_pos hc] at h
    refine zt_aload_n zy_296 (show q_ins q_k296 12 = some (.aload_n 0, 0, 0) from rfl) (v := 163) rfl ?_
    refine zt_ldc2 zy_296 (show q_ins q_k296 13 = some (.ldc2_w 411, 0, 389549) from rfl) (v := (389549 : Int64)) (by decide) ?_
    obtain ⟨a3, s4, hca3, h⟩ := zt_bdE h
    refine zt_callV (d := 1) zy_296 (show q_ins q_k296 16 = some (.invokevirtual 160, 194, 1) from rfl) zy_194 (by decide) ⟨zq_lt (by decide), by decide⟩ rfl (by simp [Value.category]) (by simp [lg_sl, Value.category]) (zt_rcv zc_163) (zt_dm (by decide) (S_M_isWord hca3)) ?_
    obtain ⟨hg, h⟩ := zt_ckE h
    refine zt_if_eq zy_296 (show q_ins q_k296 19 = some (.ifCond .eq 5, 24, 0) from rfl) (hg) (fun hc => ?_) (fun hc => ?_)
    · rw [if_pos hc] at h
      refine zt_aload_n zy_296 (show q_ins q_k296 24 = some (.aload_n 0, 0, 0) from rfl) (v := 163) rfl ?_
      refine zt_ldc2 zy_296 (show q_ins q_k296 25 = some (.ldc2_w 413, 0, 355412) from rfl) (v := (355412 : Int64)) (by decide) ?_
      obtain ⟨a5, s6, hca5, h⟩ := zt_bdE h
      refine zt_callV (d := 1) zy_296 (show q_ins q_k296 28 = some (.invokevirtual 160, 194, 1) from rfl) zy_194 (by decide) ⟨zq_lt (by decide), by decide⟩ rfl (by simp [Value.category]) (by simp [lg_sl, Value.category]) (zt_rcv zc_163) (zt_dm (by decide) (S_M_isWord hca5)) ?_
      obtain ⟨hg, h⟩ := zt_ckE h
      refine zt_if_eq zy_296 (show q_ins q_k296 31 = some (.ifCond .eq 5, 36, 0) from rfl) (hg) (fun hc => ?_) (fun hc => ?_)
      · rw [if_pos hc] at h
        refine zt_aload_n zy_296 (show q_ins q_k296 36 = some (.aload_n 0, 0, 0) from rfl) (v := 163) rfl ?_
        refine zt_ldc2 zy_296 (show q_ins q_k296 37 = some (.ldc2_w 415, 0, 123002136) from rfl) (v := (123002136 : Int64)) (by decide) ?_
        obtain ⟨a7, s8, hca7, h⟩ := zt_bdE h
        refine zt_callV (d := 1) zy_296 (show q_ins q_k296 40 = some (.invokevirtual 160, 194, 1) from rfl) zy_194 (by decide) ⟨zq_lt (by decide), by decide⟩ rfl (by simp [Value.category]) (by simp [lg_sl, Value.category]) (zt_rcv zc_163) (zt_dm (by decide) (S_M_isWord hca7)) ?_
        obtain ⟨hg, h⟩ := zt_ckE h
        refine zt_if_eq zy_296 (show q_ins q_k296 43 = some (.ifCond .eq 5, 48, 0) from rfl) (hg) (fun hc => ?_) (fun hc => ?_)
        · rw [if_pos hc] at h
          refine zt_aload_n zy_296 (show q_ins q_k296 48 = some (.aload_n 0, 0, 0) from rfl) (v := 163) rfl ?_
          refine zt_ldc2 zy_296 (show q_ins q_k296 49 = some (.ldc2_w 417, 0, 235997851) from rfl) (v := (235997851 : Int64)) (by decide) ?_
          obtain ⟨a9, s10, hca9, h⟩ := zt_bdE h
          refine zt_callV (d := 1) zy_296 (show q_ins q_k296 52 = some (.invokevirtual 160, 194, 1) from rfl) zy_194 (by decide) ⟨zq_lt (by decide), by decide⟩ rfl (by simp [Value.category]) (by simp [lg_sl, Value.category]) (zt_rcv zc_163) (zt_dm (by decide) (S_M_isWord hca9)) ?_
          obtain ⟨hg, h⟩ := zt_ckE h
          refine zt_if_eq zy_296 (show q_ins q_k296 55 = some (.ifCond .eq 5, 60, 0) from rfl) (hg) (fun hc => ?_) (fun hc => ?_)
          · rw [if_pos hc] at h
            refine zt_aload_n zy_296 (show q_ins q_k296 60 = some (.aload_n 0, 0, 0) from rfl) (v := 163) rfl ?_
            refine zt_ldc2 zy_296 (show q_ins q_k296 61 = some (.ldc2_w 419, 0, 8815221) from rfl) (v := (8815221 : Int64)) (by decide) ?_
            obtain ⟨a11, s12, hca11, h⟩ := zt_bdE h
            refine zt_callV (d := 1) zy_296 (show q_ins q_k296 64 = some (.invokevirtual 160, 194, 1) from rfl) zy_194 (by decide) ⟨zq_lt (by decide), by decide⟩ rfl (by simp [Value.category]) (by simp [lg_sl, Value.category]) (zt_rcv zc_163) (zt_dm (by decide) (S_M_isWord hca11)) ?_
            obtain ⟨hg, h⟩ := zt_ckE h
            refine zt_if_eq zy_296 (show q_ins q_k296 67 = some (.ifCond .eq 5, 72, 0) from rfl) (hg) (fun hc => ?_) (fun hc => ?_)
            · rw [if_pos hc] at h
              refine zt_aload_n zy_296 (show q_ins q_k296 72 = some (.aload_n 0, 0, 0) from rfl) (v := 163) rfl ?_
              refine zt_ldc2 zy_296 (show q_ins q_k296 73 = some (.ldc2_w 421, 0, 6480849) from rfl) (v := (6480849 : Int64)) (by decide) ?_
              obtain ⟨a13, s14, hca13, h⟩ := zt_bdE h
              refine zt_callV (d := 1) zy_296 (show q_ins q_k296 76 = some (.invokevirtual 160, 194, 1) from rfl) zy_194 (by decide) ⟨zq_lt (by decide), by decide⟩ rfl (by simp [Value.category]) (by simp [lg_sl, Value.category]) (zt_rcv zc_163) (zt_dm (by decide) (S_M_isWord hca13)) ?_
              obtain ⟨hg, h⟩ := zt_ckE h
              refine zt_if_eq zy_296 (show q_ins q_k296 79 = some (.ifCond .eq 6, 85, 0) from rfl) (hg) (fun hc => ?_) (fun hc => ?_)
              · rw [if_pos hc] at h
                refine zt_aload_n zy_296 (show q_ins q_k296 85 = some (.aload_n 0, 0, 0) from rfl) (v := 163) rfl ?_
                refine zt_ldc2 zy_296 (show q_ins q_k296 86 = some (.ldc2_w 198, 0, 10998790) from rfl) (v := (10998790 : Int64)) (by decide) ?_
                obtain ⟨a15, s16, hca15, h⟩ := zt_bdE h
                refine zt_callV (d := 1) zy_296 (show q_ins q_k296 89 = some (.invokevirtual 160, 194, 1) from rfl) zy_194 (by decide) ⟨zq_lt (by decide), by decide⟩ rfl (by simp [Value.category]) (by simp [lg_sl, Value.category]) (zt_rcv zc_163) (zt_dm (by decide) (S_M_isWord hca15)) ?_
                obtain ⟨hg, h⟩ := zt_ckE h
                refine zt_if_eq zy_296 (show q_ins q_k296 92 = some (.ifCond .eq 8, 100, 0) from rfl) (hg) (fun hc => ?_) (fun hc => ?_)
                · rw [if_pos hc] at h
                  refine zt_iconst zy_296 (show q_ins q_k296 100 = some (.iconst (-1), 0, 0) from rfl) ?_
                  exact zt_wk (zt_cov_nil) (S_M_propertyHere_101  _ _ _ h)
                · rw [if_neg hc] at h
                  refine zt_bipush zy_296 (show q_ins q_k296 95 = some (.bipush 7, 0, 0) from rfl) (by decide) ?_
                  refine zt_goto zy_296 (show q_ins q_k296 97 = some (.goto 4, 101, 0) from rfl) ?_
                  exact zt_wk (zt_cov_nil) (S_M_propertyHere_101  _ _ _ h)
              · rw [if_neg hc] at h
                refine zt_bipush zy_296 (show q_ins q_k296 82 = some (.bipush 6, 0, 0) from rfl) (by decide) ?_
                cases h
                exact zt_iret zy_296 (show q_ins q_k296 84 = some (.ireturn, 0, 0) from rfl)
            · rw [if_neg hc] at h
              refine zt_iconst zy_296 (show q_ins q_k296 70 = some (.iconst 5, 0, 0) from rfl) ?_
              cases h
              exact zt_iret zy_296 (show q_ins q_k296 71 = some (.ireturn, 0, 0) from rfl)
          · rw [if_neg hc] at h
            refine zt_iconst zy_296 (show q_ins q_k296 58 = some (.iconst 4, 0, 0) from rfl) ?_
            cases h
            exact zt_iret zy_296 (show q_ins q_k296 59 = some (.ireturn, 0, 0) from rfl)
        · rw [if_neg hc] at h
          refine zt_iconst zy_296 (show q_ins q_k296 46 = some (.iconst 3, 0, 0) from rfl) ?_
          cases h
          exact zt_iret zy_296 (show q_ins q_k296 47 = some (.ireturn, 0, 0) from rfl)
      · rw [if_neg hc] at h
        refine zt_iconst zy_296 (show q_ins q_k296 34 = some (.iconst 2, 0, 0) from rfl) ?_
        cases h
        exact zt_iret zy_296 (show q_ins q_k296 35 = some (.ireturn, 0, 0) from rfl)
    · rw [if_neg hc] at h
      refine zt_iconst zy_296 (show q_ins q_k296 22 = some (.iconst 1, 0, 0) from rfl) ?_
      cases h
      exact zt_iret zy_296 (show q_ins q_k296 23 = some (.ireturn, 0, 0) from rfl)
  · rw [if_neg hc] at h
    refine zt_iconst zy_296 (show q_ins q_k296 10 = some (.iconst 0, 0, 0) from rfl) ?_
    cases h
    exact zt_iret zy_296 (show q_ins q_k296 11 = some (.ireturn, 0, 0) from rfl)
theorem S_M_valueRead {X : q_X}    {σ : zt_S} {o : (Unit × zt_S)} (h : F_M_valueRead   σ = some o) : zt_Ex X 4 297 0 (lv_args 0 [.ref 163]) [] (zt_M σ) (zo_V o) := by
  unfold F_M_valueRead at h
  refine zt_aload_n zy_297 (show q_ins q_k297 0 = some (.aload_n 0, 0, 0) from rfl) (v := 163) rfl ?_
  obtain ⟨a1, s2, hca1, h⟩ := zt_bdE h
  refine zt_callV (d := 3) zy_297 (show q_ins q_k297 1 = some (.invokevirtual 156, 193, 0) from rfl) zy_193 (by decide) ⟨zq_lt (by decide), by decide⟩ rfl (by simp [Value.category]) (by simp [lg_sl, Value.category]) (zt_rcv zc_163) (zt_dm (by decide) (S_M_isGood hca1)) ?_
  obtain ⟨hg, h⟩ := zt_ckE h
  refine zt_if_ne zy_297 (show q_ins q_k297 4 = some (.ifCond .ne 4, 8, 0) from rfl) (hg) (fun hc => ?_) (fun hc => ?_)
  · rw [if_pos hc] at h
    cases h
    exact zt_ret zy_297 (show q_ins q_k297 7 = some (.return_, 0, 0) from rfl)
  · rw [if_neg hc] at h
    refine zt_aload_n zy_297 (show q_ins q_k297 8 = some (.aload_n 0, 0, 0) from rfl) (v := 163) rfl ?_
    refine zt_getI zy_297 (show q_ins q_k297 9 = some (.getfield 134, 11, 13) from rfl) (j := 13) zk_163_13 rfl ?_
    refine zt_iconst zy_297 (show q_ins q_k297 12 = some (.iconst 2, 0, 0) from rfl) ?_
    obtain ⟨hg, h⟩ := zt_ckE h
    refine zt_icmp_ne zy_297 (show q_ins q_k297 13 = some (.if_icmp .ne 21, 34, 0) from rfl) (⟨hg, by decide⟩) (fun hc => ?_) (fun hc => ?_)
    · rw [if_pos hc] at h
      refine zt_aload_n zy_297 (show q_ins q_k297 16 = some (.aload_n 0, 0, 0) from rfl) (v := 163) rfl ?_
      refine zt_iconst zy_297 (show q_ins q_k297 17 = some (.iconst 0, 0, 0) from rfl) ?_
      refine zt_sipush zy_297 (show q_ins q_k297 18 = some (.sipush 9999, 0, 0) from rfl) (by decide) ?_
      obtain ⟨a3, s4, hca3, h⟩ := zt_bdE h
      refine zt_callV (d := 3) zy_297 (show q_ins q_k297 21 = some (.invokevirtual 174, 198, 2) from rfl) zy_198 (by decide) ⟨zq_lt (by decide), by decide⟩ rfl (by simp [Value.category]) (by simp [lg_sl, Value.category]) (zt_rcv zc_163) (zt_dm (by decide) (S_M_number hca3)) ?_
      refine zt_istore_n zy_297 (show q_ins q_k297 24 = some (.istore_n 1, 0, 0) from rfl) (by decide) ?_
      refine zt_aload_n zy_297 (show q_ins q_k297 25 = some (.aload_n 0, 0, 0) from rfl) (v := 163) rfl ?_
      refine zt_bipush zy_297 (show q_ins q_k297 26 = some (.bipush 100, 0, 0) from rfl) (by decide) ?_
      refine zt_iload_n zy_297 (show q_ins q_k297 28 = some (.iload_n 1, 0, 0) from rfl) (v := Int32.ofInt a3) rfl ?_
      refine zt_iadd zy_297 (show q_ins q_k297 29 = some (.iadd, 0, 0) from rfl) ?_
      obtain ⟨a5, s6, hca5, h⟩ := zt_bdE h
      refine zt_callV (d := 3) zy_297 (show q_ins q_k297 30 = some (.invokevirtual 423, 295, 1) from rfl) zy_295 (by decide) ⟨zq_lt (by decide), by decide⟩ rfl (by simp [Value.category]) (by simp [lg_sl, Value.category]) (zt_rcv zc_163) (zt_dm (by decide) (S_M_adds hca5)) ?_
      cases h
      exact zt_ret zy_297 (show q_ins q_k297 33 = some (.return_, 0, 0) from rfl)
    · rw [if_neg hc] at h
      refine zt_aload_n zy_297 (show q_ins q_k297 34 = some (.aload_n 0, 0, 0) from rfl) (v := 163) rfl ?_
      obtain ⟨a7, s8, hca7, h⟩ := zt_bdE h
      refine zt_callV (d := 3) zy_297 (show q_ins q_k297 35 = some (.invokevirtual 426, 296, 0) from rfl) zy_296 (by decide) ⟨zq_lt (by decide), by decide⟩ rfl (by simp [Value.category]) (by simp [lg_sl, Value.category]) (zt_rcv zc_163) (zt_dm (by decide) (S_M_propertyHere hca7)) ?_
      refine zt_istore_n zy_297 (show q_ins q_k297 38 = some (.istore_n 1, 0, 0) from rfl) (by decide) ?_
      refine zt_iload_n zy_297 (show q_ins q_k297 39 = some (.iload_n 1, 0, 0) from rfl) (v := Int32.ofInt a7) rfl ?_
      refine zt_iconst zy_297 (show q_ins q_k297 40 = some (.iconst (-1), 0, 0) from rfl) ?_
      obtain ⟨hg, h⟩ := zt_ckE h
      refine zt_icmp_ne zy_297 (show q_ins q_k297 41 = some (.if_icmp .ne 10, 51, 0) from rfl) (⟨hg, by decide⟩) (fun hc => ?_) (fun hc => ?_)
      · rw [if_pos hc] at h
        refine zt_aload_n zy_297 (show q_ins q_k297 44 = some (.aload_n 0, 0, 0) from rfl) (v := 163) rfl ?_
        refine zt_iconst zy_297 (show q_ins q_k297 45 = some (.iconst 1, 0, 0) from rfl) ?_
        obtain ⟨a9, s10, hca9, h⟩ := zt_bdE h
        refine zt_callV (d := 3) zy_297 (show q_ins q_k297 46 = some (.invokevirtual 167, 192, 1) from rfl) zy_192 (by decide) ⟨zq_lt (by decide), by decide⟩ rfl (by simp [Value.category]) (by simp [lg_sl, Value.category]) (zt_rcv zc_163) (zt_dm (by decide) (S_M_wrongs hca9)) ?_
        refine zt_pop zy_297 (show q_ins q_k297 49 = some (.pop, 0, 0) from rfl) rfl ?_
        cases h
        exact zt_ret zy_297 (show q_ins q_k297 50 = some (.return_, 0, 0) from rfl)
      · rw [if_neg hc] at h
        refine zt_aload_n zy_297 (show q_ins q_k297 51 = some (.aload_n 0, 0, 0) from rfl) (v := 163) rfl ?_
        refine zt_iload_n zy_297 (show q_ins q_k297 52 = some (.iload_n 1, 0, 0) from rfl) (v := Int32.ofInt a7) rfl ?_
        obtain ⟨a11, s12, hca11, h⟩ := zt_bdE h
        refine zt_callV (d := 3) zy_297 (show q_ins q_k297 53 = some (.invokevirtual 423, 295, 1) from rfl) zy_295 (by decide) ⟨zq_lt (by decide), by decide⟩ rfl (by simp [Value.category]) (by simp [lg_sl, Value.category]) (zt_rcv zc_163) (zt_dm (by decide) (S_M_adds hca11)) ?_
        refine zt_aload_n zy_297 (show q_ins q_k297 56 = some (.aload_n 0, 0, 0) from rfl) (v := 163) rfl ?_
        obtain ⟨a13, s14, hca13, h⟩ := zt_bdE h
        refine zt_callV (d := 3) zy_297 (show q_ins q_k297 57 = some (.invokevirtual 153, 190, 0) from rfl) zy_190 (by decide) ⟨zq_lt (by decide), by decide⟩ rfl (by simp [Value.category]) (by simp [lg_sl, Value.category]) (zt_rcv zc_163) (zt_dm (by decide) (S_M_next hca13)) ?_
        cases h
        exact zt_ret zy_297 (show q_ins q_k297 60 = some (.return_, 0, 0) from rfl)
theorem S_M_goesIn {X : q_X}   {v1 : Int} {σ : zt_S} {o : (Int × zt_S)} (h : F_M_goesIn  v1 σ = some o) : zt_Ex X 3 298 0 (lv_args 0 [.ref 163, .int (Int32.ofInt v1)]) [] (zt_M σ) (zo_I o) := by
  unfold F_M_goesIn at h
  refine zt_aload_n zy_298 (show q_ins q_k298 0 = some (.aload_n 0, 0, 0) from rfl) (v := 163) rfl ?_
  refine zt_getI zy_298 (show q_ins q_k298 1 = some (.getfield 429, 11, 37) from rfl) (j := 37) zk_163_37 rfl ?_
  refine zt_bipush zy_298 (show q_ins q_k298 4 = some (.bipush 6, 0, 0) from rfl) (by decide) ?_
  obtain ⟨hg, h⟩ := zt_ckE h
  refine zt_icmp_ne zy_298 (show q_ins q_k298 6 = some (.if_icmp .ne 9, 15, 0) from rfl) (⟨hg, by decide⟩) (fun hc => ?_) (fun hc => ?_)
  · rw [if_pos hc] at h
    refine zt_aload_n zy_298 (show q_ins q_k298 9 = some (.aload_n 0, 0, 0) from rfl) (v := 163) rfl ?_
    refine zt_iconst zy_298 (show q_ins q_k298 10 = some (.iconst 3, 0, 0) from rfl) ?_
    obtain ⟨a1, s2, hca1, h⟩ := zt_bdE h
    refine zt_callV (d := 2) zy_298 (show q_ins q_k298 11 = some (.invokevirtual 167, 192, 1) from rfl) zy_192 (by decide) ⟨zq_lt (by decide), by decide⟩ rfl (by simp [Value.category]) (by simp [lg_sl, Value.category]) (zt_rcv zc_163) (zt_dm (by decide) (S_M_wrongs hca1)) ?_
    obtain ⟨hg, h⟩ := zt_ckE h
    cases h
    exact zt_zret zy_298 (show q_ins q_k298 14 = some (.ireturn, 0, 0) from rfl) hg
  · rw [if_neg hc] at h
    refine zt_aload_n zy_298 (show q_ins q_k298 15 = some (.aload_n 0, 0, 0) from rfl) (v := 163) rfl ?_
    refine zt_dup zy_298 (show q_ins q_k298 16 = some (.dup, 0, 0) from rfl) rfl ?_
    refine zt_getI zy_298 (show q_ins q_k298 17 = some (.getfield 429, 11, 37) from rfl) (j := 37) zk_163_37 rfl ?_
    refine zt_iconst zy_298 (show q_ins q_k298 20 = some (.iconst 1, 0, 0) from rfl) ?_
    refine zt_iadd zy_298 (show q_ins q_k298 21 = some (.iadd, 0, 0) from rfl) ?_
    obtain ⟨s3, hs3, h⟩ := zt_letE h
    refine zt_putI zy_298 (show q_ins q_k298 22 = some (.putfield 429, 11, 37) from rfl) (j := 37) zk_163_37 rfl rfl rfl ?_
    rw [← hs3]
    refine zt_aload_n zy_298 (show q_ins q_k298 25 = some (.aload_n 0, 0, 0) from rfl) (v := 163) rfl ?_
    refine zt_getR zy_298 (show q_ins q_k298 26 = some (.getfield 72, 11, 33) from rfl) (r := 182) zk_163_33 ?_
    refine zt_aload_n zy_298 (show q_ins q_k298 29 = some (.aload_n 0, 0, 0) from rfl) (v := 163) rfl ?_
    refine zt_getI zy_298 (show q_ins q_k298 30 = some (.getfield 432, 11, 36) from rfl) (j := 36) zk_163_36 rfl ?_
    refine zt_iload_n zy_298 (show q_ins q_k298 33 = some (.iload_n 1, 0, 0) from rfl) (v := Int32.ofInt v1) rfl ?_
    obtain ⟨hg, h⟩ := zt_ckE h
    obtain ⟨s4, hs4, h⟩ := zt_letE h
    refine zt_ast zy_298 (show q_ins q_k298 34 = some (.iastore, 0, 0) from rfl) za_182 (by decide) hg ?_
    rw [← hs4]
    refine zt_aload_n zy_298 (show q_ins q_k298 35 = some (.aload_n 0, 0, 0) from rfl) (v := 163) rfl ?_
    refine zt_dup zy_298 (show q_ins q_k298 36 = some (.dup, 0, 0) from rfl) rfl ?_
    refine zt_getI zy_298 (show q_ins q_k298 37 = some (.getfield 432, 11, 36) from rfl) (j := 36) zk_163_36 rfl ?_
    refine zt_iconst zy_298 (show q_ins q_k298 40 = some (.iconst 1, 0, 0) from rfl) ?_
    refine zt_iadd zy_298 (show q_ins q_k298 41 = some (.iadd, 0, 0) from rfl) ?_
    obtain ⟨s5, hs5, h⟩ := zt_letE h
    refine zt_putI zy_298 (show q_ins q_k298 42 = some (.putfield 432, 11, 36) from rfl) (j := 36) zk_163_36 rfl rfl rfl ?_
    rw [← hs5]
    refine zt_aload_n zy_298 (show q_ins q_k298 45 = some (.aload_n 0, 0, 0) from rfl) (v := 163) rfl ?_
    obtain ⟨a6, s7, hca6, h⟩ := zt_bdE h
    refine zt_callV (d := 2) zy_298 (show q_ins q_k298 46 = some (.invokevirtual 153, 190, 0) from rfl) zy_190 (by decide) ⟨zq_lt (by decide), by decide⟩ rfl (by simp [Value.category]) (by simp [lg_sl, Value.category]) (zt_rcv zc_163) (zt_dm (by decide) (S_M_next hca6)) ?_
    refine zt_iconst zy_298 (show q_ins q_k298 49 = some (.iconst 1, 0, 0) from rfl) ?_
    cases h
    exact zt_zret zy_298 (show q_ins q_k298 50 = some (.ireturn, 0, 0) from rfl) (by decide)
theorem S_M_strength_31 {X : q_X}   : ∀ (x0 : Int) (σ : zt_S) (o : (Int × zt_S)), F_M_strength_31  x0 σ = some o → zt_Ex X 0 299 31 [] [.int (Int32.ofInt x0)] (zt_M σ) (zo_I o) := by
  intro x0 σ o  h
  unfold F_M_strength_31 at h
  cases h
  exact zt_iret zy_299 (show q_ins q_k299 31 = some (.ireturn, 0, 0) from rfl)
theorem S_M_strength {X : q_X}   {v0 : Int} {σ : zt_S} {o : (Int × zt_S)} (h : F_M_strength  v0 σ = some o) : zt_Ex X 0 299 0 (lv_args 0 [.int (Int32.ofInt v0)]) [] (zt_M σ) (zo_I o) := by
  unfold F_M_strength at h
  refine zt_iload_n zy_299 (show q_ins q_k299 0 = some (.iload_n 0, 0, 0) from rfl) (v := Int32.ofInt v0) rfl ?_
  refine zt_bipush zy_299 (show q_ins q_k299 1 = some (.bipush 25, 0, 0) from rfl) (by decide) ?_
  obtain ⟨hg, h⟩ := zt_ckE h
  refine zt_icmp_ne zy_299 (show q_ins q_k299 3 = some (.if_icmp .ne 7, 10, 0) from rfl) (⟨hg, by decide⟩) (fun hc => ?_) (fun hc => ?_)
  · rw [if_pos hc] at h
    refine zt_iconst zy_299 (show q_ins q_k299 6 = some (.iconst 1, 0, 0) from rfl) ?_
    refine zt_goto zy_299 (show q_ins q_k299 7 = some (.goto 24, 31, 0) from rfl) ?_
    exact zt_wk (zt_cov_nil) (S_M_strength_31  _ _ _ h)
  · rw [if_neg hc] at h
    refine zt_iload_n zy_299 (show q_ins q_k299 10 = some (.iload_n 0, 0, 0) from rfl) (v := Int32.ofInt v0) rfl ?_
    refine zt_bipush zy_299 (show q_ins q_k299 11 = some (.bipush 24, 0, 0) from rfl) (by decide) ?_
    obtain ⟨hg, h⟩ := zt_ckE h
    refine zt_icmp_ne zy_299 (show q_ins q_k299 13 = some (.if_icmp .ne 7, 20, 0) from rfl) (⟨hg, by decide⟩) (fun hc => ?_) (fun hc => ?_)
    · rw [if_pos hc] at h
      refine zt_iconst zy_299 (show q_ins q_k299 16 = some (.iconst 2, 0, 0) from rfl) ?_
      refine zt_goto zy_299 (show q_ins q_k299 17 = some (.goto 14, 31, 0) from rfl) ?_
      exact zt_wk (zt_cov_nil) (S_M_strength_31  _ _ _ h)
    · rw [if_neg hc] at h
      refine zt_iload_n zy_299 (show q_ins q_k299 20 = some (.iload_n 0, 0, 0) from rfl) (v := Int32.ofInt v0) rfl ?_
      refine zt_bipush zy_299 (show q_ins q_k299 21 = some (.bipush 23, 0, 0) from rfl) (by decide) ?_
      obtain ⟨hg, h⟩ := zt_ckE h
      refine zt_icmp_ne zy_299 (show q_ins q_k299 23 = some (.if_icmp .ne 7, 30, 0) from rfl) (⟨hg, by decide⟩) (fun hc => ?_) (fun hc => ?_)
      · rw [if_pos hc] at h
        refine zt_iconst zy_299 (show q_ins q_k299 26 = some (.iconst 3, 0, 0) from rfl) ?_
        refine zt_goto zy_299 (show q_ins q_k299 27 = some (.goto 4, 31, 0) from rfl) ?_
        exact zt_wk (zt_cov_nil) (S_M_strength_31  _ _ _ h)
      · rw [if_neg hc] at h
        refine zt_iconst zy_299 (show q_ins q_k299 30 = some (.iconst 0, 0, 0) from rfl) ?_
        exact zt_wk (zt_cov_nil) (S_M_strength_31  _ _ _ h)
theorem S_M_settles_82 {X : q_X}   : ∀  (σ : zt_S) (o : (Unit × zt_S)), F_M_settles_82   σ = some o → zt_Ex X 1 300 82 [] [] (zt_M σ) (zo_V o) := by
  intro  σ o  h
  unfold F_M_settles_82 at h
  cases h
  exact zt_ret zy_300 (show q_ins q_k300 82 = some (.return_, 0, 0) from rfl)
theorem S_M_settles_0 {X : q_X}   : ∀ (n : Nat) (v1 : Int) (σ : zt_S) (o : (Unit × zt_S)), F_M_settles_0  n v1 σ = some o → zt_Ex X 1 300 0 [(0, .ref 163), (1, .int (Int32.ofInt v1))] [] (zt_M σ) (zo_V o) := by
  intro n
  induction n with
  | zero => intro v1 σ o  h; cases h
  | succ n ih =>
  intro v1 σ o  h
  rw [F_M_settles_0] at h
  refine zt_aload_n zy_300 (show q_ins q_k300 0 = some (.aload_n 0, 0, 0) from rfl) (v := 163) rfl ?_
  obtain ⟨a1, s2, hca1, h⟩ := zt_bdE h
  refine zt_callV (d := 0) zy_300 (show q_ins q_k300 1 = some (.invokevirtual 156, 193, 0) from rfl) zy_193 (by decide) ⟨zq_lt (by decide), by decide⟩ rfl (by simp [Value.category]) (by simp [lg_sl, Value.category]) (zt_rcv zc_163) (zt_dm (by decide) (S_M_isGood hca1)) ?_
  obtain ⟨hg, h⟩ := zt_ckE h
  refine zt_if_eq zy_300 (show q_ins q_k300 4 = some (.ifCond .eq 78, 82, 0) from rfl) (hg) (fun hc => ?_) (fun hc => ?_)
  · rw [if_pos hc] at h
    exact zt_wk (zt_cov_nil) (S_M_settles_82  _ _ h)
  · rw [if_neg hc] at h
    refine zt_aload_n zy_300 (show q_ins q_k300 7 = some (.aload_n 0, 0, 0) from rfl) (v := 163) rfl ?_
    refine zt_getI zy_300 (show q_ins q_k300 8 = some (.getfield 432, 11, 36) from rfl) (j := 36) zk_163_36 rfl ?_
    obtain ⟨hg, h⟩ := zt_ckE h
    refine zt_if_le zy_300 (show q_ins q_k300 11 = some (.ifCond .le 71, 82, 0) from rfl) (hg) (fun hc => ?_) (fun hc => ?_)
    · rw [if_pos hc] at h
      refine zt_aload_n zy_300 (show q_ins q_k300 14 = some (.aload_n 0, 0, 0) from rfl) (v := 163) rfl ?_
      refine zt_getR zy_300 (show q_ins q_k300 15 = some (.getfield 72, 11, 33) from rfl) (r := 182) zk_163_33 ?_
      refine zt_aload_n zy_300 (show q_ins q_k300 18 = some (.aload_n 0, 0, 0) from rfl) (v := 163) rfl ?_
      refine zt_getI zy_300 (show q_ins q_k300 19 = some (.getfield 432, 11, 36) from rfl) (j := 36) zk_163_36 rfl ?_
      refine zt_iconst zy_300 (show q_ins q_k300 22 = some (.iconst 1, 0, 0) from rfl) ?_
      refine zt_isub zy_300 (show q_ins q_k300 23 = some (.isub, 0, 0) from rfl) ?_
      obtain ⟨hg, h⟩ := zt_ckE h
      refine zt_ald zy_300 (show q_ins q_k300 24 = some (.iaload, 0, 0) from rfl) za_182 (by decide) hg ?_
      obtain ⟨a3, s4, hca3, h⟩ := zt_bdE h
      refine zt_callS (d := 0) zy_300 (show q_ins q_k300 25 = some (.invokestatic 435, 299, 1) from rfl) zy_299 (by decide) ⟨zq_lt (by decide), by decide⟩ rfl (by simp [Value.category]) (by simp [lg_sl, Value.category]) rfl (zt_dm (by decide) (S_M_strength hca3)) ?_
      refine zt_iload_n zy_300 (show q_ins q_k300 28 = some (.iload_n 1, 0, 0) from rfl) (v := Int32.ofInt v1) rfl ?_
      obtain ⟨hg, h⟩ := zt_ckE h
      refine zt_icmp_lt zy_300 (show q_ins q_k300 29 = some (.if_icmp .lt 53, 82, 0) from rfl) (⟨hg.1, hg.2⟩) (fun hc => ?_) (fun hc => ?_)
      · rw [if_pos hc] at h
        exact zt_wk (zt_cov_nil) (S_M_settles_82  _ _ h)
      · rw [if_neg hc] at h
        refine zt_aload_n zy_300 (show q_ins q_k300 32 = some (.aload_n 0, 0, 0) from rfl) (v := 163) rfl ?_
        refine zt_dup zy_300 (show q_ins q_k300 33 = some (.dup, 0, 0) from rfl) rfl ?_
        refine zt_getI zy_300 (show q_ins q_k300 34 = some (.getfield 432, 11, 36) from rfl) (j := 36) zk_163_36 rfl ?_
        refine zt_iconst zy_300 (show q_ins q_k300 37 = some (.iconst 1, 0, 0) from rfl) ?_
        refine zt_isub zy_300 (show q_ins q_k300 38 = some (.isub, 0, 0) from rfl) ?_
        obtain ⟨s5, hs5, h⟩ := zt_letE h
        refine zt_putI zy_300 (show q_ins q_k300 39 = some (.putfield 432, 11, 36) from rfl) (j := 36) zk_163_36 rfl rfl rfl ?_
        rw [← hs5]
        refine zt_aload_n zy_300 (show q_ins q_k300 42 = some (.aload_n 0, 0, 0) from rfl) (v := 163) rfl ?_
        refine zt_aload_n zy_300 (show q_ins q_k300 43 = some (.aload_n 0, 0, 0) from rfl) (v := 163) rfl ?_
        refine zt_getR zy_300 (show q_ins q_k300 44 = some (.getfield 72, 11, 33) from rfl) (r := 182) zk_163_33 ?_
        refine zt_aload_n zy_300 (show q_ins q_k300 47 = some (.aload_n 0, 0, 0) from rfl) (v := 163) rfl ?_
        refine zt_getI zy_300 (show q_ins q_k300 48 = some (.getfield 432, 11, 36) from rfl) (j := 36) zk_163_36 rfl ?_
        obtain ⟨hg, h⟩ := zt_ckE h
        refine zt_ald zy_300 (show q_ins q_k300 51 = some (.iaload, 0, 0) from rfl) za_182 (by decide) hg ?_
        obtain ⟨a6, s7, hca6, h⟩ := zt_bdE h
        refine zt_callV (d := 0) zy_300 (show q_ins q_k300 52 = some (.invokevirtual 423, 295, 1) from rfl) zy_295 (by decide) ⟨zq_lt (by decide), by decide⟩ rfl (by simp [Value.category]) (by simp [lg_sl, Value.category]) (zt_rcv zc_163) (zt_dm (by decide) (S_M_adds hca6)) ?_
        refine zt_aload_n zy_300 (show q_ins q_k300 55 = some (.aload_n 0, 0, 0) from rfl) (v := 163) rfl ?_
        refine zt_getR zy_300 (show q_ins q_k300 56 = some (.getfield 72, 11, 33) from rfl) (r := 182) zk_163_33 ?_
        refine zt_aload_n zy_300 (show q_ins q_k300 59 = some (.aload_n 0, 0, 0) from rfl) (v := 163) rfl ?_
        refine zt_getI zy_300 (show q_ins q_k300 60 = some (.getfield 432, 11, 36) from rfl) (j := 36) zk_163_36 rfl ?_
        obtain ⟨hg, h⟩ := zt_ckE h
        refine zt_ald zy_300 (show q_ins q_k300 63 = some (.iaload, 0, 0) from rfl) za_182 (by decide) hg ?_
        refine zt_bipush zy_300 (show q_ins q_k300 64 = some (.bipush 23, 0, 0) from rfl) (by decide) ?_
        obtain ⟨hg, h⟩ := zt_ckE h
        refine zt_icmp_ne zy_300 (show q_ins q_k300 66 = some (.if_icmp .ne (-66), 0, 0) from rfl) (⟨hg, by decide⟩) (fun hc => ?_) (fun hc => ?_)
        · rw [if_pos hc] at h
          refine zt_aload_n zy_300 (show q_ins q_k300 69 = some (.aload_n 0, 0, 0) from rfl) (v := 163) rfl ?_
          refine zt_dup zy_300 (show q_ins q_k300 70 = some (.dup, 0, 0) from rfl) rfl ?_
          refine zt_getI zy_300 (show q_ins q_k300 71 = some (.getfield 429, 11, 37) from rfl) (j := 37) zk_163_37 rfl ?_
          refine zt_iconst zy_300 (show q_ins q_k300 74 = some (.iconst 1, 0, 0) from rfl) ?_
          refine zt_isub zy_300 (show q_ins q_k300 75 = some (.isub, 0, 0) from rfl) ?_
          obtain ⟨s8, hs8, h⟩ := zt_letE h
          refine zt_putI zy_300 (show q_ins q_k300 76 = some (.putfield 429, 11, 37) from rfl) (j := 37) zk_163_37 rfl rfl rfl ?_
          rw [← hs8]
          refine zt_goto zy_300 (show q_ins q_k300 79 = some (.goto (-79), 0, 0) from rfl) ?_
          exact zt_wk (zt_cov_cons rfl (zt_cov_cons rfl (zt_cov_nil))) (ih _ _ _ h)
        · rw [if_neg hc] at h
          exact zt_wk (zt_cov_cons rfl (zt_cov_cons rfl (zt_cov_nil))) (ih _ _ _ h)
    · rw [if_neg hc] at h
      exact zt_wk (zt_cov_nil) (S_M_settles_82  _ _ h)
theorem S_M_settles {X : q_X}   {v1 : Int} {σ : zt_S} {o : (Unit × zt_S)} (h : F_M_settles  v1 σ = some o) : zt_Ex X 1 300 0 (lv_args 0 [.ref 163, .int (Int32.ofInt v1)]) [] (zt_M σ) (zo_V o) := by
  unfold F_M_settles at h
  exact zt_wk (zt_cov_cons rfl (zt_cov_cons rfl (zt_cov_nil))) (S_M_settles_0  _ _ _ _ h)
theorem S_M_isInside_2 {X : q_X}   : ∀ (n : Nat) (v1 : Int) (σ : zt_S) (o : (Int × zt_S)), F_M_isInside_2  n v1 σ = some o → zt_Ex X 0 301 2 [(0, .ref 163), (1, .int (Int32.ofInt v1))] [] (zt_M σ) (zo_I o) := by
  intro n
  induction n with
  | zero => intro v1 σ o  h; cases h
  | succ n ih =>
  intro v1 σ o  h
  rw [F_M_isInside_2] at h
  refine zt_iload_n zy_301 (show q_ins q_k301 2 = some (.iload_n 1, 0, 0) from rfl) (v := Int32.ofInt v1) rfl ?_
  refine zt_aload_n zy_301 (show q_ins q_k301 3 = some (.aload_n 0, 0, 0) from rfl) (v := 163) rfl ?_
  refine zt_getI zy_301 (show q_ins q_k301 4 = some (.getfield 432, 11, 36) from rfl) (j := 36) zk_163_36 rfl ?_
  obtain ⟨hg, h⟩ := zt_ckE h
  refine zt_icmp_ge zy_301 (show q_ins q_k301 7 = some (.if_icmp .ge 21, 28, 0) from rfl) (⟨hg.1, hg.2⟩) (fun hc => ?_) (fun hc => ?_)
  · rw [if_pos hc] at h
    refine zt_aload_n zy_301 (show q_ins q_k301 10 = some (.aload_n 0, 0, 0) from rfl) (v := 163) rfl ?_
    refine zt_getR zy_301 (show q_ins q_k301 11 = some (.getfield 72, 11, 33) from rfl) (r := 182) zk_163_33 ?_
    refine zt_iload_n zy_301 (show q_ins q_k301 14 = some (.iload_n 1, 0, 0) from rfl) (v := Int32.ofInt v1) rfl ?_
    obtain ⟨hg, h⟩ := zt_ckE h
    refine zt_ald zy_301 (show q_ins q_k301 15 = some (.iaload, 0, 0) from rfl) za_182 (by decide) hg ?_
    refine zt_iconst zy_301 (show q_ins q_k301 16 = some (.iconst 1, 0, 0) from rfl) ?_
    obtain ⟨hg, h⟩ := zt_ckE h
    refine zt_icmp_ne zy_301 (show q_ins q_k301 17 = some (.if_icmp .ne 5, 22, 0) from rfl) (⟨hg, by decide⟩) (fun hc => ?_) (fun hc => ?_)
    · rw [if_pos hc] at h
      refine zt_iconst zy_301 (show q_ins q_k301 20 = some (.iconst 1, 0, 0) from rfl) ?_
      cases h
      exact zt_zret zy_301 (show q_ins q_k301 21 = some (.ireturn, 0, 0) from rfl) (by decide)
    · rw [if_neg hc] at h
      refine zt_iinc zy_301 (show q_ins q_k301 22 = some (.iinc 1 1, 0, 0) from rfl) (v := v1) (by decide) rfl ?_
      refine zt_goto zy_301 (show q_ins q_k301 25 = some (.goto (-23), 2, 0) from rfl) ?_
      exact zt_wk (zt_cov_cons rfl (zt_cov_cons rfl (zt_cov_nil))) (ih _ _ _ h)
  · rw [if_neg hc] at h
    refine zt_iconst zy_301 (show q_ins q_k301 28 = some (.iconst 0, 0, 0) from rfl) ?_
    cases h
    exact zt_zret zy_301 (show q_ins q_k301 29 = some (.ireturn, 0, 0) from rfl) (by decide)
theorem S_M_isInside {X : q_X}    {σ : zt_S} {o : (Int × zt_S)} (h : F_M_isInside   σ = some o) : zt_Ex X 0 301 0 (lv_args 0 [.ref 163]) [] (zt_M σ) (zo_I o) := by
  unfold F_M_isInside at h
  refine zt_iconst zy_301 (show q_ins q_k301 0 = some (.iconst 0, 0, 0) from rfl) ?_
  refine zt_istore_n zy_301 (show q_ins q_k301 1 = some (.istore_n 1, 0, 0) from rfl) (by decide) ?_
  exact zt_wk (zt_cov_cons rfl (zt_cov_cons rfl (zt_cov_nil))) (S_M_isInside_2  _ _ _ _ h)
theorem S_M_comparisonRead_127 {X : q_X}   : ∀  (σ : zt_S) (o : (Unit × zt_S)), F_M_comparisonRead_127   σ = some o → zt_Ex X 5 302 127 [] [] (zt_M σ) (zo_V o) := by
  intro  σ o  h
  unfold F_M_comparisonRead_127 at h
  cases h
  exact zt_ret zy_302 (show q_ins q_k302 127 = some (.return_, 0, 0) from rfl)
theorem S_M_comparisonRead_99 {X : q_X}   : ∀ (v1 : Int) (σ : zt_S) (o : (Unit × zt_S)), F_M_comparisonRead_99  v1 σ = some o → zt_Ex X 5 302 99 [(0, .ref 163), (1, .int (Int32.ofInt v1))] [] (zt_M σ) (zo_V o) := by
  intro v1 σ o  h
  unfold F_M_comparisonRead_99 at h
  refine zt_aload_n zy_302 (show q_ins q_k302 99 = some (.aload_n 0, 0, 0) from rfl) (v := 163) rfl ?_
  obtain ⟨a15, s16, hca15, h⟩ := zt_bdE h
  refine zt_callV (d := 4) zy_302 (show q_ins q_k302 100 = some (.invokevirtual 156, 193, 0) from rfl) zy_193 (by decide) ⟨zq_lt (by decide), by decide⟩ rfl (by simp [Value.category]) (by simp [lg_sl, Value.category]) (zt_rcv zc_163) (zt_dm (by decide) (S_M_isGood hca15)) ?_
  obtain ⟨hg, h⟩ := zt_ckE h
  refine zt_if_ne zy_302 (show q_ins q_k302 103 = some (.ifCond .ne 4, 107, 0) from rfl) (hg) (fun hc => ?_) (fun hc => ?_)
  · rw [if_pos hc] at h
    cases h
    exact zt_ret zy_302 (show q_ins q_k302 106 = some (.return_, 0, 0) from rfl)
  · rw [if_neg hc] at h
    refine zt_aload_n zy_302 (show q_ins q_k302 107 = some (.aload_n 0, 0, 0) from rfl) (v := 163) rfl ?_
    obtain ⟨a17, s18, hca17, h⟩ := zt_bdE h
    refine zt_callV (d := 4) zy_302 (show q_ins q_k302 108 = some (.invokevirtual 153, 190, 0) from rfl) zy_190 (by decide) ⟨zq_lt (by decide), by decide⟩ rfl (by simp [Value.category]) (by simp [lg_sl, Value.category]) (zt_rcv zc_163) (zt_dm (by decide) (S_M_next hca17)) ?_
    refine zt_aload_n zy_302 (show q_ins q_k302 111 = some (.aload_n 0, 0, 0) from rfl) (v := 163) rfl ?_
    obtain ⟨a19, s20, hca19, h⟩ := zt_bdE h
    refine zt_callV (d := 4) zy_302 (show q_ins q_k302 112 = some (.invokevirtual 443, 297, 0) from rfl) zy_297 (by decide) ⟨zq_lt (by decide), by decide⟩ rfl (by simp [Value.category]) (by simp [lg_sl, Value.category]) (zt_rcv zc_163) (zt_dm (by decide) (S_M_valueRead hca19)) ?_
    refine zt_aload_n zy_302 (show q_ins q_k302 115 = some (.aload_n 0, 0, 0) from rfl) (v := 163) rfl ?_
    obtain ⟨a21, s22, hca21, h⟩ := zt_bdE h
    refine zt_callV (d := 4) zy_302 (show q_ins q_k302 116 = some (.invokevirtual 156, 193, 0) from rfl) zy_193 (by decide) ⟨zq_lt (by decide), by decide⟩ rfl (by simp [Value.category]) (by simp [lg_sl, Value.category]) (zt_rcv zc_163) (zt_dm (by decide) (S_M_isGood hca21)) ?_
    obtain ⟨hg, h⟩ := zt_ckE h
    refine zt_if_eq zy_302 (show q_ins q_k302 119 = some (.ifCond .eq 8, 127, 0) from rfl) (hg) (fun hc => ?_) (fun hc => ?_)
    · rw [if_pos hc] at h
      exact zt_wk (zt_cov_nil) (S_M_comparisonRead_127  _ _ h)
    · rw [if_neg hc] at h
      refine zt_aload_n zy_302 (show q_ins q_k302 122 = some (.aload_n 0, 0, 0) from rfl) (v := 163) rfl ?_
      refine zt_iload_n zy_302 (show q_ins q_k302 123 = some (.iload_n 1, 0, 0) from rfl) (v := Int32.ofInt v1) rfl ?_
      obtain ⟨a23, s24, hca23, h⟩ := zt_bdE h
      refine zt_callV (d := 4) zy_302 (show q_ins q_k302 124 = some (.invokevirtual 423, 295, 1) from rfl) zy_295 (by decide) ⟨zq_lt (by decide), by decide⟩ rfl (by simp [Value.category]) (by simp [lg_sl, Value.category]) (zt_rcv zc_163) (zt_dm (by decide) (S_M_adds hca23)) ?_
      exact zt_wk (zt_cov_nil) (S_M_comparisonRead_127  _ _ h)
theorem S_M_comparisonRead_77 {X : q_X}   : ∀ (x0 : Int) (σ : zt_S) (o : (Unit × zt_S)), F_M_comparisonRead_77  x0 σ = some o → zt_Ex X 5 302 77 [(0, .ref 163)] [.int (Int32.ofInt x0)] (zt_M σ) (zo_V o) := by
  intro x0 σ o  h
  unfold F_M_comparisonRead_77 at h
  refine zt_istore_n zy_302 (show q_ins q_k302 77 = some (.istore_n 1, 0, 0) from rfl) (by decide) ?_
  refine zt_iload_n zy_302 (show q_ins q_k302 78 = some (.iload_n 1, 0, 0) from rfl) (v := Int32.ofInt x0) rfl ?_
  refine zt_bipush zy_302 (show q_ins q_k302 79 = some (.bipush 21, 0, 0) from rfl) (by decide) ?_
  obtain ⟨hg, h⟩ := zt_ckE h
  refine zt_icmp_ne zy_302 (show q_ins q_k302 81 = some (.if_icmp .ne 18, 99, 0) from rfl) (⟨hg, by decide⟩) (fun hc => ?_) (fun hc => ?_)
  · rw [if_pos hc] at h
    refine zt_aload_n zy_302 (show q_ins q_k302 84 = some (.aload_n 0, 0, 0) from rfl) (v := 163) rfl ?_
    refine zt_bipush zy_302 (show q_ins q_k302 85 = some (.bipush 61, 0, 0) from rfl) (by decide) ?_
    obtain ⟨a11, s12, hca11, h⟩ := zt_bdE h
    refine zt_callV (d := 4) zy_302 (show q_ins q_k302 87 = some (.invokevirtual 164, 196, 1) from rfl) zy_196 (by decide) ⟨zq_lt (by decide), by decide⟩ rfl (by simp [Value.category]) (by simp [lg_sl, Value.category]) (zt_rcv zc_163) (zt_dm (by decide) (S_M_isByte hca11)) ?_
    obtain ⟨hg, h⟩ := zt_ckE h
    refine zt_if_ne zy_302 (show q_ins q_k302 90 = some (.ifCond .ne 9, 99, 0) from rfl) (hg) (fun hc => ?_) (fun hc => ?_)
    · rw [if_pos hc] at h
      refine zt_aload_n zy_302 (show q_ins q_k302 93 = some (.aload_n 0, 0, 0) from rfl) (v := 163) rfl ?_
      refine zt_iconst zy_302 (show q_ins q_k302 94 = some (.iconst 1, 0, 0) from rfl) ?_
      obtain ⟨a13, s14, hca13, h⟩ := zt_bdE h
      refine zt_callV (d := 4) zy_302 (show q_ins q_k302 95 = some (.invokevirtual 167, 192, 1) from rfl) zy_192 (by decide) ⟨zq_lt (by decide), by decide⟩ rfl (by simp [Value.category]) (by simp [lg_sl, Value.category]) (zt_rcv zc_163) (zt_dm (by decide) (S_M_wrongs hca13)) ?_
      refine zt_pop zy_302 (show q_ins q_k302 98 = some (.pop, 0, 0) from rfl) rfl ?_
      exact zt_wk (zt_cov_cons rfl (zt_cov_cons rfl (zt_cov_nil))) (S_M_comparisonRead_99  _ _ _ h)
    · rw [if_neg hc] at h
      exact zt_wk (zt_cov_cons rfl (zt_cov_cons rfl (zt_cov_nil))) (S_M_comparisonRead_99  _ _ _ h)
  · rw [if_neg hc] at h
    exact zt_wk (zt_cov_cons rfl (zt_cov_cons rfl (zt_cov_nil))) (S_M_comparisonRead_99  _ _ _ h)
theorem S_M_comparisonRead_43 {X : q_X}   : ∀  (σ : zt_S) (o : (Unit × zt_S)), F_M_comparisonRead_43   σ = some o → zt_Ex X 5 302 43 [(0, .ref 163)] [] (zt_M σ) (zo_V o) := by
  intro  σ o  h
  unfold F_M_comparisonRead_43 at h
  refine zt_aload_n zy_302 (show q_ins q_k302 43 = some (.aload_n 0, 0, 0) from rfl) (v := 163) rfl ?_
  obtain ⟨a5, s6, hca5, h⟩ := zt_bdE h
  refine zt_callV (d := 4) zy_302 (show q_ins q_k302 44 = some (.invokevirtual 443, 297, 0) from rfl) zy_297 (by decide) ⟨zq_lt (by decide), by decide⟩ rfl (by simp [Value.category]) (by simp [lg_sl, Value.category]) (zt_rcv zc_163) (zt_dm (by decide) (S_M_valueRead hca5)) ?_
  refine zt_aload_n zy_302 (show q_ins q_k302 47 = some (.aload_n 0, 0, 0) from rfl) (v := 163) rfl ?_
  refine zt_bipush zy_302 (show q_ins q_k302 48 = some (.bipush 60, 0, 0) from rfl) (by decide) ?_
  obtain ⟨a7, s8, hca7, h⟩ := zt_bdE h
  refine zt_callV (d := 4) zy_302 (show q_ins q_k302 50 = some (.invokevirtual 164, 196, 1) from rfl) zy_196 (by decide) ⟨zq_lt (by decide), by decide⟩ rfl (by simp [Value.category]) (by simp [lg_sl, Value.category]) (zt_rcv zc_163) (zt_dm (by decide) (S_M_isByte hca7)) ?_
  obtain ⟨hg, h⟩ := zt_ckE h
  refine zt_if_eq zy_302 (show q_ins q_k302 53 = some (.ifCond .eq 8, 61, 0) from rfl) (hg) (fun hc => ?_) (fun hc => ?_)
  · rw [if_pos hc] at h
    refine zt_aload_n zy_302 (show q_ins q_k302 61 = some (.aload_n 0, 0, 0) from rfl) (v := 163) rfl ?_
    refine zt_bipush zy_302 (show q_ins q_k302 62 = some (.bipush 62, 0, 0) from rfl) (by decide) ?_
    obtain ⟨a9, s10, hca9, h⟩ := zt_bdE h
    refine zt_callV (d := 4) zy_302 (show q_ins q_k302 64 = some (.invokevirtual 164, 196, 1) from rfl) zy_196 (by decide) ⟨zq_lt (by decide), by decide⟩ rfl (by simp [Value.category]) (by simp [lg_sl, Value.category]) (zt_rcv zc_163) (zt_dm (by decide) (S_M_isByte hca9)) ?_
    obtain ⟨hg, h⟩ := zt_ckE h
    refine zt_if_eq zy_302 (show q_ins q_k302 67 = some (.ifCond .eq 8, 75, 0) from rfl) (hg) (fun hc => ?_) (fun hc => ?_)
    · rw [if_pos hc] at h
      refine zt_bipush zy_302 (show q_ins q_k302 75 = some (.bipush 21, 0, 0) from rfl) (by decide) ?_
      exact zt_wk (zt_cov_cons rfl (zt_cov_nil)) (S_M_comparisonRead_77  _ _ _ h)
    · rw [if_neg hc] at h
      refine zt_bipush zy_302 (show q_ins q_k302 70 = some (.bipush 22, 0, 0) from rfl) (by decide) ?_
      refine zt_goto zy_302 (show q_ins q_k302 72 = some (.goto 5, 77, 0) from rfl) ?_
      exact zt_wk (zt_cov_cons rfl (zt_cov_nil)) (S_M_comparisonRead_77  _ _ _ h)
  · rw [if_neg hc] at h
    refine zt_bipush zy_302 (show q_ins q_k302 56 = some (.bipush 20, 0, 0) from rfl) (by decide) ?_
    refine zt_goto zy_302 (show q_ins q_k302 58 = some (.goto 19, 77, 0) from rfl) ?_
    exact zt_wk (zt_cov_cons rfl (zt_cov_nil)) (S_M_comparisonRead_77  _ _ _ h)
theorem S_M_comparisonRead_36 {X : q_X}   {r0 : zt_S → Option (Unit × zt_S)} (hr0 : ∀  (σ : zt_S) (o : (Unit × zt_S)), r0  σ = some o → zt_Ex X 5 302 0 [(0, .ref 163)] [] (zt_M σ) (zo_V o)) : ∀ (x0 : Int) (σ : zt_S) (o : (Unit × zt_S)), F_M_comparisonRead_36  r0 x0 σ = some o → zt_Ex X 5 302 36 [(0, .ref 163)] [.int (Int32.ofInt x0), .ref 163] (zt_M σ) (zo_V o) := by
  intro x0 σ o  h
  unfold F_M_comparisonRead_36 at h
  obtain ⟨a27, s28, hca27, h⟩ := zt_bdE h
  refine zt_callV (d := 4) zy_302 (show q_ins q_k302 36 = some (.invokevirtual 440, 298, 1) from rfl) zy_298 (by decide) ⟨zq_lt (by decide), by decide⟩ rfl (by simp [Value.category]) (by simp [lg_sl, Value.category]) (zt_rcv zc_163) (zt_dm (by decide) (S_M_goesIn hca27)) ?_
  obtain ⟨hg, h⟩ := zt_ckE h
  refine zt_if_ne zy_302 (show q_ins q_k302 39 = some (.ifCond .ne (-39), 0, 0) from rfl) (hg) (fun hc => ?_) (fun hc => ?_)
  · rw [if_pos hc] at h
    cases h
    exact zt_ret zy_302 (show q_ins q_k302 42 = some (.return_, 0, 0) from rfl)
  · rw [if_neg hc] at h
    exact zt_wk (zt_cov_cons rfl (zt_cov_nil)) (hr0 _ _ h)
theorem S_M_comparisonRead_19 {X : q_X}   {r0 : zt_S → Option (Unit × zt_S)} (hr0 : ∀  (σ : zt_S) (o : (Unit × zt_S)), r0  σ = some o → zt_Ex X 5 302 0 [(0, .ref 163)] [] (zt_M σ) (zo_V o)) : ∀  (σ : zt_S) (o : (Unit × zt_S)), F_M_comparisonRead_19  r0  σ = some o → zt_Ex X 5 302 19 [(0, .ref 163)] [] (zt_M σ) (zo_V o) := by
  intro  σ o  h
  unfold F_M_comparisonRead_19 at h
  refine zt_aload_n zy_302 (show q_ins q_k302 19 = some (.aload_n 0, 0, 0) from rfl) (v := 163) rfl ?_
  refine zt_aload_n zy_302 (show q_ins q_k302 20 = some (.aload_n 0, 0, 0) from rfl) (v := 163) rfl ?_
  refine zt_ldc2 zy_302 (show q_ins q_k302 21 = some (.ldc2_w 438, 0, 10631) from rfl) (v := (10631 : Int64)) (by decide) ?_
  obtain ⟨a25, s26, hca25, h⟩ := zt_bdE h
  refine zt_callV (d := 4) zy_302 (show q_ins q_k302 24 = some (.invokevirtual 160, 194, 1) from rfl) zy_194 (by decide) ⟨zq_lt (by decide), by decide⟩ rfl (by simp [Value.category]) (by simp [lg_sl, Value.category]) (zt_rcv zc_163) (zt_dm (by decide) (S_M_isWord hca25)) ?_
  obtain ⟨hg, h⟩ := zt_ckE h
  refine zt_if_eq zy_302 (show q_ins q_k302 27 = some (.ifCond .eq 8, 35, 0) from rfl) (hg) (fun hc => ?_) (fun hc => ?_)
  · rw [if_pos hc] at h
    refine zt_iconst zy_302 (show q_ins q_k302 35 = some (.iconst 1, 0, 0) from rfl) ?_
    exact zt_wk (zt_cov_cons rfl (zt_cov_nil)) (S_M_comparisonRead_36  hr0 _ _ _ h)
  · rw [if_neg hc] at h
    refine zt_bipush zy_302 (show q_ins q_k302 30 = some (.bipush 23, 0, 0) from rfl) (by decide) ?_
    refine zt_goto zy_302 (show q_ins q_k302 32 = some (.goto 4, 36, 0) from rfl) ?_
    exact zt_wk (zt_cov_cons rfl (zt_cov_nil)) (S_M_comparisonRead_36  hr0 _ _ _ h)
theorem S_M_comparisonRead_0 {X : q_X}   : ∀ (n : Nat)  (σ : zt_S) (o : (Unit × zt_S)), F_M_comparisonRead_0  n  σ = some o → zt_Ex X 5 302 0 [(0, .ref 163)] [] (zt_M σ) (zo_V o) := by
  intro n
  induction n with
  | zero => intro  σ o  h; cases h
  | succ n ih =>
  intro  σ o  h
  rw [F_M_comparisonRead_0] at h
  refine zt_aload_n zy_302 (show q_ins q_k302 0 = some (.aload_n 0, 0, 0) from rfl) (v := 163) rfl ?_
  refine zt_ldc2 zy_302 (show q_ins q_k302 1 = some (.ldc2_w 438, 0, 10631) from rfl) (v := (10631 : Int64)) (by decide) ?_
  obtain ⟨a1, s2, hca1, h⟩ := zt_bdE h
  refine zt_callV (d := 4) zy_302 (show q_ins q_k302 4 = some (.invokevirtual 160, 194, 1) from rfl) zy_194 (by decide) ⟨zq_lt (by decide), by decide⟩ rfl (by simp [Value.category]) (by simp [lg_sl, Value.category]) (zt_rcv zc_163) (zt_dm (by decide) (S_M_isWord hca1)) ?_
  obtain ⟨hg, h⟩ := zt_ckE h
  refine zt_if_ne zy_302 (show q_ins q_k302 7 = some (.ifCond .ne 12, 19, 0) from rfl) (hg) (fun hc => ?_) (fun hc => ?_)
  · rw [if_pos hc] at h
    refine zt_aload_n zy_302 (show q_ins q_k302 10 = some (.aload_n 0, 0, 0) from rfl) (v := 163) rfl ?_
    refine zt_bipush zy_302 (show q_ins q_k302 11 = some (.bipush 40, 0, 0) from rfl) (by decide) ?_
    obtain ⟨a3, s4, hca3, h⟩ := zt_bdE h
    refine zt_callV (d := 4) zy_302 (show q_ins q_k302 13 = some (.invokevirtual 164, 196, 1) from rfl) zy_196 (by decide) ⟨zq_lt (by decide), by decide⟩ rfl (by simp [Value.category]) (by simp [lg_sl, Value.category]) (zt_rcv zc_163) (zt_dm (by decide) (S_M_isByte hca3)) ?_
    obtain ⟨hg, h⟩ := zt_ckE h
    refine zt_if_eq zy_302 (show q_ins q_k302 16 = some (.ifCond .eq 27, 43, 0) from rfl) (hg) (fun hc => ?_) (fun hc => ?_)
    · rw [if_pos hc] at h
      exact zt_wk (zt_cov_cons rfl (zt_cov_nil)) (S_M_comparisonRead_43  _ _ h)
    · rw [if_neg hc] at h
      exact zt_wk (zt_cov_cons rfl (zt_cov_nil)) (S_M_comparisonRead_19  ih _ _ h)
  · rw [if_neg hc] at h
    exact zt_wk (zt_cov_cons rfl (zt_cov_nil)) (S_M_comparisonRead_19  ih _ _ h)
theorem S_M_comparisonRead {X : q_X}    {σ : zt_S} {o : (Unit × zt_S)} (h : F_M_comparisonRead   σ = some o) : zt_Ex X 5 302 0 (lv_args 0 [.ref 163]) [] (zt_M σ) (zo_V o) := by
  unfold F_M_comparisonRead at h
  exact zt_wk (zt_cov_cons rfl (zt_cov_nil)) (S_M_comparisonRead_0  _ _ _ h)
theorem S_M_closes_58 {X : q_X}   : ∀  (σ : zt_S) (o : (Unit × zt_S)), F_M_closes_58   σ = some o → zt_Ex X 3 303 58 [] [] (zt_M σ) (zo_V o) := by
  intro  σ o  h
  unfold F_M_closes_58 at h
  cases h
  exact zt_ret zy_303 (show q_ins q_k303 58 = some (.return_, 0, 0) from rfl)
theorem S_M_closes_5 {X : q_X}   : ∀ (n : Nat)  (σ : zt_S) (o : (Unit × zt_S)), F_M_closes_5  n  σ = some o → zt_Ex X 3 303 5 [(0, .ref 163)] [] (zt_M σ) (zo_V o) := by
  intro n
  induction n with
  | zero => intro  σ o  h; cases h
  | succ n ih =>
  intro  σ o  h
  rw [F_M_closes_5] at h
  refine zt_aload_n zy_303 (show q_ins q_k303 5 = some (.aload_n 0, 0, 0) from rfl) (v := 163) rfl ?_
  refine zt_bipush zy_303 (show q_ins q_k303 6 = some (.bipush 41, 0, 0) from rfl) (by decide) ?_
  obtain ⟨a3, s4, hca3, h⟩ := zt_bdE h
  refine zt_callV (d := 2) zy_303 (show q_ins q_k303 8 = some (.invokevirtual 164, 196, 1) from rfl) zy_196 (by decide) ⟨zq_lt (by decide), by decide⟩ rfl (by simp [Value.category]) (by simp [lg_sl, Value.category]) (zt_rcv zc_163) (zt_dm (by decide) (S_M_isByte hca3)) ?_
  obtain ⟨hg, h⟩ := zt_ckE h
  refine zt_if_eq zy_303 (show q_ins q_k303 11 = some (.ifCond .eq 47, 58, 0) from rfl) (hg) (fun hc => ?_) (fun hc => ?_)
  · rw [if_pos hc] at h
    exact zt_wk (zt_cov_nil) (S_M_closes_58  _ _ h)
  · rw [if_neg hc] at h
    refine zt_aload_n zy_303 (show q_ins q_k303 14 = some (.aload_n 0, 0, 0) from rfl) (v := 163) rfl ?_
    obtain ⟨a5, s6, hca5, h⟩ := zt_bdE h
    refine zt_callV (d := 2) zy_303 (show q_ins q_k303 15 = some (.invokevirtual 449, 301, 0) from rfl) zy_301 (by decide) ⟨zq_lt (by decide), by decide⟩ rfl (by simp [Value.category]) (by simp [lg_sl, Value.category]) (zt_rcv zc_163) (zt_dm (by decide) (S_M_isInside hca5)) ?_
    obtain ⟨hg, h⟩ := zt_ckE h
    refine zt_if_eq zy_303 (show q_ins q_k303 18 = some (.ifCond .eq 40, 58, 0) from rfl) (hg) (fun hc => ?_) (fun hc => ?_)
    · rw [if_pos hc] at h
      exact zt_wk (zt_cov_nil) (S_M_closes_58  _ _ h)
    · rw [if_neg hc] at h
      refine zt_aload_n zy_303 (show q_ins q_k303 21 = some (.aload_n 0, 0, 0) from rfl) (v := 163) rfl ?_
      refine zt_iconst zy_303 (show q_ins q_k303 22 = some (.iconst 1, 0, 0) from rfl) ?_
      obtain ⟨a7, s8, hca7, h⟩ := zt_bdE h
      refine zt_callV (d := 2) zy_303 (show q_ins q_k303 23 = some (.invokevirtual 446, 300, 1) from rfl) zy_300 (by decide) ⟨zq_lt (by decide), by decide⟩ rfl (by simp [Value.category]) (by simp [lg_sl, Value.category]) (zt_rcv zc_163) (zt_dm (by decide) (S_M_settles hca7)) ?_
      refine zt_aload_n zy_303 (show q_ins q_k303 26 = some (.aload_n 0, 0, 0) from rfl) (v := 163) rfl ?_
      refine zt_dup zy_303 (show q_ins q_k303 27 = some (.dup, 0, 0) from rfl) rfl ?_
      refine zt_getI zy_303 (show q_ins q_k303 28 = some (.getfield 432, 11, 36) from rfl) (j := 36) zk_163_36 rfl ?_
      refine zt_iconst zy_303 (show q_ins q_k303 31 = some (.iconst 1, 0, 0) from rfl) ?_
      refine zt_isub zy_303 (show q_ins q_k303 32 = some (.isub, 0, 0) from rfl) ?_
      obtain ⟨s9, hs9, h⟩ := zt_letE h
      refine zt_putI zy_303 (show q_ins q_k303 33 = some (.putfield 432, 11, 36) from rfl) (j := 36) zk_163_36 rfl rfl rfl ?_
      rw [← hs9]
      refine zt_aload_n zy_303 (show q_ins q_k303 36 = some (.aload_n 0, 0, 0) from rfl) (v := 163) rfl ?_
      refine zt_dup zy_303 (show q_ins q_k303 37 = some (.dup, 0, 0) from rfl) rfl ?_
      refine zt_getI zy_303 (show q_ins q_k303 38 = some (.getfield 429, 11, 37) from rfl) (j := 37) zk_163_37 rfl ?_
      refine zt_iconst zy_303 (show q_ins q_k303 41 = some (.iconst 1, 0, 0) from rfl) ?_
      refine zt_isub zy_303 (show q_ins q_k303 42 = some (.isub, 0, 0) from rfl) ?_
      obtain ⟨s10, hs10, h⟩ := zt_letE h
      refine zt_putI zy_303 (show q_ins q_k303 43 = some (.putfield 429, 11, 37) from rfl) (j := 37) zk_163_37 rfl rfl rfl ?_
      rw [← hs10]
      refine zt_aload_n zy_303 (show q_ins q_k303 46 = some (.aload_n 0, 0, 0) from rfl) (v := 163) rfl ?_
      obtain ⟨a11, s12, hca11, h⟩ := zt_bdE h
      refine zt_callV (d := 2) zy_303 (show q_ins q_k303 47 = some (.invokevirtual 153, 190, 0) from rfl) zy_190 (by decide) ⟨zq_lt (by decide), by decide⟩ rfl (by simp [Value.category]) (by simp [lg_sl, Value.category]) (zt_rcv zc_163) (zt_dm (by decide) (S_M_next hca11)) ?_
      refine zt_aload_n zy_303 (show q_ins q_k303 50 = some (.aload_n 0, 0, 0) from rfl) (v := 163) rfl ?_
      refine zt_iconst zy_303 (show q_ins q_k303 51 = some (.iconst 3, 0, 0) from rfl) ?_
      obtain ⟨a13, s14, hca13, h⟩ := zt_bdE h
      refine zt_callV (d := 2) zy_303 (show q_ins q_k303 52 = some (.invokevirtual 446, 300, 1) from rfl) zy_300 (by decide) ⟨zq_lt (by decide), by decide⟩ rfl (by simp [Value.category]) (by simp [lg_sl, Value.category]) (zt_rcv zc_163) (zt_dm (by decide) (S_M_settles hca13)) ?_
      refine zt_goto zy_303 (show q_ins q_k303 55 = some (.goto (-50), 5, 0) from rfl) ?_
      exact zt_wk (zt_cov_cons rfl (zt_cov_nil)) (ih _ _ h)
theorem S_M_closes {X : q_X}    {σ : zt_S} {o : (Unit × zt_S)} (h : F_M_closes   σ = some o) : zt_Ex X 3 303 0 (lv_args 0 [.ref 163]) [] (zt_M σ) (zo_V o) := by
  unfold F_M_closes at h
  refine zt_aload_n zy_303 (show q_ins q_k303 0 = some (.aload_n 0, 0, 0) from rfl) (v := 163) rfl ?_
  refine zt_iconst zy_303 (show q_ins q_k303 1 = some (.iconst 3, 0, 0) from rfl) ?_
  obtain ⟨a1, s2, hca1, h⟩ := zt_bdE h
  refine zt_callV (d := 2) zy_303 (show q_ins q_k303 2 = some (.invokevirtual 446, 300, 1) from rfl) zy_300 (by decide) ⟨zq_lt (by decide), by decide⟩ rfl (by simp [Value.category]) (by simp [lg_sl, Value.category]) (zt_rcv zc_163) (zt_dm (by decide) (S_M_settles hca1)) ?_
  exact zt_wk (zt_cov_cons rfl (zt_cov_nil)) (S_M_closes_5  _ _ _ h)
theorem S_M_reads_151 {X : q_X}   : ∀  (σ : zt_S) (o : (Unit × zt_S)), F_M_reads_151   σ = some o → zt_Ex X 6 304 151 [(0, .ref 163)] [] (zt_M σ) (zo_V o) := by
  intro  σ o  h
  unfold F_M_reads_151 at h
  refine zt_aload_n zy_304 (show q_ins q_k304 151 = some (.aload_n 0, 0, 0) from rfl) (v := 163) rfl ?_
  refine zt_iconst zy_304 (show q_ins q_k304 152 = some (.iconst 1, 0, 0) from rfl) ?_
  obtain ⟨a8, s9, hca8, h⟩ := zt_bdE h
  refine zt_callV (d := 5) zy_304 (show q_ins q_k304 153 = some (.invokevirtual 446, 300, 1) from rfl) zy_300 (by decide) ⟨zq_lt (by decide), by decide⟩ rfl (by simp [Value.category]) (by simp [lg_sl, Value.category]) (zt_rcv zc_163) (zt_dm (by decide) (S_M_settles hca8)) ?_
  cases h
  exact zt_ret zy_304 (show q_ins q_k304 156 = some (.return_, 0, 0) from rfl)
theorem S_M_reads_145 {X : q_X}   : ∀  (σ : zt_S) (o : (Unit × zt_S)), F_M_reads_145   σ = some o → zt_Ex X 6 304 145 [(0, .ref 163)] [] (zt_M σ) (zo_V o) := by
  intro  σ o  h
  unfold F_M_reads_145 at h
  refine zt_aload_n zy_304 (show q_ins q_k304 145 = some (.aload_n 0, 0, 0) from rfl) (v := 163) rfl ?_
  refine zt_iconst zy_304 (show q_ins q_k304 146 = some (.iconst 1, 0, 0) from rfl) ?_
  obtain ⟨a12, s13, hca12, h⟩ := zt_bdE h
  refine zt_callV (d := 5) zy_304 (show q_ins q_k304 147 = some (.invokevirtual 167, 192, 1) from rfl) zy_192 (by decide) ⟨zq_lt (by decide), by decide⟩ rfl (by simp [Value.category]) (by simp [lg_sl, Value.category]) (zt_rcv zc_163) (zt_dm (by decide) (S_M_wrongs hca12)) ?_
  refine zt_pop zy_304 (show q_ins q_k304 150 = some (.pop, 0, 0) from rfl) rfl ?_
  exact zt_wk (zt_cov_cons rfl (zt_cov_nil)) (S_M_reads_151  _ _ h)
theorem S_M_reads_124 {X : q_X}   : ∀  (σ : zt_S) (o : (Unit × zt_S)), F_M_reads_124   σ = some o → zt_Ex X 6 304 124 [(0, .ref 163)] [] (zt_M σ) (zo_V o) := by
  intro  σ o  h
  unfold F_M_reads_124 at h
  refine zt_aload_n zy_304 (show q_ins q_k304 124 = some (.aload_n 0, 0, 0) from rfl) (v := 163) rfl ?_
  obtain ⟨a6, s7, hca6, h⟩ := zt_bdE h
  refine zt_callV (d := 5) zy_304 (show q_ins q_k304 125 = some (.invokevirtual 156, 193, 0) from rfl) zy_193 (by decide) ⟨zq_lt (by decide), by decide⟩ rfl (by simp [Value.category]) (by simp [lg_sl, Value.category]) (zt_rcv zc_163) (zt_dm (by decide) (S_M_isGood hca6)) ?_
  obtain ⟨hg, h⟩ := zt_ckE h
  refine zt_if_eq zy_304 (show q_ins q_k304 128 = some (.ifCond .eq 23, 151, 0) from rfl) (hg) (fun hc => ?_) (fun hc => ?_)
  · rw [if_pos hc] at h
    exact zt_wk (zt_cov_cons rfl (zt_cov_nil)) (S_M_reads_151  _ _ h)
  · rw [if_neg hc] at h
    refine zt_aload_n zy_304 (show q_ins q_k304 131 = some (.aload_n 0, 0, 0) from rfl) (v := 163) rfl ?_
    obtain ⟨a10, s11, hca10, h⟩ := zt_bdE h
    refine zt_callV (d := 5) zy_304 (show q_ins q_k304 132 = some (.invokevirtual 449, 301, 0) from rfl) zy_301 (by decide) ⟨zq_lt (by decide), by decide⟩ rfl (by simp [Value.category]) (by simp [lg_sl, Value.category]) (zt_rcv zc_163) (zt_dm (by decide) (S_M_isInside hca10)) ?_
    obtain ⟨hg, h⟩ := zt_ckE h
    refine zt_if_ne zy_304 (show q_ins q_k304 135 = some (.ifCond .ne 10, 145, 0) from rfl) (hg) (fun hc => ?_) (fun hc => ?_)
    · rw [if_pos hc] at h
      refine zt_aload_n zy_304 (show q_ins q_k304 138 = some (.aload_n 0, 0, 0) from rfl) (v := 163) rfl ?_
      refine zt_getI zy_304 (show q_ins q_k304 139 = some (.getfield 134, 11, 13) from rfl) (j := 13) zk_163_13 rfl ?_
      obtain ⟨hg, h⟩ := zt_ckE h
      refine zt_if_eq zy_304 (show q_ins q_k304 142 = some (.ifCond .eq 9, 151, 0) from rfl) (hg) (fun hc => ?_) (fun hc => ?_)
      · rw [if_pos hc] at h
        exact zt_wk (zt_cov_cons rfl (zt_cov_nil)) (S_M_reads_151  _ _ h)
      · rw [if_neg hc] at h
        exact zt_wk (zt_cov_cons rfl (zt_cov_nil)) (S_M_reads_145  _ _ h)
    · rw [if_neg hc] at h
      exact zt_wk (zt_cov_cons rfl (zt_cov_nil)) (S_M_reads_145  _ _ h)
theorem S_M_reads_81 {X : q_X}   {r20 : Int → zt_S → Option (Unit × zt_S)} (hr20 : ∀ (v1 : Int) (σ : zt_S) (o : (Unit × zt_S)), r20 v1 σ = some o → zt_Ex X 6 304 20 [(0, .ref 163), (1, .int (Int32.ofInt v1))] [] (zt_M σ) (zo_V o)) : ∀ (v2 : Int) (x0 : Int) (σ : zt_S) (o : (Unit × zt_S)), F_M_reads_81  r20 v2 x0 σ = some o → zt_Ex X 6 304 81 [(0, .ref 163), (2, .int (Int32.ofInt v2))] [.int (Int32.ofInt x0)] (zt_M σ) (zo_V o) := by
  intro v2 x0 σ o  h
  unfold F_M_reads_81 at h
  refine zt_istore_n zy_304 (show q_ins q_k304 81 = some (.istore_n 1, 0, 0) from rfl) (by decide) ?_
  refine zt_iload_n zy_304 (show q_ins q_k304 82 = some (.iload_n 1, 0, 0) from rfl) (v := Int32.ofInt x0) rfl ?_
  obtain ⟨hg, h⟩ := zt_ckE h
  refine zt_if_ne zy_304 (show q_ins q_k304 83 = some (.ifCond .ne 6, 89, 0) from rfl) (hg) (fun hc => ?_) (fun hc => ?_)
  · rw [if_pos hc] at h
    refine zt_goto zy_304 (show q_ins q_k304 86 = some (.goto (-66), 20, 0) from rfl) ?_
    exact zt_wk (zt_cov_cons rfl (zt_cov_cons rfl (zt_cov_nil))) (hr20 _ _ _ h)
  · rw [if_neg hc] at h
    refine zt_aload_n zy_304 (show q_ins q_k304 89 = some (.aload_n 0, 0, 0) from rfl) (v := 163) rfl ?_
    refine zt_iload_n zy_304 (show q_ins q_k304 90 = some (.iload_n 2, 0, 0) from rfl) (v := Int32.ofInt v2) rfl ?_
    obtain ⟨a24, s25, hca24, h⟩ := zt_bdE h
    refine zt_callS (d := 5) zy_304 (show q_ins q_k304 91 = some (.invokestatic 435, 299, 1) from rfl) zy_299 (by decide) ⟨zq_lt (by decide), by decide⟩ rfl (by simp [Value.category]) (by simp [lg_sl, Value.category]) rfl (zt_dm (by decide) (S_M_strength hca24)) ?_
    obtain ⟨a26, s27, hca26, h⟩ := zt_bdE h
    refine zt_callV (d := 5) zy_304 (show q_ins q_k304 94 = some (.invokevirtual 446, 300, 1) from rfl) zy_300 (by decide) ⟨zq_lt (by decide), by decide⟩ rfl (by simp [Value.category]) (by simp [lg_sl, Value.category]) (zt_rcv zc_163) (zt_dm (by decide) (S_M_settles hca26)) ?_
    refine zt_aload_n zy_304 (show q_ins q_k304 97 = some (.aload_n 0, 0, 0) from rfl) (v := 163) rfl ?_
    refine zt_getR zy_304 (show q_ins q_k304 98 = some (.getfield 72, 11, 33) from rfl) (r := 182) zk_163_33 ?_
    refine zt_aload_n zy_304 (show q_ins q_k304 101 = some (.aload_n 0, 0, 0) from rfl) (v := 163) rfl ?_
    refine zt_getI zy_304 (show q_ins q_k304 102 = some (.getfield 432, 11, 36) from rfl) (j := 36) zk_163_36 rfl ?_
    refine zt_iload_n zy_304 (show q_ins q_k304 105 = some (.iload_n 2, 0, 0) from rfl) (v := Int32.ofInt v2) rfl ?_
    obtain ⟨hg, h⟩ := zt_ckE h
    obtain ⟨s28, hs28, h⟩ := zt_letE h
    refine zt_ast zy_304 (show q_ins q_k304 106 = some (.iastore, 0, 0) from rfl) za_182 (by decide) hg ?_
    rw [← hs28]
    refine zt_aload_n zy_304 (show q_ins q_k304 107 = some (.aload_n 0, 0, 0) from rfl) (v := 163) rfl ?_
    refine zt_dup zy_304 (show q_ins q_k304 108 = some (.dup, 0, 0) from rfl) rfl ?_
    refine zt_getI zy_304 (show q_ins q_k304 109 = some (.getfield 432, 11, 36) from rfl) (j := 36) zk_163_36 rfl ?_
    refine zt_iconst zy_304 (show q_ins q_k304 112 = some (.iconst 1, 0, 0) from rfl) ?_
    refine zt_iadd zy_304 (show q_ins q_k304 113 = some (.iadd, 0, 0) from rfl) ?_
    obtain ⟨s29, hs29, h⟩ := zt_letE h
    refine zt_putI zy_304 (show q_ins q_k304 114 = some (.putfield 432, 11, 36) from rfl) (j := 36) zk_163_36 rfl rfl rfl ?_
    rw [← hs29]
    refine zt_aload_n zy_304 (show q_ins q_k304 117 = some (.aload_n 0, 0, 0) from rfl) (v := 163) rfl ?_
    obtain ⟨a30, s31, hca30, h⟩ := zt_bdE h
    refine zt_callV (d := 5) zy_304 (show q_ins q_k304 118 = some (.invokevirtual 153, 190, 0) from rfl) zy_190 (by decide) ⟨zq_lt (by decide), by decide⟩ rfl (by simp [Value.category]) (by simp [lg_sl, Value.category]) (zt_rcv zc_163) (zt_dm (by decide) (S_M_next hca30)) ?_
    refine zt_goto zy_304 (show q_ins q_k304 121 = some (.goto (-101), 20, 0) from rfl) ?_
    exact zt_wk (zt_cov_cons rfl (zt_cov_cons rfl (zt_cov_nil))) (hr20 _ _ _ h)
theorem S_M_reads_71 {X : q_X}   {r20 : Int → zt_S → Option (Unit × zt_S)} (hr20 : ∀ (v1 : Int) (σ : zt_S) (o : (Unit × zt_S)), r20 v1 σ = some o → zt_Ex X 6 304 20 [(0, .ref 163), (1, .int (Int32.ofInt v1))] [] (zt_M σ) (zo_V o)) : ∀ (x0 : Int) (σ : zt_S) (o : (Unit × zt_S)), F_M_reads_71  r20 x0 σ = some o → zt_Ex X 6 304 71 [(0, .ref 163)] [.int (Int32.ofInt x0)] (zt_M σ) (zo_V o) := by
  intro x0 σ o  h
  unfold F_M_reads_71 at h
  refine zt_istore_n zy_304 (show q_ins q_k304 71 = some (.istore_n 2, 0, 0) from rfl) (by decide) ?_
  refine zt_iload_n zy_304 (show q_ins q_k304 72 = some (.iload_n 2, 0, 0) from rfl) (v := Int32.ofInt x0) rfl ?_
  obtain ⟨hg, h⟩ := zt_ckE h
  refine zt_if_eq zy_304 (show q_ins q_k304 73 = some (.ifCond .eq 7, 80, 0) from rfl) (hg) (fun hc => ?_) (fun hc => ?_)
  · rw [if_pos hc] at h
    refine zt_iconst zy_304 (show q_ins q_k304 80 = some (.iconst 0, 0, 0) from rfl) ?_
    exact zt_wk (zt_cov_cons rfl (zt_cov_cons rfl (zt_cov_nil))) (S_M_reads_81  hr20 _ _ _ _ h)
  · rw [if_neg hc] at h
    refine zt_iconst zy_304 (show q_ins q_k304 76 = some (.iconst 1, 0, 0) from rfl) ?_
    refine zt_goto zy_304 (show q_ins q_k304 77 = some (.goto 4, 81, 0) from rfl) ?_
    exact zt_wk (zt_cov_cons rfl (zt_cov_cons rfl (zt_cov_nil))) (S_M_reads_81  hr20 _ _ _ _ h)
theorem S_M_reads_20 {X : q_X}   : ∀ (n : Nat) (v1 : Int) (σ : zt_S) (o : (Unit × zt_S)), F_M_reads_20  n v1 σ = some o → zt_Ex X 6 304 20 [(0, .ref 163), (1, .int (Int32.ofInt v1))] [] (zt_M σ) (zo_V o) := by
  intro n
  induction n with
  | zero => intro v1 σ o  h; cases h
  | succ n ih =>
  intro v1 σ o  h
  rw [F_M_reads_20] at h
  refine zt_iload_n zy_304 (show q_ins q_k304 20 = some (.iload_n 1, 0, 0) from rfl) (v := Int32.ofInt v1) rfl ?_
  obtain ⟨hg, h⟩ := zt_ckE h
  refine zt_if_eq zy_304 (show q_ins q_k304 21 = some (.ifCond .eq 103, 124, 0) from rfl) (hg) (fun hc => ?_) (fun hc => ?_)
  · rw [if_pos hc] at h
    exact zt_wk (zt_cov_cons rfl (zt_cov_nil)) (S_M_reads_124  _ _ h)
  · rw [if_neg hc] at h
    refine zt_aload_n zy_304 (show q_ins q_k304 24 = some (.aload_n 0, 0, 0) from rfl) (v := 163) rfl ?_
    obtain ⟨a14, s15, hca14, h⟩ := zt_bdE h
    refine zt_callV (d := 5) zy_304 (show q_ins q_k304 25 = some (.invokevirtual 452, 302, 0) from rfl) zy_302 (by decide) ⟨zq_lt (by decide), by decide⟩ rfl (by simp [Value.category]) (by simp [lg_sl, Value.category]) (zt_rcv zc_163) (zt_dm (by decide) (S_M_comparisonRead hca14)) ?_
    refine zt_aload_n zy_304 (show q_ins q_k304 28 = some (.aload_n 0, 0, 0) from rfl) (v := 163) rfl ?_
    obtain ⟨a16, s17, hca16, h⟩ := zt_bdE h
    refine zt_callV (d := 5) zy_304 (show q_ins q_k304 29 = some (.invokevirtual 156, 193, 0) from rfl) zy_193 (by decide) ⟨zq_lt (by decide), by decide⟩ rfl (by simp [Value.category]) (by simp [lg_sl, Value.category]) (zt_rcv zc_163) (zt_dm (by decide) (S_M_isGood hca16)) ?_
    obtain ⟨hg, h⟩ := zt_ckE h
    refine zt_if_ne zy_304 (show q_ins q_k304 32 = some (.ifCond .ne 4, 36, 0) from rfl) (hg) (fun hc => ?_) (fun hc => ?_)
    · rw [if_pos hc] at h
      cases h
      exact zt_ret zy_304 (show q_ins q_k304 35 = some (.return_, 0, 0) from rfl)
    · rw [if_neg hc] at h
      refine zt_aload_n zy_304 (show q_ins q_k304 36 = some (.aload_n 0, 0, 0) from rfl) (v := 163) rfl ?_
      obtain ⟨a18, s19, hca18, h⟩ := zt_bdE h
      refine zt_callV (d := 5) zy_304 (show q_ins q_k304 37 = some (.invokevirtual 455, 303, 0) from rfl) zy_303 (by decide) ⟨zq_lt (by decide), by decide⟩ rfl (by simp [Value.category]) (by simp [lg_sl, Value.category]) (zt_rcv zc_163) (zt_dm (by decide) (S_M_closes hca18)) ?_
      refine zt_aload_n zy_304 (show q_ins q_k304 40 = some (.aload_n 0, 0, 0) from rfl) (v := 163) rfl ?_
      refine zt_ldc2 zy_304 (show q_ins q_k304 41 = some (.ldc2_w 458, 0, 1111) from rfl) (v := (1111 : Int64)) (by decide) ?_
      obtain ⟨a20, s21, hca20, h⟩ := zt_bdE h
      refine zt_callV (d := 5) zy_304 (show q_ins q_k304 44 = some (.invokevirtual 160, 194, 1) from rfl) zy_194 (by decide) ⟨zq_lt (by decide), by decide⟩ rfl (by simp [Value.category]) (by simp [lg_sl, Value.category]) (zt_rcv zc_163) (zt_dm (by decide) (S_M_isWord hca20)) ?_
      obtain ⟨hg, h⟩ := zt_ckE h
      refine zt_if_eq zy_304 (show q_ins q_k304 47 = some (.ifCond .eq 8, 55, 0) from rfl) (hg) (fun hc => ?_) (fun hc => ?_)
      · rw [if_pos hc] at h
        refine zt_aload_n zy_304 (show q_ins q_k304 55 = some (.aload_n 0, 0, 0) from rfl) (v := 163) rfl ?_
        refine zt_ldc2 zy_304 (show q_ins q_k304 56 = some (.ldc2_w 460, 0, 423) from rfl) (v := (423 : Int64)) (by decide) ?_
        obtain ⟨a22, s23, hca22, h⟩ := zt_bdE h
        refine zt_callV (d := 5) zy_304 (show q_ins q_k304 59 = some (.invokevirtual 160, 194, 1) from rfl) zy_194 (by decide) ⟨zq_lt (by decide), by decide⟩ rfl (by simp [Value.category]) (by simp [lg_sl, Value.category]) (zt_rcv zc_163) (zt_dm (by decide) (S_M_isWord hca22)) ?_
        obtain ⟨hg, h⟩ := zt_ckE h
        refine zt_if_eq zy_304 (show q_ins q_k304 62 = some (.ifCond .eq 8, 70, 0) from rfl) (hg) (fun hc => ?_) (fun hc => ?_)
        · rw [if_pos hc] at h
          refine zt_iconst zy_304 (show q_ins q_k304 70 = some (.iconst 0, 0, 0) from rfl) ?_
          exact zt_wk (zt_cov_cons rfl (zt_cov_nil)) (S_M_reads_71  ih _ _ _ h)
        · rw [if_neg hc] at h
          refine zt_bipush zy_304 (show q_ins q_k304 65 = some (.bipush 25, 0, 0) from rfl) (by decide) ?_
          refine zt_goto zy_304 (show q_ins q_k304 67 = some (.goto 4, 71, 0) from rfl) ?_
          exact zt_wk (zt_cov_cons rfl (zt_cov_nil)) (S_M_reads_71  ih _ _ _ h)
      · rw [if_neg hc] at h
        refine zt_bipush zy_304 (show q_ins q_k304 50 = some (.bipush 24, 0, 0) from rfl) (by decide) ?_
        refine zt_goto zy_304 (show q_ins q_k304 52 = some (.goto 19, 71, 0) from rfl) ?_
        exact zt_wk (zt_cov_cons rfl (zt_cov_nil)) (S_M_reads_71  ih _ _ _ h)
theorem S_M_reads {X : q_X}    {σ : zt_S} {o : (Unit × zt_S)} (h : F_M_reads   σ = some o) : zt_Ex X 6 304 0 (lv_args 0 [.ref 163]) [] (zt_M σ) (zo_V o) := by
  unfold F_M_reads at h
  refine zt_aload_n zy_304 (show q_ins q_k304 0 = some (.aload_n 0, 0, 0) from rfl) (v := 163) rfl ?_
  refine zt_iconst zy_304 (show q_ins q_k304 1 = some (.iconst 0, 0, 0) from rfl) ?_
  obtain ⟨s1, hs1, h⟩ := zt_letE h
  refine zt_putI zy_304 (show q_ins q_k304 2 = some (.putfield 406, 11, 35) from rfl) (j := 35) zk_163_35 rfl rfl rfl ?_
  rw [← hs1]
  refine zt_aload_n zy_304 (show q_ins q_k304 5 = some (.aload_n 0, 0, 0) from rfl) (v := 163) rfl ?_
  refine zt_iconst zy_304 (show q_ins q_k304 6 = some (.iconst 0, 0, 0) from rfl) ?_
  obtain ⟨s2, hs2, h⟩ := zt_letE h
  refine zt_putI zy_304 (show q_ins q_k304 7 = some (.putfield 429, 11, 37) from rfl) (j := 37) zk_163_37 rfl rfl rfl ?_
  rw [← hs2]
  refine zt_aload_n zy_304 (show q_ins q_k304 10 = some (.aload_n 0, 0, 0) from rfl) (v := 163) rfl ?_
  refine zt_iconst zy_304 (show q_ins q_k304 11 = some (.iconst 0, 0, 0) from rfl) ?_
  obtain ⟨s3, hs3, h⟩ := zt_letE h
  refine zt_putI zy_304 (show q_ins q_k304 12 = some (.putfield 432, 11, 36) from rfl) (j := 36) zk_163_36 rfl rfl rfl ?_
  rw [← hs3]
  refine zt_aload_n zy_304 (show q_ins q_k304 15 = some (.aload_n 0, 0, 0) from rfl) (v := 163) rfl ?_
  obtain ⟨a4, s5, hca4, h⟩ := zt_bdE h
  refine zt_callV (d := 5) zy_304 (show q_ins q_k304 16 = some (.invokevirtual 156, 193, 0) from rfl) zy_193 (by decide) ⟨zq_lt (by decide), by decide⟩ rfl (by simp [Value.category]) (by simp [lg_sl, Value.category]) (zt_rcv zc_163) (zt_dm (by decide) (S_M_isGood hca4)) ?_
  refine zt_istore_n zy_304 (show q_ins q_k304 19 = some (.istore_n 1, 0, 0) from rfl) (by decide) ?_
  exact zt_wk (zt_cov_cons rfl (zt_cov_cons rfl (zt_cov_nil))) (S_M_reads_20  _ _ _ _ h)
theorem S_M_propertyOf_77 {X : q_X}   : ∀ (x0 : Int) (σ : zt_S) (o : (Int × zt_S)), F_M_propertyOf_77  x0 σ = some o → zt_Ex X 8 305 77 [] [.int (Int32.ofInt x0)] (zt_M σ) (zo_I o) := by
  intro x0 σ o  h
  unfold F_M_propertyOf_77 at h
  cases h
  exact zt_iret zy_305 (show q_ins q_k305 77 = some (.ireturn, 0, 0) from rfl)
theorem S_M_propertyOf_91 {X : q_X}   : ∀ (x0 : Int) (σ : zt_S) (o : (Int × zt_S)), F_M_propertyOf_91  x0 σ = some o → zt_Ex X 8 305 91 [] [.int (Int32.ofInt x0)] (zt_M σ) (zo_I o) := by
  intro x0 σ o  h
  unfold F_M_propertyOf_91 at h
  cases h
  exact zt_iret zy_305 (show q_ins q_k305 91 = some (.ireturn, 0, 0) from rfl)
theorem S_M_propertyOf_111 {X : q_X}   : ∀ (x0 : Int) (σ : zt_S) (o : (Int × zt_S)), F_M_propertyOf_111  x0 σ = some o → zt_Ex X 8 305 111 [] [.int (Int32.ofInt x0)] (zt_M σ) (zo_I o) := by
  intro x0 σ o  h
  unfold F_M_propertyOf_111 at h
  cases h
  exact zt_iret zy_305 (show q_ins q_k305 111 = some (.ireturn, 0, 0) from rfl)
theorem S_M_propertyOf_132 {X : q_X}   : ∀ (x0 : Int) (σ : zt_S) (o : (Int × zt_S)), F_M_propertyOf_132  x0 σ = some o → zt_Ex X 8 305 132 [] [.int (Int32.ofInt x0)] (zt_M σ) (zo_I o) := by
  intro x0 σ o  h
  unfold F_M_propertyOf_132 at h
  cases h
  exact zt_iret zy_305 (show q_ins q_k305 132 = some (.ireturn, 0, 0) from rfl)
theorem S_M_propertyOf {X : q_X}   {v1 : Int} {v2 : Int} {σ : zt_S} {o : (Int × zt_S)} (h : F_M_propertyOf  v1 v2 σ = some o) : zt_Ex X 8 305 0 (lv_args 0 [.ref 163, .int (Int32.ofInt v1), .int (Int32.ofInt v2)]) [] (zt_M σ) (zo_I o) := by
  unfold F_M_propertyOf at h
  refine zt_iload_n zy_305 (show q_ins q_k305 0 = some (.iload_n 1, 0, 0) from rfl) (v := Int32.ofInt v1) rfl ?_
  obtain ⟨hg, h⟩ := zt_ckE h
  by_cases hc0 : v1 = (0 : Int)
  · rw [if_pos hc0] at h
    refine zt_sw zy_305 (show q_ins q_k305 1 = some (.tableswitch 111 0 6 #[43, 45, 51, 57, 77, 91, 97], 0, 43) from rfl) hc0 (t := 44) (by decide) ?_
    refine zt_iload_n zy_305 (show q_ins q_k305 44 = some (.iload_n 2, 0, 0) from rfl) (v := Int32.ofInt v2) rfl ?_
    cases h
    exact zt_iret zy_305 (show q_ins q_k305 45 = some (.ireturn, 0, 0) from rfl)
  rw [if_neg hc0] at h
  by_cases hc1 : v1 = (1 : Int)
  · rw [if_pos hc1] at h
    refine zt_sw zy_305 (show q_ins q_k305 1 = some (.tableswitch 111 0 6 #[43, 45, 51, 57, 77, 91, 97], 0, 43) from rfl) hc1 (t := 46) (by decide) ?_
    refine zt_aload_n zy_305 (show q_ins q_k305 46 = some (.aload_n 0, 0, 0) from rfl) (v := 163) rfl ?_
    refine zt_iload_n zy_305 (show q_ins q_k305 47 = some (.iload_n 2, 0, 0) from rfl) (v := Int32.ofInt v2) rfl ?_
    obtain ⟨a1, s2, hca1, h⟩ := zt_bdE h
    refine zt_callV (d := 7) zy_305 (show q_ins q_k305 48 = some (.invokevirtual 257, 209, 1) from rfl) zy_209 (by decide) ⟨zq_lt (by decide), by decide⟩ rfl (by simp [Value.category]) (by simp [lg_sl, Value.category]) (zt_rcv zc_163) (zt_dm (by decide) (S_M_suitOf hca1)) ?_
    cases h
    exact zt_iret zy_305 (show q_ins q_k305 51 = some (.ireturn, 0, 0) from rfl)
  rw [if_neg hc1] at h
  by_cases hc2 : v1 = (2 : Int)
  · rw [if_pos hc2] at h
    refine zt_sw zy_305 (show q_ins q_k305 1 = some (.tableswitch 111 0 6 #[43, 45, 51, 57, 77, 91, 97], 0, 43) from rfl) hc2 (t := 52) (by decide) ?_
    refine zt_aload_n zy_305 (show q_ins q_k305 52 = some (.aload_n 0, 0, 0) from rfl) (v := 163) rfl ?_
    refine zt_iload_n zy_305 (show q_ins q_k305 53 = some (.iload_n 2, 0, 0) from rfl) (v := Int32.ofInt v2) rfl ?_
    obtain ⟨a3, s4, hca3, h⟩ := zt_bdE h
    refine zt_callV (d := 7) zy_305 (show q_ins q_k305 54 = some (.invokevirtual 260, 210, 1) from rfl) zy_210 (by decide) ⟨zq_lt (by decide), by decide⟩ rfl (by simp [Value.category]) (by simp [lg_sl, Value.category]) (zt_rcv zc_163) (zt_dm (by decide) (S_M_rankOf hca3)) ?_
    cases h
    exact zt_iret zy_305 (show q_ins q_k305 57 = some (.ireturn, 0, 0) from rfl)
  rw [if_neg hc2] at h
  by_cases hc3 : v1 = (3 : Int)
  · rw [if_pos hc3] at h
    refine zt_sw zy_305 (show q_ins q_k305 1 = some (.tableswitch 111 0 6 #[43, 45, 51, 57, 77, 91, 97], 0, 43) from rfl) hc3 (t := 58) (by decide) ?_
    refine zt_aload_n zy_305 (show q_ins q_k305 58 = some (.aload_n 0, 0, 0) from rfl) (v := 163) rfl ?_
    refine zt_iload_n zy_305 (show q_ins q_k305 59 = some (.iload_n 2, 0, 0) from rfl) (v := Int32.ofInt v2) rfl ?_
    obtain ⟨a5, s6, hca5, h⟩ := zt_bdE h
    refine zt_callV (d := 7) zy_305 (show q_ins q_k305 60 = some (.invokevirtual 275, 220, 1) from rfl) zy_220 (by decide) ⟨zq_lt (by decide), by decide⟩ rfl (by simp [Value.category]) (by simp [lg_sl, Value.category]) (zt_rcv zc_163) (zt_dm (by decide) (S_M_holderOf hca5)) ?_
    refine zt_iconst zy_305 (show q_ins q_k305 63 = some (.iconst (-1), 0, 0) from rfl) ?_
    obtain ⟨hg, h⟩ := zt_ckE h
    refine zt_icmp_ne zy_305 (show q_ins q_k305 64 = some (.if_icmp .ne 8, 72, 0) from rfl) (⟨hg, by decide⟩) (fun hc => ?_) (fun hc => ?_)
    · rw [if_pos hc] at h
      refine zt_bipush zy_305 (show q_ins q_k305 67 = some (.bipush 9, 0, 0) from rfl) (by decide) ?_
      refine zt_goto zy_305 (show q_ins q_k305 69 = some (.goto 8, 77, 0) from rfl) ?_
      exact zt_wk (zt_cov_nil) (S_M_propertyOf_77  _ _ _ h)
    · rw [if_neg hc] at h
      refine zt_aload_n zy_305 (show q_ins q_k305 72 = some (.aload_n 0, 0, 0) from rfl) (v := 163) rfl ?_
      refine zt_iload_n zy_305 (show q_ins q_k305 73 = some (.iload_n 2, 0, 0) from rfl) (v := Int32.ofInt v2) rfl ?_
      obtain ⟨a7, s8, hca7, h⟩ := zt_bdE h
      refine zt_callV (d := 7) zy_305 (show q_ins q_k305 74 = some (.invokevirtual 275, 220, 1) from rfl) zy_220 (by decide) ⟨zq_lt (by decide), by decide⟩ rfl (by simp [Value.category]) (by simp [lg_sl, Value.category]) (zt_rcv zc_163) (zt_dm (by decide) (S_M_holderOf hca7)) ?_
      exact zt_wk (zt_cov_nil) (S_M_propertyOf_77  _ _ _ h)
  rw [if_neg hc3] at h
  by_cases hc4 : v1 = (4 : Int)
  · rw [if_pos hc4] at h
    refine zt_sw zy_305 (show q_ins q_k305 1 = some (.tableswitch 111 0 6 #[43, 45, 51, 57, 77, 91, 97], 0, 43) from rfl) hc4 (t := 78) (by decide) ?_
    refine zt_aload_n zy_305 (show q_ins q_k305 78 = some (.aload_n 0, 0, 0) from rfl) (v := 163) rfl ?_
    refine zt_iload_n zy_305 (show q_ins q_k305 79 = some (.iload_n 2, 0, 0) from rfl) (v := Int32.ofInt v2) rfl ?_
    obtain ⟨a9, s10, hca9, h⟩ := zt_bdE h
    refine zt_callV (d := 7) zy_305 (show q_ins q_k305 80 = some (.invokevirtual 332, 255, 1) from rfl) zy_255 (by decide) ⟨zq_lt (by decide), by decide⟩ rfl (by simp [Value.category]) (by simp [lg_sl, Value.category]) (zt_rcv zc_163) (zt_dm (by decide) (S_M_wasPlayed hca9)) ?_
    obtain ⟨hg, h⟩ := zt_ckE h
    refine zt_if_eq zy_305 (show q_ins q_k305 83 = some (.ifCond .eq 7, 90, 0) from rfl) (hg) (fun hc => ?_) (fun hc => ?_)
    · rw [if_pos hc] at h
      refine zt_iconst zy_305 (show q_ins q_k305 90 = some (.iconst 0, 0, 0) from rfl) ?_
      exact zt_wk (zt_cov_nil) (S_M_propertyOf_91  _ _ _ h)
    · rw [if_neg hc] at h
      refine zt_iconst zy_305 (show q_ins q_k305 86 = some (.iconst 1, 0, 0) from rfl) ?_
      refine zt_goto zy_305 (show q_ins q_k305 87 = some (.goto 4, 91, 0) from rfl) ?_
      exact zt_wk (zt_cov_nil) (S_M_propertyOf_91  _ _ _ h)
  rw [if_neg hc4] at h
  by_cases hc5 : v1 = (5 : Int)
  · rw [if_pos hc5] at h
    refine zt_sw zy_305 (show q_ins q_k305 1 = some (.tableswitch 111 0 6 #[43, 45, 51, 57, 77, 91, 97], 0, 43) from rfl) hc5 (t := 92) (by decide) ?_
    refine zt_aload_n zy_305 (show q_ins q_k305 92 = some (.aload_n 0, 0, 0) from rfl) (v := 163) rfl ?_
    refine zt_iload_n zy_305 (show q_ins q_k305 93 = some (.iload_n 2, 0, 0) from rfl) (v := Int32.ofInt v2) rfl ?_
    obtain ⟨a11, s12, hca11, h⟩ := zt_bdE h
    refine zt_callV (d := 7) zy_305 (show q_ins q_k305 94 = some (.invokevirtual 269, 217, 1) from rfl) zy_217 (by decide) ⟨zq_lt (by decide), by decide⟩ rfl (by simp [Value.category]) (by simp [lg_sl, Value.category]) (zt_rcv zc_163) (zt_dm (by decide) (S_M_powerNow hca11)) ?_
    cases h
    exact zt_iret zy_305 (show q_ins q_k305 97 = some (.ireturn, 0, 0) from rfl)
  rw [if_neg hc5] at h
  by_cases hc6 : v1 = (6 : Int)
  · rw [if_pos hc6] at h
    refine zt_sw zy_305 (show q_ins q_k305 1 = some (.tableswitch 111 0 6 #[43, 45, 51, 57, 77, 91, 97], 0, 43) from rfl) hc6 (t := 98) (by decide) ?_
    refine zt_aload_n zy_305 (show q_ins q_k305 98 = some (.aload_n 0, 0, 0) from rfl) (v := 163) rfl ?_
    refine zt_iload_n zy_305 (show q_ins q_k305 99 = some (.iload_n 2, 0, 0) from rfl) (v := Int32.ofInt v2) rfl ?_
    obtain ⟨a13, s14, hca13, h⟩ := zt_bdE h
    refine zt_callV (d := 7) zy_305 (show q_ins q_k305 100 = some (.invokevirtual 325, 224, 1) from rfl) zy_224 (by decide) ⟨zq_lt (by decide), by decide⟩ rfl (by simp [Value.category]) (by simp [lg_sl, Value.category]) (zt_rcv zc_163) (zt_dm (by decide) (S_M_isLegalNow hca13)) ?_
    obtain ⟨hg, h⟩ := zt_ckE h
    refine zt_if_eq zy_305 (show q_ins q_k305 103 = some (.ifCond .eq 7, 110, 0) from rfl) (hg) (fun hc => ?_) (fun hc => ?_)
    · rw [if_pos hc] at h
      refine zt_iconst zy_305 (show q_ins q_k305 110 = some (.iconst 0, 0, 0) from rfl) ?_
      exact zt_wk (zt_cov_nil) (S_M_propertyOf_111  _ _ _ h)
    · rw [if_neg hc] at h
      refine zt_iconst zy_305 (show q_ins q_k305 106 = some (.iconst 1, 0, 0) from rfl) ?_
      refine zt_goto zy_305 (show q_ins q_k305 107 = some (.goto 4, 111, 0) from rfl) ?_
      exact zt_wk (zt_cov_nil) (S_M_propertyOf_111  _ _ _ h)
  rw [if_neg hc6] at h
  refine zt_sw0 zy_305 (show q_ins q_k305 1 = some (.tableswitch 111 0 6 #[43, 45, 51, 57, 77, 91, 97], 0, 43) from rfl) (hg) (by omega) (t := 112) (by decide) ?_
  refine zt_aload_n zy_305 (show q_ins q_k305 112 = some (.aload_n 0, 0, 0) from rfl) (v := 163) rfl ?_
  refine zt_iload_n zy_305 (show q_ins q_k305 113 = some (.iload_n 2, 0, 0) from rfl) (v := Int32.ofInt v2) rfl ?_
  obtain ⟨a15, s16, hca15, h⟩ := zt_bdE h
  refine zt_callV (d := 7) zy_305 (show q_ins q_k305 114 = some (.invokevirtual 257, 209, 1) from rfl) zy_209 (by decide) ⟨zq_lt (by decide), by decide⟩ rfl (by simp [Value.category]) (by simp [lg_sl, Value.category]) (zt_rcv zc_163) (zt_dm (by decide) (S_M_suitOf hca15)) ?_
  refine zt_aload_n zy_305 (show q_ins q_k305 117 = some (.aload_n 0, 0, 0) from rfl) (v := 163) rfl ?_
  refine zt_getR zy_305 (show q_ins q_k305 118 = some (.getfield 13, 11, 1) from rfl) (r := 164) zk_163_1 ?_
  refine zt_bipush zy_305 (show q_ins q_k305 121 = some (.bipush 10, 0, 0) from rfl) (by decide) ?_
  refine zt_ald zy_305 (show q_ins q_k305 123 = some (.iaload, 0, 0) from rfl) za_164 (by decide) (by decide) ?_
  obtain ⟨hg, h⟩ := zt_ckE h
  refine zt_icmp_ne zy_305 (show q_ins q_k305 124 = some (.if_icmp .ne 7, 131, 0) from rfl) (⟨hg.1, hg.2⟩) (fun hc => ?_) (fun hc => ?_)
  · rw [if_pos hc] at h
    refine zt_iconst zy_305 (show q_ins q_k305 127 = some (.iconst 1, 0, 0) from rfl) ?_
    refine zt_goto zy_305 (show q_ins q_k305 128 = some (.goto 4, 132, 0) from rfl) ?_
    exact zt_wk (zt_cov_nil) (S_M_propertyOf_132  _ _ _ h)
  · rw [if_neg hc] at h
    refine zt_iconst zy_305 (show q_ins q_k305 131 = some (.iconst 0, 0, 0) from rfl) ?_
    exact zt_wk (zt_cov_nil) (S_M_propertyOf_132  _ _ _ h)
theorem S_M_joined_46 {X : q_X}   : ∀ (x0 : Int) (σ : zt_S) (o : (Int × zt_S)), F_M_joined_46  x0 σ = some o → zt_Ex X 0 306 46 [] [.int (Int32.ofInt x0)] (zt_M σ) (zo_I o) := by
  intro x0 σ o  h
  unfold F_M_joined_46 at h
  obtain ⟨hg, h⟩ := zt_ckE h
  cases h
  exact zt_zret zy_306 (show q_ins q_k306 46 = some (.ireturn, 0, 0) from rfl) hg
theorem S_M_joined_57 {X : q_X}   : ∀ (x0 : Int) (σ : zt_S) (o : (Int × zt_S)), F_M_joined_57  x0 σ = some o → zt_Ex X 0 306 57 [] [.int (Int32.ofInt x0)] (zt_M σ) (zo_I o) := by
  intro x0 σ o  h
  unfold F_M_joined_57 at h
  obtain ⟨hg, h⟩ := zt_ckE h
  cases h
  exact zt_zret zy_306 (show q_ins q_k306 57 = some (.ireturn, 0, 0) from rfl) hg
theorem S_M_joined_68 {X : q_X}   : ∀ (x0 : Int) (σ : zt_S) (o : (Int × zt_S)), F_M_joined_68  x0 σ = some o → zt_Ex X 0 306 68 [] [.int (Int32.ofInt x0)] (zt_M σ) (zo_I o) := by
  intro x0 σ o  h
  unfold F_M_joined_68 at h
  obtain ⟨hg, h⟩ := zt_ckE h
  cases h
  exact zt_zret zy_306 (show q_ins q_k306 68 = some (.ireturn, 0, 0) from rfl) hg
theorem S_M_joined_93 {X : q_X}   : ∀ (x0 : Int) (σ : zt_S) (o : (Int × zt_S)), F_M_joined_93  x0 σ = some o → zt_Ex X 0 306 93 [] [.int (Int32.ofInt x0)] (zt_M σ) (zo_I o) := by
  intro x0 σ o  h
  unfold F_M_joined_93 at h
  obtain ⟨hg, h⟩ := zt_ckE h
  cases h
  exact zt_zret zy_306 (show q_ins q_k306 93 = some (.ireturn, 0, 0) from rfl) hg
theorem S_M_joined_81 {X : q_X}   : ∀ (x0 : Int) (σ : zt_S) (o : (Int × zt_S)), F_M_joined_81  x0 σ = some o → zt_Ex X 0 306 81 [] [.int (Int32.ofInt x0)] (zt_M σ) (zo_I o) := by
  intro x0 σ o  h
  unfold F_M_joined_81 at h
  obtain ⟨hg, h⟩ := zt_ckE h
  cases h
  exact zt_zret zy_306 (show q_ins q_k306 81 = some (.ireturn, 0, 0) from rfl) hg
theorem S_M_joined {X : q_X}   {v0 : Int} {v1 : Int} {v2 : Int} {σ : zt_S} {o : (Int × zt_S)} (h : F_M_joined  v0 v1 v2 σ = some o) : zt_Ex X 0 306 0 (lv_args 0 [.int (Int32.ofInt v0), .int (Int32.ofInt v1), .int (Int32.ofInt v2)]) [] (zt_M σ) (zo_I o) := by
  unfold F_M_joined at h
  refine zt_iload_n zy_306 (show q_ins q_k306 0 = some (.iload_n 0, 0, 0) from rfl) (v := Int32.ofInt v0) rfl ?_
  obtain ⟨hg, h⟩ := zt_ckE h
  by_cases hc20 : v0 = (20 : Int)
  · rw [if_pos hc20] at h
    refine zt_sw zy_306 (show q_ins q_k306 1 = some (.tableswitch 81 20 24 #[35, 46, 57, 81, 68], 0, 35) from rfl) hc20 (t := 36) (by decide) ?_
    refine zt_iload_n zy_306 (show q_ins q_k306 36 = some (.iload_n 1, 0, 0) from rfl) (v := Int32.ofInt v1) rfl ?_
    refine zt_iload_n zy_306 (show q_ins q_k306 37 = some (.iload_n 2, 0, 0) from rfl) (v := Int32.ofInt v2) rfl ?_
    obtain ⟨hg, h⟩ := zt_ckE h
    refine zt_icmp_ge zy_306 (show q_ins q_k306 38 = some (.if_icmp .ge 7, 45, 0) from rfl) (⟨hg.1, hg.2⟩) (fun hc => ?_) (fun hc => ?_)
    · rw [if_pos hc] at h
      refine zt_iconst zy_306 (show q_ins q_k306 41 = some (.iconst 1, 0, 0) from rfl) ?_
      refine zt_goto zy_306 (show q_ins q_k306 42 = some (.goto 4, 46, 0) from rfl) ?_
      exact zt_wk (zt_cov_nil) (S_M_joined_46  _ _ _ h)
    · rw [if_neg hc] at h
      refine zt_iconst zy_306 (show q_ins q_k306 45 = some (.iconst 0, 0, 0) from rfl) ?_
      exact zt_wk (zt_cov_nil) (S_M_joined_46  _ _ _ h)
  rw [if_neg hc20] at h
  by_cases hc21 : v0 = (21 : Int)
  · rw [if_pos hc21] at h
    refine zt_sw zy_306 (show q_ins q_k306 1 = some (.tableswitch 81 20 24 #[35, 46, 57, 81, 68], 0, 35) from rfl) hc21 (t := 47) (by decide) ?_
    refine zt_iload_n zy_306 (show q_ins q_k306 47 = some (.iload_n 1, 0, 0) from rfl) (v := Int32.ofInt v1) rfl ?_
    refine zt_iload_n zy_306 (show q_ins q_k306 48 = some (.iload_n 2, 0, 0) from rfl) (v := Int32.ofInt v2) rfl ?_
    obtain ⟨hg, h⟩ := zt_ckE h
    refine zt_icmp_ne zy_306 (show q_ins q_k306 49 = some (.if_icmp .ne 7, 56, 0) from rfl) (⟨hg.1, hg.2⟩) (fun hc => ?_) (fun hc => ?_)
    · rw [if_pos hc] at h
      refine zt_iconst zy_306 (show q_ins q_k306 52 = some (.iconst 1, 0, 0) from rfl) ?_
      refine zt_goto zy_306 (show q_ins q_k306 53 = some (.goto 4, 57, 0) from rfl) ?_
      exact zt_wk (zt_cov_nil) (S_M_joined_57  _ _ _ h)
    · rw [if_neg hc] at h
      refine zt_iconst zy_306 (show q_ins q_k306 56 = some (.iconst 0, 0, 0) from rfl) ?_
      exact zt_wk (zt_cov_nil) (S_M_joined_57  _ _ _ h)
  rw [if_neg hc21] at h
  by_cases hc22 : v0 = (22 : Int)
  · rw [if_pos hc22] at h
    refine zt_sw zy_306 (show q_ins q_k306 1 = some (.tableswitch 81 20 24 #[35, 46, 57, 81, 68], 0, 35) from rfl) hc22 (t := 58) (by decide) ?_
    refine zt_iload_n zy_306 (show q_ins q_k306 58 = some (.iload_n 1, 0, 0) from rfl) (v := Int32.ofInt v1) rfl ?_
    refine zt_iload_n zy_306 (show q_ins q_k306 59 = some (.iload_n 2, 0, 0) from rfl) (v := Int32.ofInt v2) rfl ?_
    obtain ⟨hg, h⟩ := zt_ckE h
    refine zt_icmp_le zy_306 (show q_ins q_k306 60 = some (.if_icmp .le 7, 67, 0) from rfl) (⟨hg.1, hg.2⟩) (fun hc => ?_) (fun hc => ?_)
    · rw [if_pos hc] at h
      refine zt_iconst zy_306 (show q_ins q_k306 63 = some (.iconst 1, 0, 0) from rfl) ?_
      refine zt_goto zy_306 (show q_ins q_k306 64 = some (.goto 4, 68, 0) from rfl) ?_
      exact zt_wk (zt_cov_nil) (S_M_joined_68  _ _ _ h)
    · rw [if_neg hc] at h
      refine zt_iconst zy_306 (show q_ins q_k306 67 = some (.iconst 0, 0, 0) from rfl) ?_
      exact zt_wk (zt_cov_nil) (S_M_joined_68  _ _ _ h)
  rw [if_neg hc22] at h
  by_cases hc23 : v0 = (23 : Int)
  · rw [if_pos hc23] at h
    refine zt_sw zy_306 (show q_ins q_k306 1 = some (.tableswitch 81 20 24 #[35, 46, 57, 81, 68], 0, 35) from rfl) hc23 (t := 82) (by decide) ?_
    refine zt_iload_n zy_306 (show q_ins q_k306 82 = some (.iload_n 1, 0, 0) from rfl) (v := Int32.ofInt v1) rfl ?_
    refine zt_iload_n zy_306 (show q_ins q_k306 83 = some (.iload_n 2, 0, 0) from rfl) (v := Int32.ofInt v2) rfl ?_
    refine zt_iadd zy_306 (show q_ins q_k306 84 = some (.iadd, 0, 0) from rfl) ?_
    obtain ⟨hg, h⟩ := zt_ckE h
    refine zt_if_le zy_306 (show q_ins q_k306 85 = some (.ifCond .le 7, 92, 0) from rfl) (hg) (fun hc => ?_) (fun hc => ?_)
    · rw [if_pos hc] at h
      refine zt_iconst zy_306 (show q_ins q_k306 88 = some (.iconst 1, 0, 0) from rfl) ?_
      refine zt_goto zy_306 (show q_ins q_k306 89 = some (.goto 4, 93, 0) from rfl) ?_
      exact zt_wk (zt_cov_nil) (S_M_joined_93  _ _ _ h)
    · rw [if_neg hc] at h
      refine zt_iconst zy_306 (show q_ins q_k306 92 = some (.iconst 0, 0, 0) from rfl) ?_
      exact zt_wk (zt_cov_nil) (S_M_joined_93  _ _ _ h)
  rw [if_neg hc23] at h
  by_cases hc24 : v0 = (24 : Int)
  · rw [if_pos hc24] at h
    refine zt_sw zy_306 (show q_ins q_k306 1 = some (.tableswitch 81 20 24 #[35, 46, 57, 81, 68], 0, 35) from rfl) hc24 (t := 69) (by decide) ?_
    refine zt_iload_n zy_306 (show q_ins q_k306 69 = some (.iload_n 1, 0, 0) from rfl) (v := Int32.ofInt v1) rfl ?_
    refine zt_iload_n zy_306 (show q_ins q_k306 70 = some (.iload_n 2, 0, 0) from rfl) (v := Int32.ofInt v2) rfl ?_
    refine zt_iadd zy_306 (show q_ins q_k306 71 = some (.iadd, 0, 0) from rfl) ?_
    refine zt_iconst zy_306 (show q_ins q_k306 72 = some (.iconst 2, 0, 0) from rfl) ?_
    obtain ⟨hg, h⟩ := zt_ckE h
    refine zt_icmp_ne zy_306 (show q_ins q_k306 73 = some (.if_icmp .ne 7, 80, 0) from rfl) (⟨hg, by decide⟩) (fun hc => ?_) (fun hc => ?_)
    · rw [if_pos hc] at h
      refine zt_iconst zy_306 (show q_ins q_k306 76 = some (.iconst 1, 0, 0) from rfl) ?_
      refine zt_goto zy_306 (show q_ins q_k306 77 = some (.goto 4, 81, 0) from rfl) ?_
      exact zt_wk (zt_cov_nil) (S_M_joined_81  _ _ _ h)
    · rw [if_neg hc] at h
      refine zt_iconst zy_306 (show q_ins q_k306 80 = some (.iconst 0, 0, 0) from rfl) ?_
      exact zt_wk (zt_cov_nil) (S_M_joined_81  _ _ _ h)
  rw [if_neg hc24] at h
  refine zt_sw0 zy_306 (show q_ins q_k306 1 = some (.tableswitch 81 20 24 #[35, 46, 57, 81, 68], 0, 35) from rfl) (hg) (by omega) (t := 82) (by decide) ?_
  refine zt_iload_n zy_306 (show q_ins q_k306 82 = some (.iload_n 1, 0, 0) from rfl) (v := Int32.ofInt v1) rfl ?_
  refine zt_iload_n zy_306 (show q_ins q_k306 83 = some (.iload_n 2, 0, 0) from rfl) (v := Int32.ofInt v2) rfl ?_
  refine zt_iadd zy_306 (show q_ins q_k306 84 = some (.iadd, 0, 0) from rfl) ?_
  obtain ⟨hg, h⟩ := zt_ckE h
  refine zt_if_le zy_306 (show q_ins q_k306 85 = some (.ifCond .le 7, 92, 0) from rfl) (hg) (fun hc => ?_) (fun hc => ?_)
  · rw [if_pos hc] at h
    refine zt_iconst zy_306 (show q_ins q_k306 88 = some (.iconst 1, 0, 0) from rfl) ?_
    refine zt_goto zy_306 (show q_ins q_k306 89 = some (.goto 4, 93, 0) from rfl) ?_
    exact zt_wk (zt_cov_nil) (S_M_joined_93  _ _ _ h)
  · rw [if_neg hc] at h
    refine zt_iconst zy_306 (show q_ins q_k306 92 = some (.iconst 0, 0, 0) from rfl) ?_
    exact zt_wk (zt_cov_nil) (S_M_joined_93  _ _ _ h)
theorem S_M_holds_135 {X : q_X}   {r4 : Int → Int → Int → zt_S → Option (Int × zt_S)} (hr4 : ∀ (v1 : Int) (v2 : Int) (v3 : Int) (σ : zt_S) (o : (Int × zt_S)), r4 v1 v2 v3 σ = some o → zt_Ex X 9 307 4 [(0, .ref 163), (1, .int (Int32.ofInt v1)), (2, .int (Int32.ofInt v2)), (3, .int (Int32.ofInt v3))] [] (zt_M σ) (zo_I o)) : ∀ (v1 : Int) (v2 : Int) (v3 : Int) (σ : zt_S) (o : (Int × zt_S)), F_M_holds_135  r4 v1 v2 v3 σ = some o → zt_Ex X 9 307 135 [(0, .ref 163), (1, .int (Int32.ofInt v1)), (2, .int (Int32.ofInt v2)), (3, .int (Int32.ofInt v3))] [] (zt_M σ) (zo_I o) := by
  intro v1 v2 v3 σ o  h
  unfold F_M_holds_135 at h
  refine zt_iinc zy_307 (show q_ins q_k307 135 = some (.iinc 3 1, 0, 0) from rfl) (v := v3) (by decide) rfl ?_
  refine zt_goto zy_307 (show q_ins q_k307 138 = some (.goto (-134), 4, 0) from rfl) ?_
  exact zt_wk (zt_cov_cons rfl (zt_cov_cons rfl (zt_cov_cons rfl (zt_cov_cons rfl (zt_cov_nil))))) (hr4 _ _ _ _ _ h)
theorem S_M_holds_131 {X : q_X}   {r4 : Int → Int → Int → zt_S → Option (Int × zt_S)} (hr4 : ∀ (v1 : Int) (v2 : Int) (v3 : Int) (σ : zt_S) (o : (Int × zt_S)), r4 v1 v2 v3 σ = some o → zt_Ex X 9 307 4 [(0, .ref 163), (1, .int (Int32.ofInt v1)), (2, .int (Int32.ofInt v2)), (3, .int (Int32.ofInt v3))] [] (zt_M σ) (zo_I o)) : ∀ (v1 : Int) (v2 : Int) (v3 : Int) (x0 : Int) (x1 : Int) (σ : zt_S) (o : (Int × zt_S)), F_M_holds_131  r4 v1 v2 v3 x0 x1 σ = some o → zt_Ex X 9 307 131 [(0, .ref 163), (1, .int (Int32.ofInt v1)), (2, .int (Int32.ofInt v2)), (3, .int (Int32.ofInt v3))] [.int (Int32.ofInt x0), .int (Int32.ofInt x1), .ref 183] (zt_M σ) (zo_I o) := by
  intro v1 v2 v3 x0 x1 σ o  h
  unfold F_M_holds_131 at h
  obtain ⟨hg, h⟩ := zt_ckE h
  obtain ⟨s6, hs6, h⟩ := zt_letE h
  refine zt_ast zy_307 (show q_ins q_k307 131 = some (.iastore, 0, 0) from rfl) za_183 (by decide) hg ?_
  rw [← hs6]
  refine zt_iinc zy_307 (show q_ins q_k307 132 = some (.iinc 2 1, 0, 0) from rfl) (v := v2) (by decide) rfl ?_
  exact zt_wk (zt_cov_cons rfl (zt_cov_cons rfl (zt_cov_cons rfl (zt_cov_cons rfl (zt_cov_nil))))) (S_M_holds_135  hr4 _ _ _ _ _ h)
theorem S_M_holds_100 {X : q_X}   {r4 : Int → Int → Int → zt_S → Option (Int × zt_S)} (hr4 : ∀ (v1 : Int) (v2 : Int) (v3 : Int) (σ : zt_S) (o : (Int × zt_S)), r4 v1 v2 v3 σ = some o → zt_Ex X 9 307 4 [(0, .ref 163), (1, .int (Int32.ofInt v1)), (2, .int (Int32.ofInt v2)), (3, .int (Int32.ofInt v3))] [] (zt_M σ) (zo_I o)) : ∀ (v1 : Int) (v2 : Int) (v3 : Int) (x0 : Int) (x1 : Int) (σ : zt_S) (o : (Int × zt_S)), F_M_holds_100  r4 v1 v2 v3 x0 x1 σ = some o → zt_Ex X 9 307 100 [(0, .ref 163), (1, .int (Int32.ofInt v1)), (2, .int (Int32.ofInt v2)), (3, .int (Int32.ofInt v3))] [.int (Int32.ofInt x0), .int (Int32.ofInt x1), .ref 183] (zt_M σ) (zo_I o) := by
  intro v1 v2 v3 x0 x1 σ o  h
  unfold F_M_holds_100 at h
  obtain ⟨hg, h⟩ := zt_ckE h
  obtain ⟨s9, hs9, h⟩ := zt_letE h
  refine zt_ast zy_307 (show q_ins q_k307 100 = some (.iastore, 0, 0) from rfl) za_183 (by decide) hg ?_
  rw [← hs9]
  refine zt_goto zy_307 (show q_ins q_k307 101 = some (.goto 34, 135, 0) from rfl) ?_
  exact zt_wk (zt_cov_cons rfl (zt_cov_cons rfl (zt_cov_cons rfl (zt_cov_cons rfl (zt_cov_nil))))) (S_M_holds_135  hr4 _ _ _ _ _ h)
theorem S_M_holds_156 {X : q_X}   : ∀ (x0 : Int) (σ : zt_S) (o : (Int × zt_S)), F_M_holds_156  x0 σ = some o → zt_Ex X 9 307 156 [] [.int (Int32.ofInt x0)] (zt_M σ) (zo_I o) := by
  intro x0 σ o  h
  unfold F_M_holds_156 at h
  obtain ⟨hg, h⟩ := zt_ckE h
  cases h
  exact zt_zret zy_307 (show q_ins q_k307 156 = some (.ireturn, 0, 0) from rfl) hg
theorem S_M_holds_141 {X : q_X}   : ∀  (σ : zt_S) (o : (Int × zt_S)), F_M_holds_141   σ = some o → zt_Ex X 9 307 141 [(0, .ref 163)] [] (zt_M σ) (zo_I o) := by
  intro  σ o  h
  unfold F_M_holds_141 at h
  refine zt_aload_n zy_307 (show q_ins q_k307 141 = some (.aload_n 0, 0, 0) from rfl) (v := 163) rfl ?_
  refine zt_getR zy_307 (show q_ins q_k307 142 = some (.getfield 75, 11, 34) from rfl) (r := 183) zk_163_34 ?_
  refine zt_iconst zy_307 (show q_ins q_k307 145 = some (.iconst 0, 0, 0) from rfl) ?_
  refine zt_ald zy_307 (show q_ins q_k307 146 = some (.iaload, 0, 0) from rfl) za_183 (by decide) (by decide) ?_
  refine zt_iconst zy_307 (show q_ins q_k307 147 = some (.iconst 1, 0, 0) from rfl) ?_
  obtain ⟨hg, h⟩ := zt_ckE h
  refine zt_icmp_ne zy_307 (show q_ins q_k307 148 = some (.if_icmp .ne 7, 155, 0) from rfl) (⟨hg, by decide⟩) (fun hc => ?_) (fun hc => ?_)
  · rw [if_pos hc] at h
    refine zt_iconst zy_307 (show q_ins q_k307 151 = some (.iconst 1, 0, 0) from rfl) ?_
    refine zt_goto zy_307 (show q_ins q_k307 152 = some (.goto 4, 156, 0) from rfl) ?_
    exact zt_wk (zt_cov_nil) (S_M_holds_156  _ _ _ h)
  · rw [if_neg hc] at h
    refine zt_iconst zy_307 (show q_ins q_k307 155 = some (.iconst 0, 0, 0) from rfl) ?_
    exact zt_wk (zt_cov_nil) (S_M_holds_156  _ _ _ h)
theorem S_M_holds_4 {X : q_X}   : ∀ (n : Nat) (v1 : Int) (v2 : Int) (v3 : Int) (σ : zt_S) (o : (Int × zt_S)), F_M_holds_4  n v1 v2 v3 σ = some o → zt_Ex X 9 307 4 [(0, .ref 163), (1, .int (Int32.ofInt v1)), (2, .int (Int32.ofInt v2)), (3, .int (Int32.ofInt v3))] [] (zt_M σ) (zo_I o) := by
  intro n
  induction n with
  | zero => intro v1 v2 v3 σ o  h; cases h
  | succ n ih =>
  intro v1 v2 v3 σ o  h
  rw [F_M_holds_4] at h
  refine zt_iload_n zy_307 (show q_ins q_k307 4 = some (.iload_n 3, 0, 0) from rfl) (v := Int32.ofInt v3) rfl ?_
  refine zt_aload_n zy_307 (show q_ins q_k307 5 = some (.aload_n 0, 0, 0) from rfl) (v := 163) rfl ?_
  refine zt_getI zy_307 (show q_ins q_k307 6 = some (.getfield 406, 11, 35) from rfl) (j := 35) zk_163_35 rfl ?_
  obtain ⟨hg, h⟩ := zt_ckE h
  refine zt_icmp_ge zy_307 (show q_ins q_k307 9 = some (.if_icmp .ge 132, 141, 0) from rfl) (⟨hg.1, hg.2⟩) (fun hc => ?_) (fun hc => ?_)
  · rw [if_pos hc] at h
    refine zt_aload_n zy_307 (show q_ins q_k307 12 = some (.aload_n 0, 0, 0) from rfl) (v := 163) rfl ?_
    refine zt_getR zy_307 (show q_ins q_k307 13 = some (.getfield 69, 11, 32) from rfl) (r := 181) zk_163_32 ?_
    refine zt_iload_n zy_307 (show q_ins q_k307 16 = some (.iload_n 3, 0, 0) from rfl) (v := Int32.ofInt v3) rfl ?_
    obtain ⟨hg, h⟩ := zt_ckE h
    refine zt_ald zy_307 (show q_ins q_k307 17 = some (.iaload, 0, 0) from rfl) za_181 (by decide) hg ?_
    refine zt_istore zy_307 (show q_ins q_k307 18 = some (.istore 4, 0, 0) from rfl) (by decide) ?_
    refine zt_iload zy_307 (show q_ins q_k307 20 = some (.iload 4, 0, 0) from rfl) (v := Int32.ofInt (σ.1 181 v3)) rfl ?_
    refine zt_bipush zy_307 (show q_ins q_k307 22 = some (.bipush 23, 0, 0) from rfl) (by decide) ?_
    obtain ⟨hg, h⟩ := zt_ckE h
    refine zt_icmp_ne zy_307 (show q_ins q_k307 24 = some (.if_icmp .ne 24, 48, 0) from rfl) (⟨hg, by decide⟩) (fun hc => ?_) (fun hc => ?_)
    · rw [if_pos hc] at h
      refine zt_aload_n zy_307 (show q_ins q_k307 27 = some (.aload_n 0, 0, 0) from rfl) (v := 163) rfl ?_
      refine zt_getR zy_307 (show q_ins q_k307 28 = some (.getfield 75, 11, 34) from rfl) (r := 183) zk_163_34 ?_
      refine zt_iload_n zy_307 (show q_ins q_k307 31 = some (.iload_n 2, 0, 0) from rfl) (v := Int32.ofInt v2) rfl ?_
      refine zt_iconst zy_307 (show q_ins q_k307 32 = some (.iconst 1, 0, 0) from rfl) ?_
      refine zt_isub zy_307 (show q_ins q_k307 33 = some (.isub, 0, 0) from rfl) ?_
      refine zt_iconst zy_307 (show q_ins q_k307 34 = some (.iconst 1, 0, 0) from rfl) ?_
      refine zt_aload_n zy_307 (show q_ins q_k307 35 = some (.aload_n 0, 0, 0) from rfl) (v := 163) rfl ?_
      refine zt_getR zy_307 (show q_ins q_k307 36 = some (.getfield 75, 11, 34) from rfl) (r := 183) zk_163_34 ?_
      refine zt_iload_n zy_307 (show q_ins q_k307 39 = some (.iload_n 2, 0, 0) from rfl) (v := Int32.ofInt v2) rfl ?_
      refine zt_iconst zy_307 (show q_ins q_k307 40 = some (.iconst 1, 0, 0) from rfl) ?_
      refine zt_isub zy_307 (show q_ins q_k307 41 = some (.isub, 0, 0) from rfl) ?_
      obtain ⟨hg, h⟩ := zt_ckE h
      refine zt_ald zy_307 (show q_ins q_k307 42 = some (.iaload, 0, 0) from rfl) za_183 (by decide) hg ?_
      refine zt_isub zy_307 (show q_ins q_k307 43 = some (.isub, 0, 0) from rfl) ?_
      obtain ⟨hg, h⟩ := zt_ckE h
      obtain ⟨s1, hs1, h⟩ := zt_letE h
      refine zt_ast zy_307 (show q_ins q_k307 44 = some (.iastore, 0, 0) from rfl) za_183 (by decide) hg ?_
      rw [← hs1]
      refine zt_goto zy_307 (show q_ins q_k307 45 = some (.goto 90, 135, 0) from rfl) ?_
      exact zt_wk (zt_cov_cons rfl (zt_cov_cons rfl (zt_cov_cons rfl (zt_cov_cons rfl (zt_cov_nil))))) (S_M_holds_135  ih _ _ _ _ _ h)
    · rw [if_neg hc] at h
      refine zt_iload zy_307 (show q_ins q_k307 48 = some (.iload 4, 0, 0) from rfl) (v := Int32.ofInt (σ.1 181 v3)) rfl ?_
      refine zt_i2l zy_307 (show q_ins q_k307 50 = some (.i2l, 0, 0) from rfl) ?_
      refine zt_ldc2 zy_307 (show q_ins q_k307 51 = some (.ldc2_w 462, 0, 20) from rfl) (v := (20 : Int64)) (by decide) ?_
      refine zt_ldc2 zy_307 (show q_ins q_k307 54 = some (.ldc2_w 464, 0, 25) from rfl) (v := (25 : Int64)) (by decide) ?_
      obtain ⟨a2, s3, hca2, h⟩ := zt_bdE h
      refine zt_callS (d := 8) zy_307 (show q_ins q_k307 57 = some (.invokestatic 170, 171, 3) from rfl) zy_171 (by decide) ⟨zq_lt (by decide), by decide⟩ rfl (by simp [Value.category]) (by simp [lg_sl, Value.category]) rfl (zt_dm (by decide) (S_M_in hca2)) ?_
      obtain ⟨hg, h⟩ := zt_ckE h
      refine zt_if_eq zy_307 (show q_ins q_k307 60 = some (.ifCond .eq 44, 104, 0) from rfl) (hg) (fun hc => ?_) (fun hc => ?_)
      · rw [if_pos hc] at h
        refine zt_aload_n zy_307 (show q_ins q_k307 104 = some (.aload_n 0, 0, 0) from rfl) (v := 163) rfl ?_
        refine zt_getR zy_307 (show q_ins q_k307 105 = some (.getfield 75, 11, 34) from rfl) (r := 183) zk_163_34 ?_
        refine zt_iload_n zy_307 (show q_ins q_k307 108 = some (.iload_n 2, 0, 0) from rfl) (v := Int32.ofInt v2) rfl ?_
        refine zt_iload zy_307 (show q_ins q_k307 109 = some (.iload 4, 0, 0) from rfl) (v := Int32.ofInt (σ.1 181 v3)) rfl ?_
        refine zt_bipush zy_307 (show q_ins q_k307 111 = some (.bipush 100, 0, 0) from rfl) (by decide) ?_
        obtain ⟨hg, h⟩ := zt_ckE h
        refine zt_icmp_lt zy_307 (show q_ins q_k307 113 = some (.if_icmp .lt 11, 124, 0) from rfl) (⟨hg, by decide⟩) (fun hc => ?_) (fun hc => ?_)
        · rw [if_pos hc] at h
          refine zt_aload_n zy_307 (show q_ins q_k307 124 = some (.aload_n 0, 0, 0) from rfl) (v := 163) rfl ?_
          refine zt_iload zy_307 (show q_ins q_k307 125 = some (.iload 4, 0, 0) from rfl) (v := Int32.ofInt (σ.1 181 v3)) rfl ?_
          refine zt_iload_n zy_307 (show q_ins q_k307 127 = some (.iload_n 1, 0, 0) from rfl) (v := Int32.ofInt v1) rfl ?_
          obtain ⟨a4, s5, hca4, h⟩ := zt_bdE h
          refine zt_callV (d := 8) zy_307 (show q_ins q_k307 128 = some (.invokevirtual 470, 305, 2) from rfl) zy_305 (by decide) ⟨zq_lt (by decide), by decide⟩ rfl (by simp [Value.category]) (by simp [lg_sl, Value.category]) (zt_rcv zc_163) (zt_dm (by decide) (S_M_propertyOf hca4)) ?_
          exact zt_wk (zt_cov_cons rfl (zt_cov_cons rfl (zt_cov_cons rfl (zt_cov_cons rfl (zt_cov_nil))))) (S_M_holds_131  ih _ _ _ _ _ _ _ h)
        · rw [if_neg hc] at h
          refine zt_iload zy_307 (show q_ins q_k307 116 = some (.iload 4, 0, 0) from rfl) (v := Int32.ofInt (σ.1 181 v3)) rfl ?_
          refine zt_bipush zy_307 (show q_ins q_k307 118 = some (.bipush 100, 0, 0) from rfl) (by decide) ?_
          refine zt_isub zy_307 (show q_ins q_k307 120 = some (.isub, 0, 0) from rfl) ?_
          refine zt_goto zy_307 (show q_ins q_k307 121 = some (.goto 10, 131, 0) from rfl) ?_
          exact zt_wk (zt_cov_cons rfl (zt_cov_cons rfl (zt_cov_cons rfl (zt_cov_cons rfl (zt_cov_nil))))) (S_M_holds_131  ih _ _ _ _ _ _ _ h)
      · rw [if_neg hc] at h
        refine zt_iinc zy_307 (show q_ins q_k307 63 = some (.iinc 2 (-1), 0, 0) from rfl) (v := v2) (by decide) rfl ?_
        refine zt_aload_n zy_307 (show q_ins q_k307 66 = some (.aload_n 0, 0, 0) from rfl) (v := 163) rfl ?_
        refine zt_getR zy_307 (show q_ins q_k307 67 = some (.getfield 75, 11, 34) from rfl) (r := 183) zk_163_34 ?_
        refine zt_iload_n zy_307 (show q_ins q_k307 70 = some (.iload_n 2, 0, 0) from rfl) (v := Int32.ofInt (v2 + (-1 : Int))) rfl ?_
        refine zt_iconst zy_307 (show q_ins q_k307 71 = some (.iconst 1, 0, 0) from rfl) ?_
        refine zt_isub zy_307 (show q_ins q_k307 72 = some (.isub, 0, 0) from rfl) ?_
        refine zt_iload zy_307 (show q_ins q_k307 73 = some (.iload 4, 0, 0) from rfl) (v := Int32.ofInt (σ.1 181 v3)) rfl ?_
        refine zt_aload_n zy_307 (show q_ins q_k307 75 = some (.aload_n 0, 0, 0) from rfl) (v := 163) rfl ?_
        refine zt_getR zy_307 (show q_ins q_k307 76 = some (.getfield 75, 11, 34) from rfl) (r := 183) zk_163_34 ?_
        refine zt_iload_n zy_307 (show q_ins q_k307 79 = some (.iload_n 2, 0, 0) from rfl) (v := Int32.ofInt (v2 + (-1 : Int))) rfl ?_
        refine zt_iconst zy_307 (show q_ins q_k307 80 = some (.iconst 1, 0, 0) from rfl) ?_
        refine zt_isub zy_307 (show q_ins q_k307 81 = some (.isub, 0, 0) from rfl) ?_
        obtain ⟨hg, h⟩ := zt_ckE h
        refine zt_ald zy_307 (show q_ins q_k307 82 = some (.iaload, 0, 0) from rfl) za_183 (by decide) hg ?_
        refine zt_aload_n zy_307 (show q_ins q_k307 83 = some (.aload_n 0, 0, 0) from rfl) (v := 163) rfl ?_
        refine zt_getR zy_307 (show q_ins q_k307 84 = some (.getfield 75, 11, 34) from rfl) (r := 183) zk_163_34 ?_
        refine zt_iload_n zy_307 (show q_ins q_k307 87 = some (.iload_n 2, 0, 0) from rfl) (v := Int32.ofInt (v2 + (-1 : Int))) rfl ?_
        obtain ⟨hg, h⟩ := zt_ckE h
        refine zt_ald zy_307 (show q_ins q_k307 88 = some (.iaload, 0, 0) from rfl) za_183 (by decide) hg ?_
        obtain ⟨a7, s8, hca7, h⟩ := zt_bdE h
        refine zt_callS (d := 8) zy_307 (show q_ins q_k307 89 = some (.invokestatic 466, 306, 3) from rfl) zy_306 (by decide) ⟨zq_lt (by decide), by decide⟩ rfl (by simp [Value.category]) (by simp [lg_sl, Value.category]) rfl (zt_dm (by decide) (S_M_joined hca7)) ?_
        obtain ⟨hg, h⟩ := zt_ckE h
        refine zt_if_eq zy_307 (show q_ins q_k307 92 = some (.ifCond .eq 7, 99, 0) from rfl) (hg) (fun hc => ?_) (fun hc => ?_)
        · rw [if_pos hc] at h
          refine zt_iconst zy_307 (show q_ins q_k307 99 = some (.iconst 0, 0, 0) from rfl) ?_
          exact zt_wk (zt_cov_cons rfl (zt_cov_cons rfl (zt_cov_cons rfl (zt_cov_cons rfl (zt_cov_nil))))) (S_M_holds_100  ih _ _ _ _ _ _ _ h)
        · rw [if_neg hc] at h
          refine zt_iconst zy_307 (show q_ins q_k307 95 = some (.iconst 1, 0, 0) from rfl) ?_
          refine zt_goto zy_307 (show q_ins q_k307 96 = some (.goto 4, 100, 0) from rfl) ?_
          exact zt_wk (zt_cov_cons rfl (zt_cov_cons rfl (zt_cov_cons rfl (zt_cov_cons rfl (zt_cov_nil))))) (S_M_holds_100  ih _ _ _ _ _ _ _ h)
  · rw [if_neg hc] at h
    exact zt_wk (zt_cov_cons rfl (zt_cov_nil)) (S_M_holds_141  _ _ h)
theorem S_M_holds {X : q_X}   {v1 : Int} {σ : zt_S} {o : (Int × zt_S)} (h : F_M_holds  v1 σ = some o) : zt_Ex X 9 307 0 (lv_args 0 [.ref 163, .int (Int32.ofInt v1)]) [] (zt_M σ) (zo_I o) := by
  unfold F_M_holds at h
  refine zt_iconst zy_307 (show q_ins q_k307 0 = some (.iconst 0, 0, 0) from rfl) ?_
  refine zt_istore_n zy_307 (show q_ins q_k307 1 = some (.istore_n 2, 0, 0) from rfl) (by decide) ?_
  refine zt_iconst zy_307 (show q_ins q_k307 2 = some (.iconst 0, 0, 0) from rfl) ?_
  refine zt_istore_n zy_307 (show q_ins q_k307 3 = some (.istore_n 3, 0, 0) from rfl) (by decide) ?_
  exact zt_wk (zt_cov_cons rfl (zt_cov_cons rfl (zt_cov_cons rfl (zt_cov_cons rfl (zt_cov_nil))))) (S_M_holds_4  _ _ _ _ _ _ h)
theorem S_M_query_121 {X : q_X}   {r90 : Int → Int → Int → zt_S → Option (Int × zt_S)} (hr90 : ∀ (v2 : Int) (v3 : Int) (v4 : Int) (σ : zt_S) (o : (Int × zt_S)), r90 v2 v3 v4 σ = some o → zt_Ex X 10 308 90 [(0, .ref 163), (2, .int (Int32.ofInt v2)), (3, .int (Int32.ofInt v3)), (4, .int (Int32.ofInt v4))] [] (zt_M σ) (zo_I o)) : ∀ (v2 : Int) (v3 : Int) (v4 : Int) (σ : zt_S) (o : (Int × zt_S)), F_M_query_121  r90 v2 v3 v4 σ = some o → zt_Ex X 10 308 121 [(0, .ref 163), (2, .int (Int32.ofInt v2)), (3, .int (Int32.ofInt v3)), (4, .int (Int32.ofInt v4))] [] (zt_M σ) (zo_I o) := by
  intro v2 v3 v4 σ o  h
  unfold F_M_query_121 at h
  refine zt_iinc zy_308 (show q_ins q_k308 121 = some (.iinc 4 1, 0, 0) from rfl) (v := v4) (by decide) rfl ?_
  refine zt_goto zy_308 (show q_ins q_k308 124 = some (.goto (-34), 90, 0) from rfl) ?_
  exact zt_wk (zt_cov_cons rfl (zt_cov_cons rfl (zt_cov_cons rfl (zt_cov_cons rfl (zt_cov_nil))))) (hr90 _ _ _ _ _ h)
theorem S_M_query_136 {X : q_X}   : ∀ (x0 : Int) (σ : zt_S) (o : (Int × zt_S)), F_M_query_136  x0 σ = some o → zt_Ex X 10 308 136 [] [.int (Int32.ofInt x0)] (zt_M σ) (zo_I o) := by
  intro x0 σ o  h
  unfold F_M_query_136 at h
  cases h
  exact zt_iret zy_308 (show q_ins q_k308 136 = some (.ireturn, 0, 0) from rfl)
theorem S_M_query_127 {X : q_X}   : ∀ (v2 : Int) (v3 : Int) (σ : zt_S) (o : (Int × zt_S)), F_M_query_127  v2 v3 σ = some o → zt_Ex X 10 308 127 [(2, .int (Int32.ofInt v2)), (3, .int (Int32.ofInt v3))] [] (zt_M σ) (zo_I o) := by
  intro v2 v3 σ o  h
  unfold F_M_query_127 at h
  refine zt_iload_n zy_308 (show q_ins q_k308 127 = some (.iload_n 2, 0, 0) from rfl) (v := Int32.ofInt v2) rfl ?_
  obtain ⟨hg, h⟩ := zt_ckE h
  refine zt_if_eq zy_308 (show q_ins q_k308 128 = some (.ifCond .eq 7, 135, 0) from rfl) (hg) (fun hc => ?_) (fun hc => ?_)
  · rw [if_pos hc] at h
    refine zt_iload_n zy_308 (show q_ins q_k308 135 = some (.iload_n 3, 0, 0) from rfl) (v := Int32.ofInt v3) rfl ?_
    exact zt_wk (zt_cov_nil) (S_M_query_136  _ _ _ h)
  · rw [if_neg hc] at h
    refine zt_iconst zy_308 (show q_ins q_k308 131 = some (.iconst (-1), 0, 0) from rfl) ?_
    refine zt_goto zy_308 (show q_ins q_k308 132 = some (.goto 4, 136, 0) from rfl) ?_
    exact zt_wk (zt_cov_nil) (S_M_query_136  _ _ _ h)
theorem S_M_query_90 {X : q_X}   : ∀ (n : Nat) (v2 : Int) (v3 : Int) (v4 : Int) (σ : zt_S) (o : (Int × zt_S)), F_M_query_90  n v2 v3 v4 σ = some o → zt_Ex X 10 308 90 [(0, .ref 163), (2, .int (Int32.ofInt v2)), (3, .int (Int32.ofInt v3)), (4, .int (Int32.ofInt v4))] [] (zt_M σ) (zo_I o) := by
  intro n
  induction n with
  | zero => intro v2 v3 v4 σ o  h; cases h
  | succ n ih =>
  intro v2 v3 v4 σ o  h
  rw [F_M_query_90] at h
  refine zt_iload zy_308 (show q_ins q_k308 90 = some (.iload 4, 0, 0) from rfl) (v := Int32.ofInt v4) rfl ?_
  refine zt_aload_n zy_308 (show q_ins q_k308 92 = some (.aload_n 0, 0, 0) from rfl) (v := 163) rfl ?_
  obtain ⟨a20, s21, hca20, h⟩ := zt_bdE h
  refine zt_callV (d := 9) zy_308 (show q_ins q_k308 93 = some (.invokevirtual 244, 207, 0) from rfl) zy_207 (by decide) ⟨zq_lt (by decide), by decide⟩ rfl (by simp [Value.category]) (by simp [lg_sl, Value.category]) (zt_rcv zc_163) (zt_dm (by decide) (S_M_cards hca20)) ?_
  obtain ⟨hg, h⟩ := zt_ckE h
  refine zt_icmp_ge zy_308 (show q_ins q_k308 96 = some (.if_icmp .ge 31, 127, 0) from rfl) (⟨hg.1, hg.2⟩) (fun hc => ?_) (fun hc => ?_)
  · rw [if_pos hc] at h
    refine zt_aload_n zy_308 (show q_ins q_k308 99 = some (.aload_n 0, 0, 0) from rfl) (v := 163) rfl ?_
    refine zt_iload zy_308 (show q_ins q_k308 100 = some (.iload 4, 0, 0) from rfl) (v := Int32.ofInt v4) rfl ?_
    obtain ⟨a22, s23, hca22, h⟩ := zt_bdE h
    refine zt_callV (d := 9) zy_308 (show q_ins q_k308 102 = some (.invokevirtual 481, 307, 1) from rfl) zy_307 (by decide) ⟨zq_lt (by decide), by decide⟩ rfl (by simp [Value.category]) (by simp [lg_sl, Value.category]) (zt_rcv zc_163) (zt_dm (by decide) (S_M_holds hca22)) ?_
    obtain ⟨hg, h⟩ := zt_ckE h
    refine zt_if_ne zy_308 (show q_ins q_k308 105 = some (.ifCond .ne 6, 111, 0) from rfl) (hg) (fun hc => ?_) (fun hc => ?_)
    · rw [if_pos hc] at h
      refine zt_goto zy_308 (show q_ins q_k308 108 = some (.goto 13, 121, 0) from rfl) ?_
      exact zt_wk (zt_cov_cons rfl (zt_cov_cons rfl (zt_cov_cons rfl (zt_cov_cons rfl (zt_cov_nil))))) (S_M_query_121  ih _ _ _ _ _ h)
    · rw [if_neg hc] at h
      refine zt_iload_n zy_308 (show q_ins q_k308 111 = some (.iload_n 2, 0, 0) from rfl) (v := Int32.ofInt v2) rfl ?_
      obtain ⟨hg, h⟩ := zt_ckE h
      refine zt_if_eq zy_308 (show q_ins q_k308 112 = some (.ifCond .eq 6, 118, 0) from rfl) (hg) (fun hc => ?_) (fun hc => ?_)
      · rw [if_pos hc] at h
        refine zt_iinc zy_308 (show q_ins q_k308 118 = some (.iinc 3 1, 0, 0) from rfl) (v := v3) (by decide) rfl ?_
        exact zt_wk (zt_cov_cons rfl (zt_cov_cons rfl (zt_cov_cons rfl (zt_cov_cons rfl (zt_cov_nil))))) (S_M_query_121  ih _ _ _ _ _ h)
      · rw [if_neg hc] at h
        refine zt_iload zy_308 (show q_ins q_k308 115 = some (.iload 4, 0, 0) from rfl) (v := Int32.ofInt v4) rfl ?_
        cases h
        exact zt_iret zy_308 (show q_ins q_k308 117 = some (.ireturn, 0, 0) from rfl)
  · rw [if_neg hc] at h
    exact zt_wk (zt_cov_cons rfl (zt_cov_cons rfl (zt_cov_nil))) (S_M_query_127  _ _ _ _ h)
theorem S_M_query_65 {X : q_X}   : ∀ (v2 : Int) (σ : zt_S) (o : (Int × zt_S)), F_M_query_65  v2 σ = some o → zt_Ex X 10 308 65 [(0, .ref 163), (2, .int (Int32.ofInt v2))] [] (zt_M σ) (zo_I o) := by
  intro v2 σ o  h
  unfold F_M_query_65 at h
  refine zt_aload_n zy_308 (show q_ins q_k308 65 = some (.aload_n 0, 0, 0) from rfl) (v := 163) rfl ?_
  obtain ⟨a16, s17, hca16, h⟩ := zt_bdE h
  refine zt_callV (d := 9) zy_308 (show q_ins q_k308 66 = some (.invokevirtual 477, 304, 0) from rfl) zy_304 (by decide) ⟨zq_lt (by decide), by decide⟩ rfl (by simp [Value.category]) (by simp [lg_sl, Value.category]) (zt_rcv zc_163) (zt_dm (by decide) (S_M_reads hca16)) ?_
  refine zt_aload_n zy_308 (show q_ins q_k308 69 = some (.aload_n 0, 0, 0) from rfl) (v := 163) rfl ?_
  obtain ⟨a18, s19, hca18, h⟩ := zt_bdE h
  refine zt_callV (d := 9) zy_308 (show q_ins q_k308 70 = some (.invokevirtual 156, 193, 0) from rfl) zy_193 (by decide) ⟨zq_lt (by decide), by decide⟩ rfl (by simp [Value.category]) (by simp [lg_sl, Value.category]) (zt_rcv zc_163) (zt_dm (by decide) (S_M_isGood hca18)) ?_
  obtain ⟨hg, h⟩ := zt_ckE h
  refine zt_if_ne zy_308 (show q_ins q_k308 73 = some (.ifCond .ne 12, 85, 0) from rfl) (hg) (fun hc => ?_) (fun hc => ?_)
  · rw [if_pos hc] at h
    refine zt_ldcw zy_308 (show q_ins q_k308 76 = some (.ldc_w 480, 0, 3294967296) from rfl) (n := (-1000000000 : Int)) rfl (by decide) ?_
    refine zt_aload_n zy_308 (show q_ins q_k308 79 = some (.aload_n 0, 0, 0) from rfl) (v := 163) rfl ?_
    refine zt_getI zy_308 (show q_ins q_k308 80 = some (.getfield 150, 11, 16) from rfl) (j := 16) zk_163_16 rfl ?_
    refine zt_isub zy_308 (show q_ins q_k308 83 = some (.isub, 0, 0) from rfl) ?_
    cases h
    exact zt_iret zy_308 (show q_ins q_k308 84 = some (.ireturn, 0, 0) from rfl)
  · rw [if_neg hc] at h
    refine zt_iconst zy_308 (show q_ins q_k308 85 = some (.iconst 0, 0, 0) from rfl) ?_
    refine zt_istore_n zy_308 (show q_ins q_k308 86 = some (.istore_n 3, 0, 0) from rfl) (by decide) ?_
    refine zt_iconst zy_308 (show q_ins q_k308 87 = some (.iconst 0, 0, 0) from rfl) ?_
    refine zt_istore zy_308 (show q_ins q_k308 88 = some (.istore 4, 0, 0) from rfl) (by decide) ?_
    exact zt_wk (zt_cov_cons rfl (zt_cov_cons rfl (zt_cov_cons rfl (zt_cov_cons rfl (zt_cov_nil))))) (S_M_query_90  _ _ _ _ _ _ h)
theorem S_M_query {X : q_X}   {v1 : Int} {σ : zt_S} {o : (Int × zt_S)} (h : F_M_query  v1 σ = some o) : zt_Ex X 10 308 0 (lv_args 0 [.ref 163, .int (Int32.ofInt v1)]) [] (zt_M σ) (zo_I o) := by
  unfold F_M_query at h
  refine zt_aload_n zy_308 (show q_ins q_k308 0 = some (.aload_n 0, 0, 0) from rfl) (v := 163) rfl ?_
  refine zt_iconst zy_308 (show q_ins q_k308 1 = some (.iconst 0, 0, 0) from rfl) ?_
  obtain ⟨s1, hs1, h⟩ := zt_letE h
  refine zt_putI zy_308 (show q_ins q_k308 2 = some (.putfield 1, 11, 0) from rfl) (j := 0) zk_163_0 rfl rfl rfl ?_
  rw [← hs1]
  refine zt_aload_n zy_308 (show q_ins q_k308 5 = some (.aload_n 0, 0, 0) from rfl) (v := 163) rfl ?_
  refine zt_iload_n zy_308 (show q_ins q_k308 6 = some (.iload_n 1, 0, 0) from rfl) (v := Int32.ofInt v1) rfl ?_
  refine zt_i2l zy_308 (show q_ins q_k308 7 = some (.i2l, 0, 0) from rfl) ?_
  refine zt_lconst zy_308 (show q_ins q_k308 8 = some (.lconst 0, 0, 0) from rfl) (v := (0 : Int64)) (by decide) ?_
  refine zt_aload_n zy_308 (show q_ins q_k308 9 = some (.aload_n 0, 0, 0) from rfl) (v := 163) rfl ?_
  refine zt_getI zy_308 (show q_ins q_k308 10 = some (.getfield 102, 11, 9) from rfl) (j := 9) zk_163_9 rfl ?_
  refine zt_sipush zy_308 (show q_ins q_k308 13 = some (.sipush 200, 0, 0) from rfl) (by decide) ?_
  obtain ⟨a2, s3, hca2, h⟩ := zt_bdE h
  refine zt_callS (d := 9) zy_308 (show q_ins q_k308 16 = some (.invokestatic 193, 172, 2) from rfl) zy_172 (by decide) ⟨zq_lt (by decide), by decide⟩ rfl (by simp [Value.category]) (by simp [lg_sl, Value.category]) rfl (zt_dm (by decide) (S_M_lesser hca2)) ?_
  refine zt_i2l zy_308 (show q_ins q_k308 19 = some (.i2l, 0, 0) from rfl) ?_
  obtain ⟨a4, s5, hca4, h⟩ := zt_bdE h
  refine zt_callS (d := 9) zy_308 (show q_ins q_k308 20 = some (.invokestatic 170, 171, 3) from rfl) zy_171 (by decide) ⟨zq_lt (by decide), by decide⟩ rfl (by simp [Value.category]) (by simp [lg_sl, Value.category]) rfl (zt_dm (by decide) (S_M_in hca4)) ?_
  refine zt_iconst zy_308 (show q_ins q_k308 23 = some (.iconst 1, 0, 0) from rfl) ?_
  obtain ⟨a6, s7, hca6, h⟩ := zt_bdE h
  refine zt_callV (d := 9) zy_308 (show q_ins q_k308 24 = some (.invokevirtual 227, 174, 2) from rfl) zy_174 (by decide) ⟨zq_lt (by decide), by decide⟩ rfl (by simp [Value.category]) (by simp [lg_sl, Value.category]) (zt_rcv zc_163) (zt_dm (by decide) (S_M_fails hca6)) ?_
  obtain ⟨hg, h⟩ := zt_ckE h
  refine zt_if_eq zy_308 (show q_ins q_k308 27 = some (.ifCond .eq 5, 32, 0) from rfl) (hg) (fun hc => ?_) (fun hc => ?_)
  · rw [if_pos hc] at h
    refine zt_aload_n zy_308 (show q_ins q_k308 32 = some (.aload_n 0, 0, 0) from rfl) (v := 163) rfl ?_
    refine zt_iload_n zy_308 (show q_ins q_k308 33 = some (.iload_n 1, 0, 0) from rfl) (v := Int32.ofInt v1) rfl ?_
    obtain ⟨a8, s9, hca8, h⟩ := zt_bdE h
    refine zt_callV (d := 9) zy_308 (show q_ins q_k308 34 = some (.invokevirtual 231, 191, 1) from rfl) zy_191 (by decide) ⟨zq_lt (by decide), by decide⟩ rfl (by simp [Value.category]) (by simp [lg_sl, Value.category]) (zt_rcv zc_163) (zt_dm (by decide) (S_M_starts hca8)) ?_
    refine zt_aload_n zy_308 (show q_ins q_k308 37 = some (.aload_n 0, 0, 0) from rfl) (v := 163) rfl ?_
    refine zt_ldc2 zy_308 (show q_ins q_k308 38 = some (.ldc2_w 473, 0, 3379448) from rfl) (v := (3379448 : Int64)) (by decide) ?_
    obtain ⟨a10, s11, hca10, h⟩ := zt_bdE h
    refine zt_callV (d := 9) zy_308 (show q_ins q_k308 41 = some (.invokevirtual 184, 195, 1) from rfl) zy_195 (by decide) ⟨zq_lt (by decide), by decide⟩ rfl (by simp [Value.category]) (by simp [lg_sl, Value.category]) (zt_rcv zc_163) (zt_dm (by decide) (S_M_passes hca10)) ?_
    refine zt_istore_n zy_308 (show q_ins q_k308 44 = some (.istore_n 2, 0, 0) from rfl) (by decide) ?_
    refine zt_iload_n zy_308 (show q_ins q_k308 45 = some (.iload_n 2, 0, 0) from rfl) (v := Int32.ofInt a10) rfl ?_
    obtain ⟨hg, h⟩ := zt_ckE h
    refine zt_if_ne zy_308 (show q_ins q_k308 46 = some (.ifCond .ne 19, 65, 0) from rfl) (hg) (fun hc => ?_) (fun hc => ?_)
    · rw [if_pos hc] at h
      refine zt_aload_n zy_308 (show q_ins q_k308 49 = some (.aload_n 0, 0, 0) from rfl) (v := 163) rfl ?_
      refine zt_ldc2 zy_308 (show q_ins q_k308 50 = some (.ldc2_w 475, 0, 257011) from rfl) (v := (257011 : Int64)) (by decide) ?_
      obtain ⟨a12, s13, hca12, h⟩ := zt_bdE h
      refine zt_callV (d := 9) zy_308 (show q_ins q_k308 53 = some (.invokevirtual 184, 195, 1) from rfl) zy_195 (by decide) ⟨zq_lt (by decide), by decide⟩ rfl (by simp [Value.category]) (by simp [lg_sl, Value.category]) (zt_rcv zc_163) (zt_dm (by decide) (S_M_passes hca12)) ?_
      obtain ⟨hg, h⟩ := zt_ckE h
      refine zt_if_ne zy_308 (show q_ins q_k308 56 = some (.ifCond .ne 9, 65, 0) from rfl) (hg) (fun hc => ?_) (fun hc => ?_)
      · rw [if_pos hc] at h
        refine zt_aload_n zy_308 (show q_ins q_k308 59 = some (.aload_n 0, 0, 0) from rfl) (v := 163) rfl ?_
        refine zt_iconst zy_308 (show q_ins q_k308 60 = some (.iconst 1, 0, 0) from rfl) ?_
        obtain ⟨a14, s15, hca14, h⟩ := zt_bdE h
        refine zt_callV (d := 9) zy_308 (show q_ins q_k308 61 = some (.invokevirtual 167, 192, 1) from rfl) zy_192 (by decide) ⟨zq_lt (by decide), by decide⟩ rfl (by simp [Value.category]) (by simp [lg_sl, Value.category]) (zt_rcv zc_163) (zt_dm (by decide) (S_M_wrongs hca14)) ?_
        refine zt_pop zy_308 (show q_ins q_k308 64 = some (.pop, 0, 0) from rfl) rfl ?_
        exact zt_wk (zt_cov_cons rfl (zt_cov_cons rfl (zt_cov_nil))) (S_M_query_65  _ _ _ h)
      · rw [if_neg hc] at h
        exact zt_wk (zt_cov_cons rfl (zt_cov_cons rfl (zt_cov_nil))) (S_M_query_65  _ _ _ h)
    · rw [if_neg hc] at h
      exact zt_wk (zt_cov_cons rfl (zt_cov_cons rfl (zt_cov_nil))) (S_M_query_65  _ _ _ h)
  · rw [if_neg hc] at h
    refine zt_iconst zy_308 (show q_ins q_k308 30 = some (.iconst 0, 0, 0) from rfl) ?_
    cases h
    exact zt_iret zy_308 (show q_ins q_k308 31 = some (.ireturn, 0, 0) from rfl)
