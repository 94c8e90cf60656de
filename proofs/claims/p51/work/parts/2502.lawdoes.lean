/-! the mini-machine does what the law's functions say (by program) -/
set_option maxRecDepth 100000 in
theorem S_P_acts_60 {X : q_X}   : ∀ (v2 : Int) (σ : zt_S) (T : zt_T) (o : (Int × zt_S × zt_T)), F_P_acts_60  v2 σ T = some o → zt_Ex X 6 177 60 [(0, .ref 0), (2, .int (Int32.ofInt v2))] [] (zt_M T σ) (zl_I o) := by
  intro v2 σ T o  h
  unfold F_P_acts_60 at h
  refine zt_aload_n zy_177 (show q_ins q_k177 60 = some (.aload_n 0, 0, 0) from rfl) (v := 0) rfl ?_
  refine zt_bipush zy_177 (show q_ins q_k177 61 = some (.bipush 9, 0, 0) from rfl) (by decide) ?_
  obtain ⟨a1, s2, hca1, h⟩ := zt_byE h
  refine zt_callV (d := 5) zy_177 (show q_ins q_k177 63 = some (.invokevirtual 86, 122, 1) from rfl) zy_122 (by decide) ⟨zq_lt (by decide), by decide⟩ rfl (by simp [Value.category]) (by simp [lg_sl, Value.category]) (zt_rcv zc_0) (zt_dm (by decide) (S_C_size hca1)) ?_
  refine zt_istore_n zy_177 (show q_ins q_k177 66 = some (.istore_n 3, 0, 0) from rfl) (by decide) ?_
  refine zt_iload_n zy_177 (show q_ins q_k177 67 = some (.iload_n 3, 0, 0) from rfl) (v := Int32.ofInt a1) rfl ?_
  obtain ⟨hg, h⟩ := zt_ckE h
  refine zt_if_ge zy_177 (show q_ins q_k177 68 = some (.ifCond .ge 12, 80, 0) from rfl) (hg) (fun hc => ?_) (fun hc => ?_)
  · rw [if_pos hc] at h
    refine zt_aload_n zy_177 (show q_ins q_k177 71 = some (.aload_n 0, 0, 0) from rfl) (v := 0) rfl ?_
    refine zt_iload_n zy_177 (show q_ins q_k177 72 = some (.iload_n 2, 0, 0) from rfl) (v := Int32.ofInt v2) rfl ?_
    refine zt_ldcI zy_177 (show q_ins q_k177 73 = some (.ldc 52, 0, 100000) from rfl) (n := (100000 : Int)) rfl (by decide) ?_
    obtain ⟨hg, h⟩ := zt_ckE h
    refine zt_irem zy_177 (show q_ins q_k177 75 = some (.irem, 0, 0) from rfl) hg (by decide) ?_
    obtain ⟨a3, s4, hca3, h⟩ := zt_byE h
    refine zt_callV (d := 5) zy_177 (show q_ins q_k177 76 = some (.invokevirtual 96, 155, 1) from rfl) zy_155 (by decide) ⟨zq_lt (by decide), by decide⟩ rfl (by simp [Value.category]) (by simp [lg_sl, Value.category]) (zt_rcv zc_0) (zt_dm (by decide) (S_C_deal hca3)) ?_
    cases h
    exact zt_iret zy_177 (show q_ins q_k177 79 = some (.ireturn, 0, 0) from rfl)
  · rw [if_neg hc] at h
    refine zt_aload_n zy_177 (show q_ins q_k177 80 = some (.aload_n 0, 0, 0) from rfl) (v := 0) rfl ?_
    refine zt_aload_n zy_177 (show q_ins q_k177 81 = some (.aload_n 0, 0, 0) from rfl) (v := 0) rfl ?_
    refine zt_iload_n zy_177 (show q_ins q_k177 82 = some (.iload_n 3, 0, 0) from rfl) (v := Int32.ofInt a1) rfl ?_
    refine zt_iload_n zy_177 (show q_ins q_k177 83 = some (.iload_n 2, 0, 0) from rfl) (v := Int32.ofInt v2) rfl ?_
    refine zt_aload_n zy_177 (show q_ins q_k177 84 = some (.aload_n 0, 0, 0) from rfl) (v := 0) rfl ?_
    refine zt_iload_n zy_177 (show q_ins q_k177 85 = some (.iload_n 3, 0, 0) from rfl) (v := Int32.ofInt a1) rfl ?_
    obtain ⟨a5, s6, hca5, h⟩ := zt_byE h
    refine zt_callV (d := 5) zy_177 (show q_ins q_k177 86 = some (.invokevirtual 99, 126, 1) from rfl) zy_126 (by decide) ⟨zq_lt (by decide), by decide⟩ rfl (by simp [Value.category]) (by simp [lg_sl, Value.category]) (zt_rcv zc_0) (zt_dm (by decide) (S_C_held hca5)) ?_
    obtain ⟨hg, h⟩ := zt_ckE h
    refine zt_irem zy_177 (show q_ins q_k177 89 = some (.irem, 0, 0) from rfl) hg.1 hg.2 ?_
    obtain ⟨a7, s8, hca7, h⟩ := zt_byE h
    refine zt_callV (d := 5) zy_177 (show q_ins q_k177 90 = some (.invokevirtual 102, 127, 2) from rfl) zy_127 (by decide) ⟨zq_lt (by decide), by decide⟩ rfl (by simp [Value.category]) (by simp [lg_sl, Value.category]) (zt_rcv zc_0) (zt_dm (by decide) (S_C_inHand hca7)) ?_
    obtain ⟨a9, s10, hca9, h⟩ := zt_byE h
    refine zt_callV (d := 5) zy_177 (show q_ins q_k177 93 = some (.invokevirtual 105, 152, 1) from rfl) zy_152 (by decide) ⟨zq_lt (by decide), by decide⟩ rfl (by simp [Value.category]) (by simp [lg_sl, Value.category]) (zt_rcv zc_0) (zt_dm (by decide) (S_C_play hca9)) ?_
    cases h
    exact zt_iret zy_177 (show q_ins q_k177 96 = some (.ireturn, 0, 0) from rfl)
set_option maxRecDepth 100000 in
theorem S_P_acts_97 {X : q_X}   : ∀ (v2 : Int) (σ : zt_S) (T : zt_T) (o : (Int × zt_S × zt_T)), F_P_acts_97  v2 σ T = some o → zt_Ex X 6 177 97 [(0, .ref 0), (2, .int (Int32.ofInt v2))] [] (zt_M T σ) (zl_I o) := by
  intro v2 σ T o  h
  unfold F_P_acts_97 at h
  refine zt_aload_n zy_177 (show q_ins q_k177 97 = some (.aload_n 0, 0, 0) from rfl) (v := 0) rfl ?_
  refine zt_iconst zy_177 (show q_ins q_k177 98 = some (.iconst 1, 0, 0) from rfl) ?_
  refine zt_iload_n zy_177 (show q_ins q_k177 99 = some (.iload_n 2, 0, 0) from rfl) (v := Int32.ofInt v2) rfl ?_
  refine zt_iconst zy_177 (show q_ins q_k177 100 = some (.iconst 3, 0, 0) from rfl) ?_
  obtain ⟨hg, h⟩ := zt_ckE h
  refine zt_irem zy_177 (show q_ins q_k177 101 = some (.irem, 0, 0) from rfl) hg (by decide) ?_
  refine zt_iadd zy_177 (show q_ins q_k177 102 = some (.iadd, 0, 0) from rfl) ?_
  obtain ⟨a11, s12, hca11, h⟩ := zt_byE h
  refine zt_callV (d := 5) zy_177 (show q_ins q_k177 103 = some (.invokevirtual 108, 153, 1) from rfl) zy_153 (by decide) ⟨zq_lt (by decide), by decide⟩ rfl (by simp [Value.category]) (by simp [lg_sl, Value.category]) (zt_rcv zc_0) (zt_dm (by decide) (S_C_auto hca11)) ?_
  cases h
  exact zt_iret zy_177 (show q_ins q_k177 106 = some (.ireturn, 0, 0) from rfl)
set_option maxRecDepth 100000 in
theorem S_P_acts_137 {X : q_X}   : ∀ (x0 : Int) (σ : zt_S) (T : zt_T) (o : (Int × zt_S × zt_T)), F_P_acts_137  x0 σ T = some o → zt_Ex X 6 177 137 [] [.int (Int32.ofInt x0)] (zt_M T σ) (zl_I o) := by
  intro x0 σ T o  h
  unfold F_P_acts_137 at h
  cases h
  exact zt_iret zy_177 (show q_ins q_k177 137 = some (.ireturn, 0, 0) from rfl)
set_option maxRecDepth 100000 in
theorem S_P_acts_107 {X : q_X}   : ∀ (v2 : Int) (σ : zt_S) (T : zt_T) (o : (Int × zt_S × zt_T)), F_P_acts_107  v2 σ T = some o → zt_Ex X 6 177 107 [(0, .ref 0), (2, .int (Int32.ofInt v2))] [] (zt_M T σ) (zl_I o) := by
  intro v2 σ T o  h
  unfold F_P_acts_107 at h
  refine zt_aload_n zy_177 (show q_ins q_k177 107 = some (.aload_n 0, 0, 0) from rfl) (v := 0) rfl ?_
  refine zt_bipush zy_177 (show q_ins q_k177 108 = some (.bipush 9, 0, 0) from rfl) (by decide) ?_
  obtain ⟨a13, s14, hca13, h⟩ := zt_byE h
  refine zt_callV (d := 5) zy_177 (show q_ins q_k177 110 = some (.invokevirtual 86, 122, 1) from rfl) zy_122 (by decide) ⟨zq_lt (by decide), by decide⟩ rfl (by simp [Value.category]) (by simp [lg_sl, Value.category]) (zt_rcv zc_0) (zt_dm (by decide) (S_C_size hca13)) ?_
  obtain ⟨hg, h⟩ := zt_ckE h
  refine zt_if_ge zy_177 (show q_ins q_k177 113 = some (.ifCond .ge 14, 127, 0) from rfl) (hg) (fun hc => ?_) (fun hc => ?_)
  · rw [if_pos hc] at h
    refine zt_aload_n zy_177 (show q_ins q_k177 116 = some (.aload_n 0, 0, 0) from rfl) (v := 0) rfl ?_
    refine zt_iload_n zy_177 (show q_ins q_k177 117 = some (.iload_n 2, 0, 0) from rfl) (v := Int32.ofInt v2) rfl ?_
    refine zt_ldcI zy_177 (show q_ins q_k177 118 = some (.ldc 52, 0, 100000) from rfl) (n := (100000 : Int)) rfl (by decide) ?_
    obtain ⟨hg, h⟩ := zt_ckE h
    refine zt_irem zy_177 (show q_ins q_k177 120 = some (.irem, 0, 0) from rfl) hg (by decide) ?_
    obtain ⟨a15, s16, hca15, h⟩ := zt_byE h
    refine zt_callV (d := 5) zy_177 (show q_ins q_k177 121 = some (.invokevirtual 96, 155, 1) from rfl) zy_155 (by decide) ⟨zq_lt (by decide), by decide⟩ rfl (by simp [Value.category]) (by simp [lg_sl, Value.category]) (zt_rcv zc_0) (zt_dm (by decide) (S_C_deal hca15)) ?_
    refine zt_goto zy_177 (show q_ins q_k177 124 = some (.goto 13, 137, 0) from rfl) ?_
    exact zt_wk (zt_cov_nil) (S_P_acts_137  _ _ _ _ h)
  · rw [if_neg hc] at h
    refine zt_aload_n zy_177 (show q_ins q_k177 127 = some (.aload_n 0, 0, 0) from rfl) (v := 0) rfl ?_
    refine zt_iconst zy_177 (show q_ins q_k177 128 = some (.iconst 1, 0, 0) from rfl) ?_
    refine zt_iload_n zy_177 (show q_ins q_k177 129 = some (.iload_n 2, 0, 0) from rfl) (v := Int32.ofInt v2) rfl ?_
    refine zt_bipush zy_177 (show q_ins q_k177 130 = some (.bipush 9, 0, 0) from rfl) (by decide) ?_
    obtain ⟨hg, h⟩ := zt_ckE h
    refine zt_irem zy_177 (show q_ins q_k177 132 = some (.irem, 0, 0) from rfl) hg (by decide) ?_
    refine zt_iadd zy_177 (show q_ins q_k177 133 = some (.iadd, 0, 0) from rfl) ?_
    obtain ⟨a17, s18, hca17, h⟩ := zt_byE h
    refine zt_callV (d := 5) zy_177 (show q_ins q_k177 134 = some (.invokevirtual 108, 153, 1) from rfl) zy_153 (by decide) ⟨zq_lt (by decide), by decide⟩ rfl (by simp [Value.category]) (by simp [lg_sl, Value.category]) (zt_rcv zc_0) (zt_dm (by decide) (S_C_auto hca17)) ?_
    exact zt_wk (zt_cov_nil) (S_P_acts_137  _ _ _ _ h)
set_option maxRecDepth 100000 in
theorem S_P_acts_138 {X : q_X}   : ∀ (v2 : Int) (σ : zt_S) (T : zt_T) (o : (Int × zt_S × zt_T)), F_P_acts_138  v2 σ T = some o → zt_Ex X 6 177 138 [(0, .ref 0), (2, .int (Int32.ofInt v2))] [] (zt_M T σ) (zl_I o) := by
  intro v2 σ T o  h
  unfold F_P_acts_138 at h
  refine zt_aload_n zy_177 (show q_ins q_k177 138 = some (.aload_n 0, 0, 0) from rfl) (v := 0) rfl ?_
  refine zt_iload_n zy_177 (show q_ins q_k177 139 = some (.iload_n 2, 0, 0) from rfl) (v := Int32.ofInt v2) rfl ?_
  refine zt_aload_n zy_177 (show q_ins q_k177 140 = some (.aload_n 0, 0, 0) from rfl) (v := 0) rfl ?_
  refine zt_iconst zy_177 (show q_ins q_k177 141 = some (.iconst 1, 0, 0) from rfl) ?_
  obtain ⟨a19, s20, hca19, h⟩ := zt_byE h
  refine zt_callV (d := 5) zy_177 (show q_ins q_k177 142 = some (.invokevirtual 86, 122, 1) from rfl) zy_122 (by decide) ⟨zq_lt (by decide), by decide⟩ rfl (by simp [Value.category]) (by simp [lg_sl, Value.category]) (zt_rcv zc_0) (zt_dm (by decide) (S_C_size hca19)) ?_
  obtain ⟨hg, h⟩ := zt_ckE h
  refine zt_irem zy_177 (show q_ins q_k177 145 = some (.irem, 0, 0) from rfl) hg.1 hg.2 ?_
  refine zt_iload_n zy_177 (show q_ins q_k177 146 = some (.iload_n 2, 0, 0) from rfl) (v := Int32.ofInt v2) rfl ?_
  refine zt_iconst zy_177 (show q_ins q_k177 147 = some (.iconst 4, 0, 0) from rfl) ?_
  obtain ⟨hg, h⟩ := zt_ckE h
  refine zt_idiv zy_177 (show q_ins q_k177 148 = some (.idiv, 0, 0) from rfl) hg (by decide) ?_
  refine zt_aload_n zy_177 (show q_ins q_k177 149 = some (.aload_n 0, 0, 0) from rfl) (v := 0) rfl ?_
  refine zt_iconst zy_177 (show q_ins q_k177 150 = some (.iconst 2, 0, 0) from rfl) ?_
  obtain ⟨a21, s22, hca21, h⟩ := zt_byE h
  refine zt_callV (d := 5) zy_177 (show q_ins q_k177 151 = some (.invokevirtual 86, 122, 1) from rfl) zy_122 (by decide) ⟨zq_lt (by decide), by decide⟩ rfl (by simp [Value.category]) (by simp [lg_sl, Value.category]) (zt_rcv zc_0) (zt_dm (by decide) (S_C_size hca21)) ?_
  refine zt_iconst zy_177 (show q_ins q_k177 154 = some (.iconst 1, 0, 0) from rfl) ?_
  refine zt_iadd zy_177 (show q_ins q_k177 155 = some (.iadd, 0, 0) from rfl) ?_
  obtain ⟨hg, h⟩ := zt_ckE h
  refine zt_irem zy_177 (show q_ins q_k177 156 = some (.irem, 0, 0) from rfl) hg.1 hg.2 ?_
  obtain ⟨a23, s24, hca23, h⟩ := zt_byE h
  refine zt_callV (d := 5) zy_177 (show q_ins q_k177 157 = some (.invokevirtual 111, 154, 2) from rfl) zy_154 (by decide) ⟨zq_lt (by decide), by decide⟩ rfl (by simp [Value.category]) (by simp [lg_sl, Value.category]) (zt_rcv zc_0) (zt_dm (by decide) (S_C_tell hca23)) ?_
  cases h
  exact zt_iret zy_177 (show q_ins q_k177 160 = some (.ireturn, 0, 0) from rfl)
set_option maxRecDepth 100000 in
theorem S_P_acts_161 {X : q_X}   : ∀ (v2 : Int) (σ : zt_S) (T : zt_T) (o : (Int × zt_S × zt_T)), F_P_acts_161  v2 σ T = some o → zt_Ex X 6 177 161 [(0, .ref 0), (2, .int (Int32.ofInt v2))] [] (zt_M T σ) (zl_I o) := by
  intro v2 σ T o  h
  unfold F_P_acts_161 at h
  refine zt_aload_n zy_177 (show q_ins q_k177 161 = some (.aload_n 0, 0, 0) from rfl) (v := 0) rfl ?_
  refine zt_iload_n zy_177 (show q_ins q_k177 162 = some (.iload_n 2, 0, 0) from rfl) (v := Int32.ofInt v2) rfl ?_
  refine zt_iconst zy_177 (show q_ins q_k177 163 = some (.iconst 5, 0, 0) from rfl) ?_
  obtain ⟨hg, h⟩ := zt_ckE h
  refine zt_irem zy_177 (show q_ins q_k177 164 = some (.irem, 0, 0) from rfl) hg (by decide) ?_
  refine zt_iconst zy_177 (show q_ins q_k177 165 = some (.iconst 1, 0, 0) from rfl) ?_
  refine zt_isub zy_177 (show q_ins q_k177 166 = some (.isub, 0, 0) from rfl) ?_
  obtain ⟨a25, s26, hca25, h⟩ := zt_byE h
  refine zt_callV (d := 5) zy_177 (show q_ins q_k177 167 = some (.invokevirtual 114, 156, 1) from rfl) zy_156 (by decide) ⟨zq_lt (by decide), by decide⟩ rfl (by simp [Value.category]) (by simp [lg_sl, Value.category]) (zt_rcv zc_0) (zt_dm (by decide) (S_C_setTrump hca25)) ?_
  cases h
  exact zt_iret zy_177 (show q_ins q_k177 170 = some (.ireturn, 0, 0) from rfl)
set_option maxRecDepth 100000 in
theorem S_P_acts_171 {X : q_X}   : ∀ (v2 : Int) (σ : zt_S) (T : zt_T) (o : (Int × zt_S × zt_T)), F_P_acts_171  v2 σ T = some o → zt_Ex X 6 177 171 [(0, .ref 0), (2, .int (Int32.ofInt v2))] [] (zt_M T σ) (zl_I o) := by
  intro v2 σ T o  h
  unfold F_P_acts_171 at h
  refine zt_aload_n zy_177 (show q_ins q_k177 171 = some (.aload_n 0, 0, 0) from rfl) (v := 0) rfl ?_
  refine zt_iload_n zy_177 (show q_ins q_k177 172 = some (.iload_n 2, 0, 0) from rfl) (v := Int32.ofInt v2) rfl ?_
  refine zt_iconst zy_177 (show q_ins q_k177 173 = some (.iconst 4, 0, 0) from rfl) ?_
  obtain ⟨hg, h⟩ := zt_ckE h
  refine zt_irem zy_177 (show q_ins q_k177 174 = some (.irem, 0, 0) from rfl) hg (by decide) ?_
  obtain ⟨a27, s28, hca27, h⟩ := zt_byE h
  refine zt_callV (d := 5) zy_177 (show q_ins q_k177 175 = some (.invokevirtual 117, 157, 1) from rfl) zy_157 (by decide) ⟨zq_lt (by decide), by decide⟩ rfl (by simp [Value.category]) (by simp [lg_sl, Value.category]) (zt_rcv zc_0) (zt_dm (by decide) (S_C_setRule hca27)) ?_
  cases h
  exact zt_iret zy_177 (show q_ins q_k177 178 = some (.ireturn, 0, 0) from rfl)
set_option maxRecDepth 100000 in
theorem S_P_acts_179 {X : q_X}   : ∀ (v2 : Int) (σ : zt_S) (T : zt_T) (o : (Int × zt_S × zt_T)), F_P_acts_179  v2 σ T = some o → zt_Ex X 6 177 179 [(0, .ref 0), (2, .int (Int32.ofInt v2))] [] (zt_M T σ) (zl_I o) := by
  intro v2 σ T o  h
  unfold F_P_acts_179 at h
  refine zt_aload_n zy_177 (show q_ins q_k177 179 = some (.aload_n 0, 0, 0) from rfl) (v := 0) rfl ?_
  refine zt_iload_n zy_177 (show q_ins q_k177 180 = some (.iload_n 2, 0, 0) from rfl) (v := Int32.ofInt v2) rfl ?_
  refine zt_bipush zy_177 (show q_ins q_k177 181 = some (.bipush 10, 0, 0) from rfl) (by decide) ?_
  obtain ⟨hg, h⟩ := zt_ckE h
  refine zt_irem zy_177 (show q_ins q_k177 183 = some (.irem, 0, 0) from rfl) hg (by decide) ?_
  obtain ⟨a29, s30, hca29, h⟩ := zt_byE h
  refine zt_callV (d := 5) zy_177 (show q_ins q_k177 184 = some (.invokevirtual 120, 158, 1) from rfl) zy_158 (by decide) ⟨zq_lt (by decide), by decide⟩ rfl (by simp [Value.category]) (by simp [lg_sl, Value.category]) (zt_rcv zc_0) (zt_dm (by decide) (S_C_setFade hca29)) ?_
  cases h
  exact zt_iret zy_177 (show q_ins q_k177 187 = some (.ireturn, 0, 0) from rfl)
set_option maxRecDepth 100000 in
theorem S_P_acts_200 {X : q_X}   : ∀ (x0 : Int) (σ : zt_S) (T : zt_T) (o : (Int × zt_S × zt_T)), F_P_acts_200  x0 σ T = some o → zt_Ex X 6 177 200 [] [.int (Int32.ofInt x0), .ref 0] (zt_M T σ) (zl_I o) := by
  intro x0 σ T o  h
  unfold F_P_acts_200 at h
  obtain ⟨a31, s32, hca31, h⟩ := zt_bdE h
  refine zt_callV (d := 5) zy_177 (show q_ins q_k177 200 = some (.invokevirtual 123, 159, 1) from rfl) zy_159 (by decide) ⟨zq_lt (by decide), by decide⟩ rfl (by simp [Value.category]) (by simp [lg_sl, Value.category]) (zt_rcv zc_0) (zt_dm (by decide) (S_C_setRevive hca31)) ?_
  cases h
  exact zt_iret zy_177 (show q_ins q_k177 203 = some (.ireturn, 0, 0) from rfl)
set_option maxRecDepth 100000 in
theorem S_P_acts_188 {X : q_X}   : ∀ (v2 : Int) (σ : zt_S) (T : zt_T) (o : (Int × zt_S × zt_T)), F_P_acts_188  v2 σ T = some o → zt_Ex X 6 177 188 [(0, .ref 0), (2, .int (Int32.ofInt v2))] [] (zt_M T σ) (zl_I o) := by
  intro v2 σ T o  h
  unfold F_P_acts_188 at h
  refine zt_aload_n zy_177 (show q_ins q_k177 188 = some (.aload_n 0, 0, 0) from rfl) (v := 0) rfl ?_
  refine zt_iload_n zy_177 (show q_ins q_k177 189 = some (.iload_n 2, 0, 0) from rfl) (v := Int32.ofInt v2) rfl ?_
  refine zt_iconst zy_177 (show q_ins q_k177 190 = some (.iconst 2, 0, 0) from rfl) ?_
  obtain ⟨hg, h⟩ := zt_ckE h
  refine zt_irem zy_177 (show q_ins q_k177 191 = some (.irem, 0, 0) from rfl) hg (by decide) ?_
  obtain ⟨hg, h⟩ := zt_ckE h
  refine zt_if_ne zy_177 (show q_ins q_k177 192 = some (.ifCond .ne 7, 199, 0) from rfl) (hg) (fun hc => ?_) (fun hc => ?_)
  · rw [if_pos hc] at h
    refine zt_iconst zy_177 (show q_ins q_k177 195 = some (.iconst 1, 0, 0) from rfl) ?_
    refine zt_goto zy_177 (show q_ins q_k177 196 = some (.goto 4, 200, 0) from rfl) ?_
    exact zt_wk (zt_cov_nil) (S_P_acts_200  _ _ _ _ h)
  · rw [if_neg hc] at h
    refine zt_iconst zy_177 (show q_ins q_k177 199 = some (.iconst 0, 0, 0) from rfl) ?_
    exact zt_wk (zt_cov_nil) (S_P_acts_200  _ _ _ _ h)
set_option maxRecDepth 100000 in
theorem S_P_acts {X : q_X}   {v1 : Int} {σ : zt_S} {T : zt_T} {o : (Int × zt_S × zt_T)} (h : F_P_acts  v1 σ T = some o) : zt_Ex X 6 177 0 (lv_args 0 [.ref 0, .int (Int32.ofInt v1)]) [] (zt_M T σ) (zl_I o) := by
  unfold F_P_acts at h
  refine zt_iload_n zy_177 (show q_ins q_k177 0 = some (.iload_n 1, 0, 0) from rfl) (v := Int32.ofInt v1) rfl ?_
  refine zt_bipush zy_177 (show q_ins q_k177 1 = some (.bipush 10, 0, 0) from rfl) (by decide) ?_
  obtain ⟨hg, h⟩ := zt_ckE h
  refine zt_idiv zy_177 (show q_ins q_k177 3 = some (.idiv, 0, 0) from rfl) hg (by decide) ?_
  refine zt_istore_n zy_177 (show q_ins q_k177 4 = some (.istore_n 2, 0, 0) from rfl) (by decide) ?_
  refine zt_iload_n zy_177 (show q_ins q_k177 5 = some (.iload_n 1, 0, 0) from rfl) (v := Int32.ofInt v1) rfl ?_
  refine zt_bipush zy_177 (show q_ins q_k177 6 = some (.bipush 10, 0, 0) from rfl) (by decide) ?_
  obtain ⟨hg, h⟩ := zt_ckE h
  refine zt_irem zy_177 (show q_ins q_k177 8 = some (.irem, 0, 0) from rfl) hg (by decide) ?_
  obtain ⟨hg, h⟩ := zt_ckE h
  by_cases hc0 : (v1 % (10 : Int)) = (0 : Int)
  · rw [if_pos hc0] at h
    refine zt_sw zy_177 (show q_ins q_k177 9 = some (.tableswitch 179 0 8 #[51, 51, 51, 88, 98, 129, 152, 162, 170], 0, 51) from rfl) hc0 (t := 60) (by decide) ?_
    exact zt_wk (zt_cov_cons rfl (zt_cov_cons rfl (zt_cov_nil))) (S_P_acts_60  _ _ _ _ h)
  rw [if_neg hc0] at h
  by_cases hc1 : (v1 % (10 : Int)) = (1 : Int)
  · rw [if_pos hc1] at h
    refine zt_sw zy_177 (show q_ins q_k177 9 = some (.tableswitch 179 0 8 #[51, 51, 51, 88, 98, 129, 152, 162, 170], 0, 51) from rfl) hc1 (t := 60) (by decide) ?_
    exact zt_wk (zt_cov_cons rfl (zt_cov_cons rfl (zt_cov_nil))) (S_P_acts_60  _ _ _ _ h)
  rw [if_neg hc1] at h
  by_cases hc2 : (v1 % (10 : Int)) = (2 : Int)
  · rw [if_pos hc2] at h
    refine zt_sw zy_177 (show q_ins q_k177 9 = some (.tableswitch 179 0 8 #[51, 51, 51, 88, 98, 129, 152, 162, 170], 0, 51) from rfl) hc2 (t := 60) (by decide) ?_
    exact zt_wk (zt_cov_cons rfl (zt_cov_cons rfl (zt_cov_nil))) (S_P_acts_60  _ _ _ _ h)
  rw [if_neg hc2] at h
  by_cases hc3 : (v1 % (10 : Int)) = (3 : Int)
  · rw [if_pos hc3] at h
    refine zt_sw zy_177 (show q_ins q_k177 9 = some (.tableswitch 179 0 8 #[51, 51, 51, 88, 98, 129, 152, 162, 170], 0, 51) from rfl) hc3 (t := 97) (by decide) ?_
    exact zt_wk (zt_cov_cons rfl (zt_cov_cons rfl (zt_cov_nil))) (S_P_acts_97  _ _ _ _ h)
  rw [if_neg hc3] at h
  by_cases hc4 : (v1 % (10 : Int)) = (4 : Int)
  · rw [if_pos hc4] at h
    refine zt_sw zy_177 (show q_ins q_k177 9 = some (.tableswitch 179 0 8 #[51, 51, 51, 88, 98, 129, 152, 162, 170], 0, 51) from rfl) hc4 (t := 107) (by decide) ?_
    exact zt_wk (zt_cov_cons rfl (zt_cov_cons rfl (zt_cov_nil))) (S_P_acts_107  _ _ _ _ h)
  rw [if_neg hc4] at h
  by_cases hc5 : (v1 % (10 : Int)) = (5 : Int)
  · rw [if_pos hc5] at h
    refine zt_sw zy_177 (show q_ins q_k177 9 = some (.tableswitch 179 0 8 #[51, 51, 51, 88, 98, 129, 152, 162, 170], 0, 51) from rfl) hc5 (t := 138) (by decide) ?_
    exact zt_wk (zt_cov_cons rfl (zt_cov_cons rfl (zt_cov_nil))) (S_P_acts_138  _ _ _ _ h)
  rw [if_neg hc5] at h
  by_cases hc6 : (v1 % (10 : Int)) = (6 : Int)
  · rw [if_pos hc6] at h
    refine zt_sw zy_177 (show q_ins q_k177 9 = some (.tableswitch 179 0 8 #[51, 51, 51, 88, 98, 129, 152, 162, 170], 0, 51) from rfl) hc6 (t := 161) (by decide) ?_
    exact zt_wk (zt_cov_cons rfl (zt_cov_cons rfl (zt_cov_nil))) (S_P_acts_161  _ _ _ _ h)
  rw [if_neg hc6] at h
  by_cases hc7 : (v1 % (10 : Int)) = (7 : Int)
  · rw [if_pos hc7] at h
    refine zt_sw zy_177 (show q_ins q_k177 9 = some (.tableswitch 179 0 8 #[51, 51, 51, 88, 98, 129, 152, 162, 170], 0, 51) from rfl) hc7 (t := 171) (by decide) ?_
    exact zt_wk (zt_cov_cons rfl (zt_cov_cons rfl (zt_cov_nil))) (S_P_acts_171  _ _ _ _ h)
  rw [if_neg hc7] at h
  by_cases hc8 : (v1 % (10 : Int)) = (8 : Int)
  · rw [if_pos hc8] at h
    refine zt_sw zy_177 (show q_ins q_k177 9 = some (.tableswitch 179 0 8 #[51, 51, 51, 88, 98, 129, 152, 162, 170], 0, 51) from rfl) hc8 (t := 179) (by decide) ?_
    exact zt_wk (zt_cov_cons rfl (zt_cov_cons rfl (zt_cov_nil))) (S_P_acts_179  _ _ _ _ h)
  rw [if_neg hc8] at h
  refine zt_sw0 zy_177 (show q_ins q_k177 9 = some (.tableswitch 179 0 8 #[51, 51, 51, 88, 98, 129, 152, 162, 170], 0, 51) from rfl) (hg) (by omega) (t := 188) (by decide) ?_
  exact zt_wk (zt_cov_cons rfl (zt_cov_cons rfl (zt_cov_nil))) (S_P_acts_188  _ _ _ _ h)
set_option maxRecDepth 100000 in
theorem S_P_isOnce_60 {X : q_X}   : ∀  (σ : zt_S) (T : zt_T) (o : (Int × zt_S × zt_T)), F_P_isOnce_60   σ T = some o → zt_Ex X 3 179 60 [] [] (zt_M T σ) (zl_I o) := by
  intro  σ T o  h
  unfold F_P_isOnce_60 at h
  refine zt_iconst zy_179 (show q_ins q_k179 60 = some (.iconst 0, 0, 0) from rfl) ?_
  cases h
  exact zt_zret zy_179 (show q_ins q_k179 61 = some (.ireturn, 0, 0) from rfl) (by decide)
set_option maxRecDepth 100000 in
theorem S_P_isOnce_24 {X : q_X}   {r9 : Nat → Int → Int → zt_S → zt_T → Option (Int × zt_S × zt_T)} (hr9 : ∀ (v1 : Nat) (v2 : Int) (v3 : Int) (σ : zt_S) (T : zt_T) (o : (Int × zt_S × zt_T)), r9 v1 v2 v3 σ T = some o → zt_Ex X 3 179 9 [(0, .ref 0), (1, .ref (163 + v1)), (2, .int (Int32.ofInt v2)), (3, .int (Int32.ofInt v3))] [] (zt_M T σ) (zl_I o)) : ∀ (n : Nat) (v1 : Nat) (v2 : Int) (v3 : Int) (v4 : Int) (v5 : Int) (σ : zt_S) (T : zt_T) (o : (Int × zt_S × zt_T)), F_P_isOnce_24  r9 n v1 v2 v3 v4 v5 σ T = some o → zt_Ex X 3 179 24 [(0, .ref 0), (1, .ref (163 + v1)), (2, .int (Int32.ofInt v2)), (3, .int (Int32.ofInt v3)), (4, .int (Int32.ofInt v4)), (5, .int (Int32.ofInt v5))] [] (zt_M T σ) (zl_I o) := by
  intro n
  induction n with
  | zero => intro v1 v2 v3 v4 v5 σ T o  h; cases h
  | succ n ih =>
  intro v1 v2 v3 v4 v5 σ T o  h
  rw [F_P_isOnce_24] at h
  refine zt_iload zy_179 (show q_ins q_k179 24 = some (.iload 5, 0, 0) from rfl) (v := Int32.ofInt v5) rfl ?_
  refine zt_aload_n zy_179 (show q_ins q_k179 26 = some (.aload_n 0, 0, 0) from rfl) (v := 0) rfl ?_
  refine zt_iload_n zy_179 (show q_ins q_k179 27 = some (.iload_n 3, 0, 0) from rfl) (v := Int32.ofInt v3) rfl ?_
  obtain ⟨a5, s6, hca5, h⟩ := zt_byE h
  refine zt_callV (d := 2) zy_179 (show q_ins q_k179 28 = some (.invokevirtual 99, 126, 1) from rfl) zy_126 (by decide) ⟨zq_lt (by decide), by decide⟩ rfl (by simp [Value.category]) (by simp [lg_sl, Value.category]) (zt_rcv zc_0) (zt_dm (by decide) (S_C_held hca5)) ?_
  obtain ⟨hg, h⟩ := zt_ckE h
  refine zt_icmp_ge zy_179 (show q_ins q_k179 31 = some (.if_icmp .ge 52, 83, 0) from rfl) (⟨hg.1, hg.2⟩) (fun hc => ?_) (fun hc => ?_)
  · rw [if_pos hc] at h
    refine zt_aload_n zy_179 (show q_ins q_k179 34 = some (.aload_n 0, 0, 0) from rfl) (v := 0) rfl ?_
    refine zt_iload_n zy_179 (show q_ins q_k179 35 = some (.iload_n 3, 0, 0) from rfl) (v := Int32.ofInt v3) rfl ?_
    refine zt_iload zy_179 (show q_ins q_k179 36 = some (.iload 5, 0, 0) from rfl) (v := Int32.ofInt v5) rfl ?_
    obtain ⟨a7, s8, hca7, h⟩ := zt_byE h
    refine zt_callV (d := 2) zy_179 (show q_ins q_k179 38 = some (.invokevirtual 102, 127, 2) from rfl) zy_127 (by decide) ⟨zq_lt (by decide), by decide⟩ rfl (by simp [Value.category]) (by simp [lg_sl, Value.category]) (zt_rcv zc_0) (zt_dm (by decide) (S_C_inHand hca7)) ?_
    refine zt_istore zy_179 (show q_ins q_k179 41 = some (.istore 6, 0, 0) from rfl) (by decide) ?_
    refine zt_iload zy_179 (show q_ins q_k179 43 = some (.iload 6, 0, 0) from rfl) (v := Int32.ofInt a7) rfl ?_
    refine zt_iload zy_179 (show q_ins q_k179 45 = some (.iload 4, 0, 0) from rfl) (v := Int32.ofInt v4) rfl ?_
    obtain ⟨hg, h⟩ := zt_ckE h
    refine zt_icmp_le zy_179 (show q_ins q_k179 47 = some (.if_icmp .le 13, 60, 0) from rfl) (⟨hg.1, hg.2⟩) (fun hc => ?_) (fun hc => ?_)
    · rw [if_pos hc] at h
      refine zt_aload_n zy_179 (show q_ins q_k179 50 = some (.aload_n 0, 0, 0) from rfl) (v := 0) rfl ?_
      refine zt_iload zy_179 (show q_ins q_k179 51 = some (.iload 6, 0, 0) from rfl) (v := Int32.ofInt a7) rfl ?_
      obtain ⟨a9, s10, hca9, h⟩ := zt_byE h
      refine zt_callV (d := 2) zy_179 (show q_ins q_k179 53 = some (.invokevirtual 93, 125, 1) from rfl) zy_125 (by decide) ⟨zq_lt (by decide), by decide⟩ rfl (by simp [Value.category]) (by simp [lg_sl, Value.category]) (zt_rcv zc_0) (zt_dm (by decide) (S_C_holder hca9)) ?_
      refine zt_iload_n zy_179 (show q_ins q_k179 56 = some (.iload_n 3, 0, 0) from rfl) (v := Int32.ofInt v3) rfl ?_
      obtain ⟨hg, h⟩ := zt_ckE h
      refine zt_icmp_eq zy_179 (show q_ins q_k179 57 = some (.if_icmp .eq 5, 62, 0) from rfl) (⟨hg.1, hg.2⟩) (fun hc => ?_) (fun hc => ?_)
      · rw [if_pos hc] at h
        refine zt_iload zy_179 (show q_ins q_k179 62 = some (.iload 6, 0, 0) from rfl) (v := Int32.ofInt a7) rfl ?_
        refine zt_istore zy_179 (show q_ins q_k179 64 = some (.istore 4, 0, 0) from rfl) (by decide) ?_
        refine zt_aload_n zy_179 (show q_ins q_k179 66 = some (.aload_n 1, 0, 0) from rfl) (v := (163 + v1)) rfl ?_
        refine zt_iload zy_179 (show q_ins q_k179 67 = some (.iload 6, 0, 0) from rfl) (v := Int32.ofInt a7) rfl ?_
        refine zt_dup2 zy_179 (show q_ins q_k179 69 = some (.dup2, 0, 0) from rfl) ⟨rfl, rfl⟩ ?_
        obtain ⟨hg, h⟩ := zt_ckE h
        refine zt_tld zy_179 (show q_ins q_k179 70 = some (.iaload, 0, 0) from rfl) hg ?_
        refine zt_iconst zy_179 (show q_ins q_k179 71 = some (.iconst 1, 0, 0) from rfl) ?_
        refine zt_iadd zy_179 (show q_ins q_k179 72 = some (.iadd, 0, 0) from rfl) ?_
        obtain ⟨hg, h⟩ := zt_ckE h
        obtain ⟨t11, ht11, h⟩ := zt_letE h
        refine zt_tst zy_179 (show q_ins q_k179 73 = some (.iastore, 0, 0) from rfl) hg ?_
        rw [← ht11]
        refine zt_iinc zy_179 (show q_ins q_k179 74 = some (.iinc 2 1, 0, 0) from rfl) (v := v2) (by decide) rfl ?_
        refine zt_iinc zy_179 (show q_ins q_k179 77 = some (.iinc 5 1, 0, 0) from rfl) (v := v5) (by decide) rfl ?_
        refine zt_goto zy_179 (show q_ins q_k179 80 = some (.goto (-56), 24, 0) from rfl) ?_
        exact zt_wk (zt_cov_cons rfl (zt_cov_cons rfl (zt_cov_cons rfl (zt_cov_cons rfl (zt_cov_cons rfl (zt_cov_cons rfl (zt_cov_nil))))))) (ih _ _ _ _ _ _ _ _ h)
      · rw [if_neg hc] at h
        exact zt_wk (zt_cov_nil) (S_P_isOnce_60  _ _ _ h)
    · rw [if_neg hc] at h
      exact zt_wk (zt_cov_nil) (S_P_isOnce_60  _ _ _ h)
  · rw [if_neg hc] at h
    refine zt_iinc zy_179 (show q_ins q_k179 83 = some (.iinc 3 1, 0, 0) from rfl) (v := v3) (by decide) rfl ?_
    refine zt_goto zy_179 (show q_ins q_k179 86 = some (.goto (-77), 9, 0) from rfl) ?_
    exact zt_wk (zt_cov_cons rfl (zt_cov_cons rfl (zt_cov_cons rfl (zt_cov_cons rfl (zt_cov_nil))))) (hr9 _ _ _ _ _ _ h)
set_option maxRecDepth 100000 in
theorem S_P_isOnce_135 {X : q_X}   : ∀  (σ : zt_S) (T : zt_T) (o : (Int × zt_S × zt_T)), F_P_isOnce_135   σ T = some o → zt_Ex X 3 179 135 [] [] (zt_M T σ) (zl_I o) := by
  intro  σ T o  h
  unfold F_P_isOnce_135 at h
  refine zt_iconst zy_179 (show q_ins q_k179 135 = some (.iconst 0, 0, 0) from rfl) ?_
  cases h
  exact zt_zret zy_179 (show q_ins q_k179 136 = some (.ireturn, 0, 0) from rfl) (by decide)
set_option maxRecDepth 100000 in
theorem S_P_isOnce_229 {X : q_X}   : ∀ (x0 : Int) (σ : zt_S) (T : zt_T) (o : (Int × zt_S × zt_T)), F_P_isOnce_229  x0 σ T = some o → zt_Ex X 3 179 229 [] [.int (Int32.ofInt x0)] (zt_M T σ) (zl_I o) := by
  intro x0 σ T o  h
  unfold F_P_isOnce_229 at h
  obtain ⟨hg, h⟩ := zt_ckE h
  cases h
  exact zt_zret zy_179 (show q_ins q_k179 229 = some (.ireturn, 0, 0) from rfl) hg
set_option maxRecDepth 100000 in
theorem S_P_isOnce_228 {X : q_X}   : ∀  (σ : zt_S) (T : zt_T) (o : (Int × zt_S × zt_T)), F_P_isOnce_228   σ T = some o → zt_Ex X 3 179 228 [] [] (zt_M T σ) (zl_I o) := by
  intro  σ T o  h
  unfold F_P_isOnce_228 at h
  refine zt_iconst zy_179 (show q_ins q_k179 228 = some (.iconst 0, 0, 0) from rfl) ?_
  exact zt_wk (zt_cov_nil) (S_P_isOnce_229  _ _ _ _ h)
set_option maxRecDepth 100000 in
theorem S_P_isOnce_221 {X : q_X}   : ∀ (x0 : Int) (x1 : Int) (σ : zt_S) (T : zt_T) (o : (Int × zt_S × zt_T)), F_P_isOnce_221  x0 x1 σ T = some o → zt_Ex X 3 179 221 [] [.int (Int32.ofInt x0), .int (Int32.ofInt x1)] (zt_M T σ) (zl_I o) := by
  intro x0 x1 σ T o  h
  unfold F_P_isOnce_221 at h
  obtain ⟨hg, h⟩ := zt_ckE h
  refine zt_icmp_ne zy_179 (show q_ins q_k179 221 = some (.if_icmp .ne 7, 228, 0) from rfl) (⟨hg.1, hg.2⟩) (fun hc => ?_) (fun hc => ?_)
  · rw [if_pos hc] at h
    refine zt_iconst zy_179 (show q_ins q_k179 224 = some (.iconst 1, 0, 0) from rfl) ?_
    refine zt_goto zy_179 (show q_ins q_k179 225 = some (.goto 4, 229, 0) from rfl) ?_
    exact zt_wk (zt_cov_nil) (S_P_isOnce_229  _ _ _ _ h)
  · rw [if_neg hc] at h
    exact zt_wk (zt_cov_nil) (S_P_isOnce_228  _ _ _ h)
set_option maxRecDepth 100000 in
theorem S_P_isOnce_206 {X : q_X}   : ∀ (v2 : Int) (x0 : Int) (σ : zt_S) (T : zt_T) (o : (Int × zt_S × zt_T)), F_P_isOnce_206  v2 x0 σ T = some o → zt_Ex X 3 179 206 [(0, .ref 0), (2, .int (Int32.ofInt v2))] [.int (Int32.ofInt x0)] (zt_M T σ) (zl_I o) := by
  intro v2 x0 σ T o  h
  unfold F_P_isOnce_206 at h
  refine zt_aload_n zy_179 (show q_ins q_k179 206 = some (.aload_n 0, 0, 0) from rfl) (v := 0) rfl ?_
  refine zt_bipush zy_179 (show q_ins q_k179 207 = some (.bipush 12, 0, 0) from rfl) (by decide) ?_
  obtain ⟨a29, s30, hca29, h⟩ := zt_byE h
  refine zt_callV (d := 2) zy_179 (show q_ins q_k179 209 = some (.invokevirtual 86, 122, 1) from rfl) zy_122 (by decide) ⟨zq_lt (by decide), by decide⟩ rfl (by simp [Value.category]) (by simp [lg_sl, Value.category]) (zt_rcv zc_0) (zt_dm (by decide) (S_C_size hca29)) ?_
  refine zt_iload_n zy_179 (show q_ins q_k179 212 = some (.iload_n 2, 0, 0) from rfl) (v := Int32.ofInt v2) rfl ?_
  obtain ⟨hg, h⟩ := zt_ckE h
  refine zt_icmp_ne zy_179 (show q_ins q_k179 213 = some (.if_icmp .ne 7, 220, 0) from rfl) (⟨hg.1, hg.2⟩) (fun hc => ?_) (fun hc => ?_)
  · rw [if_pos hc] at h
    refine zt_iconst zy_179 (show q_ins q_k179 216 = some (.iconst 1, 0, 0) from rfl) ?_
    refine zt_goto zy_179 (show q_ins q_k179 217 = some (.goto 4, 221, 0) from rfl) ?_
    exact zt_wk (zt_cov_nil) (S_P_isOnce_221  _ _ _ _ _ h)
  · rw [if_neg hc] at h
    refine zt_iconst zy_179 (show q_ins q_k179 220 = some (.iconst 0, 0, 0) from rfl) ?_
    exact zt_wk (zt_cov_nil) (S_P_isOnce_221  _ _ _ _ _ h)
set_option maxRecDepth 100000 in
theorem S_P_isOnce_177 {X : q_X}   : ∀ (v2 : Int) (σ : zt_S) (T : zt_T) (o : (Int × zt_S × zt_T)), F_P_isOnce_177  v2 σ T = some o → zt_Ex X 3 179 177 [(0, .ref 0), (2, .int (Int32.ofInt v2))] [] (zt_M T σ) (zl_I o) := by
  intro v2 σ T o  h
  unfold F_P_isOnce_177 at h
  refine zt_iload_n zy_179 (show q_ins q_k179 177 = some (.iload_n 2, 0, 0) from rfl) (v := Int32.ofInt v2) rfl ?_
  refine zt_aload_n zy_179 (show q_ins q_k179 178 = some (.aload_n 0, 0, 0) from rfl) (v := 0) rfl ?_
  refine zt_iconst zy_179 (show q_ins q_k179 179 = some (.iconst 1, 0, 0) from rfl) ?_
  obtain ⟨a23, s24, hca23, h⟩ := zt_byE h
  refine zt_callV (d := 2) zy_179 (show q_ins q_k179 180 = some (.invokevirtual 86, 122, 1) from rfl) zy_122 (by decide) ⟨zq_lt (by decide), by decide⟩ rfl (by simp [Value.category]) (by simp [lg_sl, Value.category]) (zt_rcv zc_0) (zt_dm (by decide) (S_C_size hca23)) ?_
  refine zt_aload_n zy_179 (show q_ins q_k179 183 = some (.aload_n 0, 0, 0) from rfl) (v := 0) rfl ?_
  refine zt_iconst zy_179 (show q_ins q_k179 184 = some (.iconst 2, 0, 0) from rfl) ?_
  obtain ⟨a25, s26, hca25, h⟩ := zt_byE h
  refine zt_callV (d := 2) zy_179 (show q_ins q_k179 185 = some (.invokevirtual 86, 122, 1) from rfl) zy_122 (by decide) ⟨zq_lt (by decide), by decide⟩ rfl (by simp [Value.category]) (by simp [lg_sl, Value.category]) (zt_rcv zc_0) (zt_dm (by decide) (S_C_size hca25)) ?_
  refine zt_imul zy_179 (show q_ins q_k179 188 = some (.imul, 0, 0) from rfl) ?_
  obtain ⟨hg, h⟩ := zt_ckE h
  refine zt_icmp_ne zy_179 (show q_ins q_k179 189 = some (.if_icmp .ne 39, 228, 0) from rfl) (⟨hg.1, hg.2⟩) (fun hc => ?_) (fun hc => ?_)
  · rw [if_pos hc] at h
    refine zt_aload_n zy_179 (show q_ins q_k179 192 = some (.aload_n 0, 0, 0) from rfl) (v := 0) rfl ?_
    refine zt_bipush zy_179 (show q_ins q_k179 193 = some (.bipush 9, 0, 0) from rfl) (by decide) ?_
    obtain ⟨a27, s28, hca27, h⟩ := zt_byE h
    refine zt_callV (d := 2) zy_179 (show q_ins q_k179 195 = some (.invokevirtual 86, 122, 1) from rfl) zy_122 (by decide) ⟨zq_lt (by decide), by decide⟩ rfl (by simp [Value.category]) (by simp [lg_sl, Value.category]) (zt_rcv zc_0) (zt_dm (by decide) (S_C_size hca27)) ?_
    obtain ⟨hg, h⟩ := zt_ckE h
    refine zt_if_ge zy_179 (show q_ins q_k179 198 = some (.ifCond .ge 7, 205, 0) from rfl) (hg) (fun hc => ?_) (fun hc => ?_)
    · rw [if_pos hc] at h
      refine zt_iconst zy_179 (show q_ins q_k179 201 = some (.iconst 1, 0, 0) from rfl) ?_
      refine zt_goto zy_179 (show q_ins q_k179 202 = some (.goto 4, 206, 0) from rfl) ?_
      exact zt_wk (zt_cov_cons rfl (zt_cov_cons rfl (zt_cov_nil))) (S_P_isOnce_206  _ _ _ _ _ h)
    · rw [if_neg hc] at h
      refine zt_iconst zy_179 (show q_ins q_k179 205 = some (.iconst 0, 0, 0) from rfl) ?_
      exact zt_wk (zt_cov_cons rfl (zt_cov_cons rfl (zt_cov_nil))) (S_P_isOnce_206  _ _ _ _ _ h)
  · rw [if_neg hc] at h
    exact zt_wk (zt_cov_nil) (S_P_isOnce_228  _ _ _ h)
set_option maxRecDepth 100000 in
theorem S_P_isOnce_156 {X : q_X}   : ∀ (n : Nat) (v1 : Nat) (v2 : Int) (v3 : Int) (σ : zt_S) (T : zt_T) (o : (Int × zt_S × zt_T)), F_P_isOnce_156  n v1 v2 v3 σ T = some o → zt_Ex X 3 179 156 [(0, .ref 0), (1, .ref (163 + v1)), (2, .int (Int32.ofInt v2)), (3, .int (Int32.ofInt v3))] [] (zt_M T σ) (zl_I o) := by
  intro n
  induction n with
  | zero => intro v1 v2 v3 σ T o  h; cases h
  | succ n ih =>
  intro v1 v2 v3 σ T o  h
  rw [F_P_isOnce_156] at h
  refine zt_iload_n zy_179 (show q_ins q_k179 156 = some (.iload_n 3, 0, 0) from rfl) (v := Int32.ofInt v3) rfl ?_
  refine zt_bipush zy_179 (show q_ins q_k179 157 = some (.bipush 52, 0, 0) from rfl) (by decide) ?_
  obtain ⟨hg, h⟩ := zt_ckE h
  refine zt_icmp_ge zy_179 (show q_ins q_k179 159 = some (.if_icmp .ge 18, 177, 0) from rfl) (⟨hg, by decide⟩) (fun hc => ?_) (fun hc => ?_)
  · rw [if_pos hc] at h
    refine zt_aload_n zy_179 (show q_ins q_k179 162 = some (.aload_n 1, 0, 0) from rfl) (v := (163 + v1)) rfl ?_
    refine zt_iload_n zy_179 (show q_ins q_k179 163 = some (.iload_n 3, 0, 0) from rfl) (v := Int32.ofInt v3) rfl ?_
    obtain ⟨hg, h⟩ := zt_ckE h
    refine zt_tld zy_179 (show q_ins q_k179 164 = some (.iaload, 0, 0) from rfl) hg ?_
    refine zt_iconst zy_179 (show q_ins q_k179 165 = some (.iconst 1, 0, 0) from rfl) ?_
    obtain ⟨hg, h⟩ := zt_ckE h
    refine zt_icmp_le zy_179 (show q_ins q_k179 166 = some (.if_icmp .le 5, 171, 0) from rfl) (⟨hg, by decide⟩) (fun hc => ?_) (fun hc => ?_)
    · rw [if_pos hc] at h
      refine zt_iconst zy_179 (show q_ins q_k179 169 = some (.iconst 0, 0, 0) from rfl) ?_
      cases h
      exact zt_zret zy_179 (show q_ins q_k179 170 = some (.ireturn, 0, 0) from rfl) (by decide)
    · rw [if_neg hc] at h
      refine zt_iinc zy_179 (show q_ins q_k179 171 = some (.iinc 3 1, 0, 0) from rfl) (v := v3) (by decide) rfl ?_
      refine zt_goto zy_179 (show q_ins q_k179 174 = some (.goto (-18), 156, 0) from rfl) ?_
      exact zt_wk (zt_cov_cons rfl (zt_cov_cons rfl (zt_cov_cons rfl (zt_cov_cons rfl (zt_cov_nil))))) (ih _ _ _ _ _ _ h)
  · rw [if_neg hc] at h
    exact zt_wk (zt_cov_cons rfl (zt_cov_cons rfl (zt_cov_nil))) (S_P_isOnce_177  _ _ _ _ h)
set_option maxRecDepth 100000 in
theorem S_P_isOnce_91 {X : q_X}   : ∀ (n : Nat) (v1 : Nat) (v2 : Int) (v3 : Int) (σ : zt_S) (T : zt_T) (o : (Int × zt_S × zt_T)), F_P_isOnce_91  n v1 v2 v3 σ T = some o → zt_Ex X 3 179 91 [(0, .ref 0), (1, .ref (163 + v1)), (2, .int (Int32.ofInt v2)), (3, .int (Int32.ofInt v3))] [] (zt_M T σ) (zl_I o) := by
  intro n
  induction n with
  | zero => intro v1 v2 v3 σ T o  h; cases h
  | succ n ih =>
  intro v1 v2 v3 σ T o  h
  rw [F_P_isOnce_91] at h
  refine zt_iload_n zy_179 (show q_ins q_k179 91 = some (.iload_n 3, 0, 0) from rfl) (v := Int32.ofInt v3) rfl ?_
  refine zt_aload_n zy_179 (show q_ins q_k179 92 = some (.aload_n 0, 0, 0) from rfl) (v := 0) rfl ?_
  refine zt_bipush zy_179 (show q_ins q_k179 93 = some (.bipush 12, 0, 0) from rfl) (by decide) ?_
  obtain ⟨a12, s13, hca12, h⟩ := zt_byE h
  refine zt_callV (d := 2) zy_179 (show q_ins q_k179 95 = some (.invokevirtual 86, 122, 1) from rfl) zy_122 (by decide) ⟨zq_lt (by decide), by decide⟩ rfl (by simp [Value.category]) (by simp [lg_sl, Value.category]) (zt_rcv zc_0) (zt_dm (by decide) (S_C_size hca12)) ?_
  obtain ⟨hg, h⟩ := zt_ckE h
  refine zt_icmp_ge zy_179 (show q_ins q_k179 98 = some (.if_icmp .ge 56, 154, 0) from rfl) (⟨hg.1, hg.2⟩) (fun hc => ?_) (fun hc => ?_)
  · rw [if_pos hc] at h
    refine zt_aload_n zy_179 (show q_ins q_k179 101 = some (.aload_n 0, 0, 0) from rfl) (v := 0) rfl ?_
    refine zt_iload_n zy_179 (show q_ins q_k179 102 = some (.iload_n 3, 0, 0) from rfl) (v := Int32.ofInt v3) rfl ?_
    refine zt_iconst zy_179 (show q_ins q_k179 103 = some (.iconst 0, 0, 0) from rfl) ?_
    obtain ⟨a14, s15, hca14, h⟩ := zt_byE h
    refine zt_callV (d := 2) zy_179 (show q_ins q_k179 104 = some (.invokevirtual 154, 135, 2) from rfl) zy_135 (by decide) ⟨zq_lt (by decide), by decide⟩ rfl (by simp [Value.category]) (by simp [lg_sl, Value.category]) (zt_rcv zc_0) (zt_dm (by decide) (S_C_played hca14)) ?_
    refine zt_istore zy_179 (show q_ins q_k179 107 = some (.istore 4, 0, 0) from rfl) (by decide) ?_
    refine zt_aload_n zy_179 (show q_ins q_k179 109 = some (.aload_n 0, 0, 0) from rfl) (v := 0) rfl ?_
    refine zt_iload zy_179 (show q_ins q_k179 110 = some (.iload 4, 0, 0) from rfl) (v := Int32.ofInt a14) rfl ?_
    obtain ⟨a16, s17, hca16, h⟩ := zt_byE h
    refine zt_callV (d := 2) zy_179 (show q_ins q_k179 112 = some (.invokevirtual 93, 125, 1) from rfl) zy_125 (by decide) ⟨zq_lt (by decide), by decide⟩ rfl (by simp [Value.category]) (by simp [lg_sl, Value.category]) (zt_rcv zc_0) (zt_dm (by decide) (S_C_holder hca16)) ?_
    refine zt_iconst zy_179 (show q_ins q_k179 115 = some (.iconst (-1), 0, 0) from rfl) ?_
    obtain ⟨hg, h⟩ := zt_ckE h
    refine zt_icmp_ne zy_179 (show q_ins q_k179 116 = some (.if_icmp .ne 19, 135, 0) from rfl) (⟨hg, by decide⟩) (fun hc => ?_) (fun hc => ?_)
    · rw [if_pos hc] at h
      refine zt_aload_n zy_179 (show q_ins q_k179 119 = some (.aload_n 0, 0, 0) from rfl) (v := 0) rfl ?_
      refine zt_iload_n zy_179 (show q_ins q_k179 120 = some (.iload_n 3, 0, 0) from rfl) (v := Int32.ofInt v3) rfl ?_
      refine zt_iconst zy_179 (show q_ins q_k179 121 = some (.iconst 2, 0, 0) from rfl) ?_
      obtain ⟨a18, s19, hca18, h⟩ := zt_byE h
      refine zt_callV (d := 2) zy_179 (show q_ins q_k179 122 = some (.invokevirtual 154, 135, 2) from rfl) zy_135 (by decide) ⟨zq_lt (by decide), by decide⟩ rfl (by simp [Value.category]) (by simp [lg_sl, Value.category]) (zt_rcv zc_0) (zt_dm (by decide) (S_C_played hca18)) ?_
      refine zt_iload_n zy_179 (show q_ins q_k179 125 = some (.iload_n 3, 0, 0) from rfl) (v := Int32.ofInt v3) rfl ?_
      refine zt_aload_n zy_179 (show q_ins q_k179 126 = some (.aload_n 0, 0, 0) from rfl) (v := 0) rfl ?_
      refine zt_iconst zy_179 (show q_ins q_k179 127 = some (.iconst 1, 0, 0) from rfl) ?_
      obtain ⟨a20, s21, hca20, h⟩ := zt_byE h
      refine zt_callV (d := 2) zy_179 (show q_ins q_k179 128 = some (.invokevirtual 86, 122, 1) from rfl) zy_122 (by decide) ⟨zq_lt (by decide), by decide⟩ rfl (by simp [Value.category]) (by simp [lg_sl, Value.category]) (zt_rcv zc_0) (zt_dm (by decide) (S_C_size hca20)) ?_
      obtain ⟨hg, h⟩ := zt_ckE h
      refine zt_idiv zy_179 (show q_ins q_k179 131 = some (.idiv, 0, 0) from rfl) hg.1 hg.2 ?_
      obtain ⟨hg, h⟩ := zt_ckE h
      refine zt_icmp_eq zy_179 (show q_ins q_k179 132 = some (.if_icmp .eq 5, 137, 0) from rfl) (⟨hg.1, hg.2⟩) (fun hc => ?_) (fun hc => ?_)
      · rw [if_pos hc] at h
        refine zt_aload_n zy_179 (show q_ins q_k179 137 = some (.aload_n 1, 0, 0) from rfl) (v := (163 + v1)) rfl ?_
        refine zt_iload zy_179 (show q_ins q_k179 138 = some (.iload 4, 0, 0) from rfl) (v := Int32.ofInt a14) rfl ?_
        refine zt_dup2 zy_179 (show q_ins q_k179 140 = some (.dup2, 0, 0) from rfl) ⟨rfl, rfl⟩ ?_
        obtain ⟨hg, h⟩ := zt_ckE h
        refine zt_tld zy_179 (show q_ins q_k179 141 = some (.iaload, 0, 0) from rfl) hg ?_
        refine zt_iconst zy_179 (show q_ins q_k179 142 = some (.iconst 1, 0, 0) from rfl) ?_
        refine zt_iadd zy_179 (show q_ins q_k179 143 = some (.iadd, 0, 0) from rfl) ?_
        obtain ⟨hg, h⟩ := zt_ckE h
        obtain ⟨t22, ht22, h⟩ := zt_letE h
        refine zt_tst zy_179 (show q_ins q_k179 144 = some (.iastore, 0, 0) from rfl) hg ?_
        rw [← ht22]
        refine zt_iinc zy_179 (show q_ins q_k179 145 = some (.iinc 2 1, 0, 0) from rfl) (v := v2) (by decide) rfl ?_
        refine zt_iinc zy_179 (show q_ins q_k179 148 = some (.iinc 3 1, 0, 0) from rfl) (v := v3) (by decide) rfl ?_
        refine zt_goto zy_179 (show q_ins q_k179 151 = some (.goto (-60), 91, 0) from rfl) ?_
        exact zt_wk (zt_cov_cons rfl (zt_cov_cons rfl (zt_cov_cons rfl (zt_cov_cons rfl (zt_cov_nil))))) (ih _ _ _ _ _ _ h)
      · rw [if_neg hc] at h
        exact zt_wk (zt_cov_nil) (S_P_isOnce_135  _ _ _ h)
    · rw [if_neg hc] at h
      exact zt_wk (zt_cov_nil) (S_P_isOnce_135  _ _ _ h)
  · rw [if_neg hc] at h
    refine zt_iconst zy_179 (show q_ins q_k179 154 = some (.iconst 0, 0, 0) from rfl) ?_
    refine zt_istore_n zy_179 (show q_ins q_k179 155 = some (.istore_n 3, 0, 0) from rfl) (by decide) ?_
    exact zt_wk (zt_cov_cons rfl (zt_cov_cons rfl (zt_cov_cons rfl (zt_cov_cons rfl (zt_cov_nil))))) (S_P_isOnce_156  _ _ _ _ _ _ _ h)
set_option maxRecDepth 100000 in
theorem S_P_isOnce_9 {X : q_X}   : ∀ (n : Nat) (v1 : Nat) (v2 : Int) (v3 : Int) (σ : zt_S) (T : zt_T) (o : (Int × zt_S × zt_T)), F_P_isOnce_9  n v1 v2 v3 σ T = some o → zt_Ex X 3 179 9 [(0, .ref 0), (1, .ref (163 + v1)), (2, .int (Int32.ofInt v2)), (3, .int (Int32.ofInt v3))] [] (zt_M T σ) (zl_I o) := by
  intro n
  induction n with
  | zero => intro v1 v2 v3 σ T o  h; cases h
  | succ n ih =>
  intro v1 v2 v3 σ T o  h
  rw [F_P_isOnce_9] at h
  refine zt_iload_n zy_179 (show q_ins q_k179 9 = some (.iload_n 3, 0, 0) from rfl) (v := Int32.ofInt v3) rfl ?_
  refine zt_aload_n zy_179 (show q_ins q_k179 10 = some (.aload_n 0, 0, 0) from rfl) (v := 0) rfl ?_
  refine zt_iconst zy_179 (show q_ins q_k179 11 = some (.iconst 1, 0, 0) from rfl) ?_
  obtain ⟨a3, s4, hca3, h⟩ := zt_byE h
  refine zt_callV (d := 2) zy_179 (show q_ins q_k179 12 = some (.invokevirtual 86, 122, 1) from rfl) zy_122 (by decide) ⟨zq_lt (by decide), by decide⟩ rfl (by simp [Value.category]) (by simp [lg_sl, Value.category]) (zt_rcv zc_0) (zt_dm (by decide) (S_C_size hca3)) ?_
  obtain ⟨hg, h⟩ := zt_ckE h
  refine zt_icmp_ge zy_179 (show q_ins q_k179 15 = some (.if_icmp .ge 74, 89, 0) from rfl) (⟨hg.1, hg.2⟩) (fun hc => ?_) (fun hc => ?_)
  · rw [if_pos hc] at h
    refine zt_iconst zy_179 (show q_ins q_k179 18 = some (.iconst (-1), 0, 0) from rfl) ?_
    refine zt_istore zy_179 (show q_ins q_k179 19 = some (.istore 4, 0, 0) from rfl) (by decide) ?_
    refine zt_iconst zy_179 (show q_ins q_k179 21 = some (.iconst 0, 0, 0) from rfl) ?_
    refine zt_istore zy_179 (show q_ins q_k179 22 = some (.istore 5, 0, 0) from rfl) (by decide) ?_
    exact zt_wk (zt_cov_cons rfl (zt_cov_cons rfl (zt_cov_cons rfl (zt_cov_cons rfl (zt_cov_cons rfl (zt_cov_cons rfl (zt_cov_nil))))))) (S_P_isOnce_24  ih _ _ _ _ _ _ _ _ _ h)
  · rw [if_neg hc] at h
    refine zt_iconst zy_179 (show q_ins q_k179 89 = some (.iconst 0, 0, 0) from rfl) ?_
    refine zt_istore_n zy_179 (show q_ins q_k179 90 = some (.istore_n 3, 0, 0) from rfl) (by decide) ?_
    exact zt_wk (zt_cov_cons rfl (zt_cov_cons rfl (zt_cov_cons rfl (zt_cov_cons rfl (zt_cov_nil))))) (S_P_isOnce_91  _ _ _ _ _ _ _ h)
set_option maxRecDepth 100000 in
theorem S_P_isOnce {X : q_X}    {σ : zt_S} {T : zt_T} {o : (Int × zt_S × zt_T)} (h : F_P_isOnce   σ T = some o) : zt_Ex X 3 179 0 (lv_args 0 [.ref 0]) [] (zt_M T σ) (zl_I o) := by
  unfold F_P_isOnce at h
  refine zt_bipush zy_179 (show q_ins q_k179 0 = some (.bipush 52, 0, 0) from rfl) (by decide) ?_
  obtain ⟨hg, h⟩ := zt_ckE h
  obtain ⟨k2, t1, hk2, ht1, h⟩ := zt_lTE h
  refine zt_tnw (l := 52) zy_179 (show q_ins q_k179 2 = some (.newarray .int, 0, 0) from rfl) (by decide) hg.2 hg.1 ?_
  rw [← hk2, ← ht1]
  refine zt_astore_n zy_179 (show q_ins q_k179 4 = some (.astore_n 1, 0, 0) from rfl) (by decide) ?_
  refine zt_iconst zy_179 (show q_ins q_k179 5 = some (.iconst 0, 0, 0) from rfl) ?_
  refine zt_istore_n zy_179 (show q_ins q_k179 6 = some (.istore_n 2, 0, 0) from rfl) (by decide) ?_
  refine zt_iconst zy_179 (show q_ins q_k179 7 = some (.iconst 0, 0, 0) from rfl) ?_
  refine zt_istore_n zy_179 (show q_ins q_k179 8 = some (.istore_n 3, 0, 0) from rfl) (by decide) ?_
  exact zt_wk (zt_cov_cons rfl (zt_cov_cons rfl (zt_cov_cons rfl (zt_cov_cons rfl (zt_cov_nil))))) (S_P_isOnce_9  _ _ _ _ _ _ _ h)
set_option maxRecDepth 100000 in
theorem S_P_power_38 {X : q_X}   : ∀ (x0 : Int) (σ : zt_S) (T : zt_T) (o : (Int × zt_S × zt_T)), F_P_power_38  x0 σ T = some o → zt_Ex X 3 180 38 [] [.int (Int32.ofInt x0)] (zt_M T σ) (zl_I o) := by
  intro x0 σ T o  h
  unfold F_P_power_38 at h
  cases h
  exact zt_iret zy_180 (show q_ins q_k180 38 = some (.ireturn, 0, 0) from rfl)
set_option maxRecDepth 100000 in
theorem S_P_power {X : q_X}   {v1 : Int} {v2 : Int} {v3 : Int} {v4 : Int} {σ : zt_S} {T : zt_T} {o : (Int × zt_S × zt_T)} (h : F_P_power  v1 v2 v3 v4 σ T = some o) : zt_Ex X 3 180 0 (lv_args 0 [.ref 0, .int (Int32.ofInt v1), .int (Int32.ofInt v2), .int (Int32.ofInt v3), .int (Int32.ofInt v4)]) [] (zt_M T σ) (zl_I o) := by
  unfold F_P_power at h
  refine zt_aload_n zy_180 (show q_ins q_k180 0 = some (.aload_n 0, 0, 0) from rfl) (v := 0) rfl ?_
  refine zt_iload_n zy_180 (show q_ins q_k180 1 = some (.iload_n 1, 0, 0) from rfl) (v := Int32.ofInt v1) rfl ?_
  obtain ⟨a1, s2, hca1, h⟩ := zt_byE h
  refine zt_callV (d := 2) zy_180 (show q_ins q_k180 2 = some (.invokevirtual 157, 123, 1) from rfl) zy_123 (by decide) ⟨zq_lt (by decide), by decide⟩ rfl (by simp [Value.category]) (by simp [lg_sl, Value.category]) (zt_rcv zc_0) (zt_dm (by decide) (S_C_suit hca1)) ?_
  refine zt_iload_n zy_180 (show q_ins q_k180 5 = some (.iload_n 3, 0, 0) from rfl) (v := Int32.ofInt v3) rfl ?_
  obtain ⟨hg, h⟩ := zt_ckE h
  refine zt_icmp_ne zy_180 (show q_ins q_k180 6 = some (.if_icmp .ne 14, 20, 0) from rfl) (⟨hg.1, hg.2⟩) (fun hc => ?_) (fun hc => ?_)
  · rw [if_pos hc] at h
    refine zt_aload_n zy_180 (show q_ins q_k180 9 = some (.aload_n 0, 0, 0) from rfl) (v := 0) rfl ?_
    refine zt_iload_n zy_180 (show q_ins q_k180 10 = some (.iload_n 1, 0, 0) from rfl) (v := Int32.ofInt v1) rfl ?_
    obtain ⟨a3, s4, hca3, h⟩ := zt_byE h
    refine zt_callV (d := 2) zy_180 (show q_ins q_k180 11 = some (.invokevirtual 160, 124, 1) from rfl) zy_124 (by decide) ⟨zq_lt (by decide), by decide⟩ rfl (by simp [Value.category]) (by simp [lg_sl, Value.category]) (zt_rcv zc_0) (zt_dm (by decide) (S_C_rank hca3)) ?_
    refine zt_iload zy_180 (show q_ins q_k180 14 = some (.iload 4, 0, 0) from rfl) (v := Int32.ofInt v4) rfl ?_
    refine zt_iadd zy_180 (show q_ins q_k180 16 = some (.iadd, 0, 0) from rfl) ?_
    refine zt_goto zy_180 (show q_ins q_k180 17 = some (.goto 21, 38, 0) from rfl) ?_
    exact zt_wk (zt_cov_nil) (S_P_power_38  _ _ _ _ h)
  · rw [if_neg hc] at h
    refine zt_aload_n zy_180 (show q_ins q_k180 20 = some (.aload_n 0, 0, 0) from rfl) (v := 0) rfl ?_
    refine zt_iload_n zy_180 (show q_ins q_k180 21 = some (.iload_n 1, 0, 0) from rfl) (v := Int32.ofInt v1) rfl ?_
    obtain ⟨a5, s6, hca5, h⟩ := zt_byE h
    refine zt_callV (d := 2) zy_180 (show q_ins q_k180 22 = some (.invokevirtual 157, 123, 1) from rfl) zy_123 (by decide) ⟨zq_lt (by decide), by decide⟩ rfl (by simp [Value.category]) (by simp [lg_sl, Value.category]) (zt_rcv zc_0) (zt_dm (by decide) (S_C_suit hca5)) ?_
    refine zt_iload_n zy_180 (show q_ins q_k180 25 = some (.iload_n 2, 0, 0) from rfl) (v := Int32.ofInt v2) rfl ?_
    obtain ⟨hg, h⟩ := zt_ckE h
    refine zt_icmp_ne zy_180 (show q_ins q_k180 26 = some (.if_icmp .ne 11, 37, 0) from rfl) (⟨hg.1, hg.2⟩) (fun hc => ?_) (fun hc => ?_)
    · rw [if_pos hc] at h
      refine zt_aload_n zy_180 (show q_ins q_k180 29 = some (.aload_n 0, 0, 0) from rfl) (v := 0) rfl ?_
      refine zt_iload_n zy_180 (show q_ins q_k180 30 = some (.iload_n 1, 0, 0) from rfl) (v := Int32.ofInt v1) rfl ?_
      obtain ⟨a7, s8, hca7, h⟩ := zt_byE h
      refine zt_callV (d := 2) zy_180 (show q_ins q_k180 31 = some (.invokevirtual 160, 124, 1) from rfl) zy_124 (by decide) ⟨zq_lt (by decide), by decide⟩ rfl (by simp [Value.category]) (by simp [lg_sl, Value.category]) (zt_rcv zc_0) (zt_dm (by decide) (S_C_rank hca7)) ?_
      refine zt_goto zy_180 (show q_ins q_k180 34 = some (.goto 4, 38, 0) from rfl) ?_
      exact zt_wk (zt_cov_nil) (S_P_power_38  _ _ _ _ h)
    · rw [if_neg hc] at h
      refine zt_iconst zy_180 (show q_ins q_k180 37 = some (.iconst 0, 0, 0) from rfl) ?_
      exact zt_wk (zt_cov_nil) (S_P_power_38  _ _ _ _ h)
set_option maxRecDepth 100000 in
theorem S_P_areLegal_100 {X : q_X}   {r45 : Int → Int → Int → Int → Int → Int → Int → Int → zt_S → zt_T → Option (Int × zt_S × zt_T)} (hr45 : ∀ (v1 : Int) (v2 : Int) (v3 : Int) (v4 : Int) (v5 : Int) (v6 : Int) (v7 : Int) (v8 : Int) (σ : zt_S) (T : zt_T) (o : (Int × zt_S × zt_T)), r45 v1 v2 v3 v4 v5 v6 v7 v8 σ T = some o → zt_Ex X 4 181 45 [(0, .ref 0), (1, .int (Int32.ofInt v1)), (2, .int (Int32.ofInt v2)), (3, .int (Int32.ofInt v3)), (4, .int (Int32.ofInt v4)), (5, .int (Int32.ofInt v5)), (6, .int (Int32.ofInt v6)), (7, .int (Int32.ofInt v7)), (8, .int (Int32.ofInt v8))] [] (zt_M T σ) (zl_I o)) : ∀ (v1 : Int) (v2 : Int) (v3 : Int) (v4 : Int) (v5 : Int) (v6 : Int) (v7 : Int) (v8 : Int) (σ : zt_S) (T : zt_T) (o : (Int × zt_S × zt_T)), F_P_areLegal_100  r45 v1 v2 v3 v4 v5 v6 v7 v8 σ T = some o → zt_Ex X 4 181 100 [(0, .ref 0), (1, .int (Int32.ofInt v1)), (2, .int (Int32.ofInt v2)), (3, .int (Int32.ofInt v3)), (4, .int (Int32.ofInt v4)), (5, .int (Int32.ofInt v5)), (6, .int (Int32.ofInt v6)), (7, .int (Int32.ofInt v7)), (8, .int (Int32.ofInt v8))] [] (zt_M T σ) (zl_I o) := by
  intro v1 v2 v3 v4 v5 v6 v7 v8 σ T o  h
  unfold F_P_areLegal_100 at h
  refine zt_iinc zy_181 (show q_ins q_k181 100 = some (.iinc 8 1, 0, 0) from rfl) (v := v8) (by decide) rfl ?_
  refine zt_goto zy_181 (show q_ins q_k181 103 = some (.goto (-58), 45, 0) from rfl) ?_
  exact zt_wk (zt_cov_cons rfl (zt_cov_cons rfl (zt_cov_cons rfl (zt_cov_cons rfl (zt_cov_cons rfl (zt_cov_cons rfl (zt_cov_cons rfl (zt_cov_cons rfl (zt_cov_cons rfl (zt_cov_nil)))))))))) (hr45 _ _ _ _ _ _ _ _ _ _ _ h)
set_option maxRecDepth 100000 in
theorem S_P_areLegal_483 {X : q_X}   {r250 : Int → Int → Int → Int → Int → Int → Int → zt_S → zt_T → Option (Int × zt_S × zt_T)} (hr250 : ∀ (v1 : Int) (v2 : Int) (v3 : Int) (v4 : Int) (v6 : Int) (v8 : Int) (v9 : Int) (σ : zt_S) (T : zt_T) (o : (Int × zt_S × zt_T)), r250 v1 v2 v3 v4 v6 v8 v9 σ T = some o → zt_Ex X 4 181 250 [(0, .ref 0), (1, .int (Int32.ofInt v1)), (2, .int (Int32.ofInt v2)), (3, .int (Int32.ofInt v3)), (4, .int (Int32.ofInt v4)), (6, .int (Int32.ofInt v6)), (8, .int (Int32.ofInt v8)), (9, .int (Int32.ofInt v9))] [] (zt_M T σ) (zl_I o)) : ∀ (v1 : Int) (v3 : Int) (v4 : Int) (v6 : Int) (v8 : Int) (v9 : Int) (x0 : Int) (x1 : Int) (σ : zt_S) (T : zt_T) (o : (Int × zt_S × zt_T)), F_P_areLegal_483  r250 v1 v3 v4 v6 v8 v9 x0 x1 σ T = some o → zt_Ex X 4 181 483 [(0, .ref 0), (1, .int (Int32.ofInt v1)), (3, .int (Int32.ofInt v3)), (4, .int (Int32.ofInt v4)), (6, .int (Int32.ofInt v6)), (8, .int (Int32.ofInt v8)), (9, .int (Int32.ofInt v9))] [.int (Int32.ofInt x0), .int (Int32.ofInt x1)] (zt_M T σ) (zl_I o) := by
  intro v1 v3 v4 v6 v8 v9 x0 x1 σ T o  h
  unfold F_P_areLegal_483 at h
  refine zt_iadd zy_181 (show q_ins q_k181 483 = some (.iadd, 0, 0) from rfl) ?_
  refine zt_istore_n zy_181 (show q_ins q_k181 484 = some (.istore_n 2, 0, 0) from rfl) (by decide) ?_
  refine zt_iinc zy_181 (show q_ins q_k181 485 = some (.iinc 9 1, 0, 0) from rfl) (v := v9) (by decide) rfl ?_
  refine zt_goto zy_181 (show q_ins q_k181 488 = some (.goto (-238), 250, 0) from rfl) ?_
  exact zt_wk (zt_cov_cons rfl (zt_cov_cons rfl (zt_cov_cons rfl (zt_cov_cons rfl (zt_cov_cons rfl (zt_cov_cons rfl (zt_cov_cons rfl (zt_cov_cons rfl (zt_cov_nil))))))))) (hr250 _ _ _ _ _ _ _ _ _ _ h)
set_option maxRecDepth 100000 in
theorem S_P_areLegal_459 {X : q_X}   {r250 : Int → Int → Int → Int → Int → Int → Int → zt_S → zt_T → Option (Int × zt_S × zt_T)} (hr250 : ∀ (v1 : Int) (v2 : Int) (v3 : Int) (v4 : Int) (v6 : Int) (v8 : Int) (v9 : Int) (σ : zt_S) (T : zt_T) (o : (Int × zt_S × zt_T)), r250 v1 v2 v3 v4 v6 v8 v9 σ T = some o → zt_Ex X 4 181 250 [(0, .ref 0), (1, .int (Int32.ofInt v1)), (2, .int (Int32.ofInt v2)), (3, .int (Int32.ofInt v3)), (4, .int (Int32.ofInt v4)), (6, .int (Int32.ofInt v6)), (8, .int (Int32.ofInt v8)), (9, .int (Int32.ofInt v9))] [] (zt_M T σ) (zl_I o)) : ∀ (v1 : Int) (v2 : Int) (v3 : Int) (v4 : Int) (v6 : Int) (v8 : Int) (v9 : Int) (v11 : Int) (σ : zt_S) (T : zt_T) (o : (Int × zt_S × zt_T)), F_P_areLegal_459  r250 v1 v2 v3 v4 v6 v8 v9 v11 σ T = some o → zt_Ex X 4 181 459 [(0, .ref 0), (1, .int (Int32.ofInt v1)), (2, .int (Int32.ofInt v2)), (3, .int (Int32.ofInt v3)), (4, .int (Int32.ofInt v4)), (6, .int (Int32.ofInt v6)), (8, .int (Int32.ofInt v8)), (9, .int (Int32.ofInt v9)), (11, .int (Int32.ofInt v11))] [] (zt_M T σ) (zl_I o) := by
  intro v1 v2 v3 v4 v6 v8 v9 v11 σ T o  h
  unfold F_P_areLegal_459 at h
  refine zt_aload_n zy_181 (show q_ins q_k181 459 = some (.aload_n 0, 0, 0) from rfl) (v := 0) rfl ?_
  refine zt_iload zy_181 (show q_ins q_k181 460 = some (.iload 9, 0, 0) from rfl) (v := Int32.ofInt v9) rfl ?_
  obtain ⟨a41, s42, hca41, h⟩ := zt_byE h
  refine zt_callV (d := 3) zy_181 (show q_ins q_k181 462 = some (.invokevirtual 182, 129, 1) from rfl) zy_129 (by decide) ⟨zq_lt (by decide), by decide⟩ rfl (by simp [Value.category]) (by simp [lg_sl, Value.category]) (zt_rcv zc_0) (zt_dm (by decide) (S_C_isLegal hca41)) ?_
  refine zt_iload zy_181 (show q_ins q_k181 465 = some (.iload 11, 0, 0) from rfl) (v := Int32.ofInt v11) rfl ?_
  obtain ⟨hg, h⟩ := zt_ckE h
  refine zt_icmp_eq zy_181 (show q_ins q_k181 467 = some (.if_icmp .eq 5, 472, 0) from rfl) (⟨hg.1, hg.2⟩) (fun hc => ?_) (fun hc => ?_)
  · rw [if_pos hc] at h
    refine zt_iload_n zy_181 (show q_ins q_k181 472 = some (.iload_n 2, 0, 0) from rfl) (v := Int32.ofInt v2) rfl ?_
    refine zt_iload zy_181 (show q_ins q_k181 473 = some (.iload 11, 0, 0) from rfl) (v := Int32.ofInt v11) rfl ?_
    obtain ⟨hg, h⟩ := zt_ckE h
    refine zt_if_eq zy_181 (show q_ins q_k181 475 = some (.ifCond .eq 7, 482, 0) from rfl) (hg) (fun hc => ?_) (fun hc => ?_)
    · rw [if_pos hc] at h
      refine zt_iconst zy_181 (show q_ins q_k181 482 = some (.iconst 0, 0, 0) from rfl) ?_
      exact zt_wk (zt_cov_cons rfl (zt_cov_cons rfl (zt_cov_cons rfl (zt_cov_cons rfl (zt_cov_cons rfl (zt_cov_cons rfl (zt_cov_cons rfl (zt_cov_nil)))))))) (S_P_areLegal_483  hr250 _ _ _ _ _ _ _ _ _ _ _ h)
    · rw [if_neg hc] at h
      refine zt_iconst zy_181 (show q_ins q_k181 478 = some (.iconst 1, 0, 0) from rfl) ?_
      refine zt_goto zy_181 (show q_ins q_k181 479 = some (.goto 4, 483, 0) from rfl) ?_
      exact zt_wk (zt_cov_cons rfl (zt_cov_cons rfl (zt_cov_cons rfl (zt_cov_cons rfl (zt_cov_cons rfl (zt_cov_cons rfl (zt_cov_cons rfl (zt_cov_nil)))))))) (S_P_areLegal_483  hr250 _ _ _ _ _ _ _ _ _ _ _ h)
  · rw [if_neg hc] at h
    refine zt_iconst zy_181 (show q_ins q_k181 470 = some (.iconst 0, 0, 0) from rfl) ?_
    cases h
    exact zt_zret zy_181 (show q_ins q_k181 471 = some (.ireturn, 0, 0) from rfl) (by decide)
set_option maxRecDepth 100000 in
theorem S_P_areLegal_412 {X : q_X}   {r250 : Int → Int → Int → Int → Int → Int → Int → zt_S → zt_T → Option (Int × zt_S × zt_T)} (hr250 : ∀ (v1 : Int) (v2 : Int) (v3 : Int) (v4 : Int) (v6 : Int) (v8 : Int) (v9 : Int) (σ : zt_S) (T : zt_T) (o : (Int × zt_S × zt_T)), r250 v1 v2 v3 v4 v6 v8 v9 σ T = some o → zt_Ex X 4 181 250 [(0, .ref 0), (1, .int (Int32.ofInt v1)), (2, .int (Int32.ofInt v2)), (3, .int (Int32.ofInt v3)), (4, .int (Int32.ofInt v4)), (6, .int (Int32.ofInt v6)), (8, .int (Int32.ofInt v8)), (9, .int (Int32.ofInt v9))] [] (zt_M T σ) (zl_I o)) : ∀ (v1 : Int) (v2 : Int) (v3 : Int) (v4 : Int) (v6 : Int) (v8 : Int) (v9 : Int) (x0 : Int) (σ : zt_S) (T : zt_T) (o : (Int × zt_S × zt_T)), F_P_areLegal_412  r250 v1 v2 v3 v4 v6 v8 v9 x0 σ T = some o → zt_Ex X 4 181 412 [(0, .ref 0), (1, .int (Int32.ofInt v1)), (2, .int (Int32.ofInt v2)), (3, .int (Int32.ofInt v3)), (4, .int (Int32.ofInt v4)), (6, .int (Int32.ofInt v6)), (8, .int (Int32.ofInt v8)), (9, .int (Int32.ofInt v9))] [.int (Int32.ofInt x0)] (zt_M T σ) (zl_I o) := by
  intro v1 v2 v3 v4 v6 v8 v9 x0 σ T o  h
  unfold F_P_areLegal_412 at h
  refine zt_istore zy_181 (show q_ins q_k181 412 = some (.istore 11, 0, 0) from rfl) (by decide) ?_
  refine zt_goto zy_181 (show q_ins q_k181 414 = some (.goto 45, 459, 0) from rfl) ?_
  exact zt_wk (zt_cov_cons rfl (zt_cov_cons rfl (zt_cov_cons rfl (zt_cov_cons rfl (zt_cov_cons rfl (zt_cov_cons rfl (zt_cov_cons rfl (zt_cov_cons rfl (zt_cov_cons rfl (zt_cov_nil)))))))))) (S_P_areLegal_459  hr250 _ _ _ _ _ _ _ _ _ _ _ h)
set_option maxRecDepth 100000 in
theorem S_P_areLegal_407 {X : q_X}   {r250 : Int → Int → Int → Int → Int → Int → Int → zt_S → zt_T → Option (Int × zt_S × zt_T)} (hr250 : ∀ (v1 : Int) (v2 : Int) (v3 : Int) (v4 : Int) (v6 : Int) (v8 : Int) (v9 : Int) (σ : zt_S) (T : zt_T) (o : (Int × zt_S × zt_T)), r250 v1 v2 v3 v4 v6 v8 v9 σ T = some o → zt_Ex X 4 181 250 [(0, .ref 0), (1, .int (Int32.ofInt v1)), (2, .int (Int32.ofInt v2)), (3, .int (Int32.ofInt v3)), (4, .int (Int32.ofInt v4)), (6, .int (Int32.ofInt v6)), (8, .int (Int32.ofInt v8)), (9, .int (Int32.ofInt v9))] [] (zt_M T σ) (zl_I o)) : ∀ (v1 : Int) (v2 : Int) (v3 : Int) (v4 : Int) (v6 : Int) (v8 : Int) (v9 : Int) (σ : zt_S) (T : zt_T) (o : (Int × zt_S × zt_T)), F_P_areLegal_407  r250 v1 v2 v3 v4 v6 v8 v9 σ T = some o → zt_Ex X 4 181 407 [(0, .ref 0), (1, .int (Int32.ofInt v1)), (2, .int (Int32.ofInt v2)), (3, .int (Int32.ofInt v3)), (4, .int (Int32.ofInt v4)), (6, .int (Int32.ofInt v6)), (8, .int (Int32.ofInt v8)), (9, .int (Int32.ofInt v9))] [] (zt_M T σ) (zl_I o) := by
  intro v1 v2 v3 v4 v6 v8 v9 σ T o  h
  unfold F_P_areLegal_407 at h
  refine zt_iconst zy_181 (show q_ins q_k181 407 = some (.iconst 1, 0, 0) from rfl) ?_
  refine zt_goto zy_181 (show q_ins q_k181 408 = some (.goto 4, 412, 0) from rfl) ?_
  exact zt_wk (zt_cov_cons rfl (zt_cov_cons rfl (zt_cov_cons rfl (zt_cov_cons rfl (zt_cov_cons rfl (zt_cov_cons rfl (zt_cov_cons rfl (zt_cov_cons rfl (zt_cov_nil))))))))) (S_P_areLegal_412  hr250 _ _ _ _ _ _ _ _ _ _ _ h)
set_option maxRecDepth 100000 in
theorem S_P_areLegal_411 {X : q_X}   {r250 : Int → Int → Int → Int → Int → Int → Int → zt_S → zt_T → Option (Int × zt_S × zt_T)} (hr250 : ∀ (v1 : Int) (v2 : Int) (v3 : Int) (v4 : Int) (v6 : Int) (v8 : Int) (v9 : Int) (σ : zt_S) (T : zt_T) (o : (Int × zt_S × zt_T)), r250 v1 v2 v3 v4 v6 v8 v9 σ T = some o → zt_Ex X 4 181 250 [(0, .ref 0), (1, .int (Int32.ofInt v1)), (2, .int (Int32.ofInt v2)), (3, .int (Int32.ofInt v3)), (4, .int (Int32.ofInt v4)), (6, .int (Int32.ofInt v6)), (8, .int (Int32.ofInt v8)), (9, .int (Int32.ofInt v9))] [] (zt_M T σ) (zl_I o)) : ∀ (v1 : Int) (v2 : Int) (v3 : Int) (v4 : Int) (v6 : Int) (v8 : Int) (v9 : Int) (σ : zt_S) (T : zt_T) (o : (Int × zt_S × zt_T)), F_P_areLegal_411  r250 v1 v2 v3 v4 v6 v8 v9 σ T = some o → zt_Ex X 4 181 411 [(0, .ref 0), (1, .int (Int32.ofInt v1)), (2, .int (Int32.ofInt v2)), (3, .int (Int32.ofInt v3)), (4, .int (Int32.ofInt v4)), (6, .int (Int32.ofInt v6)), (8, .int (Int32.ofInt v8)), (9, .int (Int32.ofInt v9))] [] (zt_M T σ) (zl_I o) := by
  intro v1 v2 v3 v4 v6 v8 v9 σ T o  h
  unfold F_P_areLegal_411 at h
  refine zt_iconst zy_181 (show q_ins q_k181 411 = some (.iconst 0, 0, 0) from rfl) ?_
  exact zt_wk (zt_cov_cons rfl (zt_cov_cons rfl (zt_cov_cons rfl (zt_cov_cons rfl (zt_cov_cons rfl (zt_cov_cons rfl (zt_cov_cons rfl (zt_cov_cons rfl (zt_cov_nil))))))))) (S_P_areLegal_412  hr250 _ _ _ _ _ _ _ _ _ _ _ h)
set_option maxRecDepth 100000 in
theorem S_P_areLegal_457 {X : q_X}   {r250 : Int → Int → Int → Int → Int → Int → Int → zt_S → zt_T → Option (Int × zt_S × zt_T)} (hr250 : ∀ (v1 : Int) (v2 : Int) (v3 : Int) (v4 : Int) (v6 : Int) (v8 : Int) (v9 : Int) (σ : zt_S) (T : zt_T) (o : (Int × zt_S × zt_T)), r250 v1 v2 v3 v4 v6 v8 v9 σ T = some o → zt_Ex X 4 181 250 [(0, .ref 0), (1, .int (Int32.ofInt v1)), (2, .int (Int32.ofInt v2)), (3, .int (Int32.ofInt v3)), (4, .int (Int32.ofInt v4)), (6, .int (Int32.ofInt v6)), (8, .int (Int32.ofInt v8)), (9, .int (Int32.ofInt v9))] [] (zt_M T σ) (zl_I o)) : ∀ (v1 : Int) (v2 : Int) (v3 : Int) (v4 : Int) (v6 : Int) (v8 : Int) (v9 : Int) (x0 : Int) (σ : zt_S) (T : zt_T) (o : (Int × zt_S × zt_T)), F_P_areLegal_457  r250 v1 v2 v3 v4 v6 v8 v9 x0 σ T = some o → zt_Ex X 4 181 457 [(0, .ref 0), (1, .int (Int32.ofInt v1)), (2, .int (Int32.ofInt v2)), (3, .int (Int32.ofInt v3)), (4, .int (Int32.ofInt v4)), (6, .int (Int32.ofInt v6)), (8, .int (Int32.ofInt v8)), (9, .int (Int32.ofInt v9))] [.int (Int32.ofInt x0)] (zt_M T σ) (zl_I o) := by
  intro v1 v2 v3 v4 v6 v8 v9 x0 σ T o  h
  unfold F_P_areLegal_457 at h
  refine zt_istore zy_181 (show q_ins q_k181 457 = some (.istore 11, 0, 0) from rfl) (by decide) ?_
  exact zt_wk (zt_cov_cons rfl (zt_cov_cons rfl (zt_cov_cons rfl (zt_cov_cons rfl (zt_cov_cons rfl (zt_cov_cons rfl (zt_cov_cons rfl (zt_cov_cons rfl (zt_cov_cons rfl (zt_cov_nil)))))))))) (S_P_areLegal_459  hr250 _ _ _ _ _ _ _ _ _ _ _ h)
set_option maxRecDepth 100000 in
theorem S_P_areLegal_348 {X : q_X}   {r250 : Int → Int → Int → Int → Int → Int → Int → zt_S → zt_T → Option (Int × zt_S × zt_T)} (hr250 : ∀ (v1 : Int) (v2 : Int) (v3 : Int) (v4 : Int) (v6 : Int) (v8 : Int) (v9 : Int) (σ : zt_S) (T : zt_T) (o : (Int × zt_S × zt_T)), r250 v1 v2 v3 v4 v6 v8 v9 σ T = some o → zt_Ex X 4 181 250 [(0, .ref 0), (1, .int (Int32.ofInt v1)), (2, .int (Int32.ofInt v2)), (3, .int (Int32.ofInt v3)), (4, .int (Int32.ofInt v4)), (6, .int (Int32.ofInt v6)), (8, .int (Int32.ofInt v8)), (9, .int (Int32.ofInt v9))] [] (zt_M T σ) (zl_I o)) : ∀ (v1 : Int) (v2 : Int) (v3 : Int) (v4 : Int) (v6 : Int) (v8 : Int) (v9 : Int) (v10 : Int) (x0 : Int) (σ : zt_S) (T : zt_T) (o : (Int × zt_S × zt_T)), F_P_areLegal_348  r250 v1 v2 v3 v4 v6 v8 v9 v10 x0 σ T = some o → zt_Ex X 4 181 348 [(0, .ref 0), (1, .int (Int32.ofInt v1)), (2, .int (Int32.ofInt v2)), (3, .int (Int32.ofInt v3)), (4, .int (Int32.ofInt v4)), (6, .int (Int32.ofInt v6)), (8, .int (Int32.ofInt v8)), (9, .int (Int32.ofInt v9)), (10, .int (Int32.ofInt v10))] [.int (Int32.ofInt x0)] (zt_M T σ) (zl_I o) := by
  intro v1 v2 v3 v4 v6 v8 v9 v10 x0 σ T o  h
  unfold F_P_areLegal_348 at h
  refine zt_istore zy_181 (show q_ins q_k181 348 = some (.istore 11, 0, 0) from rfl) (by decide) ?_
  refine zt_iload zy_181 (show q_ins q_k181 350 = some (.iload 11, 0, 0) from rfl) (v := Int32.ofInt x0) rfl ?_
  obtain ⟨hg, h⟩ := zt_ckE h
  refine zt_if_eq zy_181 (show q_ins q_k181 352 = some (.ifCond .eq 107, 459, 0) from rfl) (hg) (fun hc => ?_) (fun hc => ?_)
  · rw [if_pos hc] at h
    exact zt_wk (zt_cov_cons rfl (zt_cov_cons rfl (zt_cov_cons rfl (zt_cov_cons rfl (zt_cov_cons rfl (zt_cov_cons rfl (zt_cov_cons rfl (zt_cov_cons rfl (zt_cov_cons rfl (zt_cov_nil)))))))))) (S_P_areLegal_459  hr250 _ _ _ _ _ _ _ _ _ _ _ h)
  · rw [if_neg hc] at h
    refine zt_aload_n zy_181 (show q_ins q_k181 355 = some (.aload_n 0, 0, 0) from rfl) (v := 0) rfl ?_
    refine zt_iconst zy_181 (show q_ins q_k181 356 = some (.iconst 3, 0, 0) from rfl) ?_
    obtain ⟨a43, s44, hca43, h⟩ := zt_byE h
    refine zt_callV (d := 3) zy_181 (show q_ins q_k181 357 = some (.invokevirtual 86, 122, 1) from rfl) zy_122 (by decide) ⟨zq_lt (by decide), by decide⟩ rfl (by simp [Value.category]) (by simp [lg_sl, Value.category]) (zt_rcv zc_0) (zt_dm (by decide) (S_C_size hca43)) ?_
    obtain ⟨hg, h⟩ := zt_ckE h
    refine zt_if_le zy_181 (show q_ins q_k181 360 = some (.ifCond .le 99, 459, 0) from rfl) (hg) (fun hc => ?_) (fun hc => ?_)
    · rw [if_pos hc] at h
      refine zt_iload_n zy_181 (show q_ins q_k181 363 = some (.iload_n 3, 0, 0) from rfl) (v := Int32.ofInt v3) rfl ?_
      obtain ⟨hg, h⟩ := zt_ckE h
      refine zt_if_lt zy_181 (show q_ins q_k181 364 = some (.ifCond .lt 95, 459, 0) from rfl) (hg) (fun hc => ?_) (fun hc => ?_)
      · rw [if_pos hc] at h
        exact zt_wk (zt_cov_cons rfl (zt_cov_cons rfl (zt_cov_cons rfl (zt_cov_cons rfl (zt_cov_cons rfl (zt_cov_cons rfl (zt_cov_cons rfl (zt_cov_cons rfl (zt_cov_cons rfl (zt_cov_nil)))))))))) (S_P_areLegal_459  hr250 _ _ _ _ _ _ _ _ _ _ _ h)
      · rw [if_neg hc] at h
        refine zt_aload_n zy_181 (show q_ins q_k181 367 = some (.aload_n 0, 0, 0) from rfl) (v := 0) rfl ?_
        refine zt_iload_n zy_181 (show q_ins q_k181 368 = some (.iload_n 1, 0, 0) from rfl) (v := Int32.ofInt v1) rfl ?_
        refine zt_iload_n zy_181 (show q_ins q_k181 369 = some (.iload_n 3, 0, 0) from rfl) (v := Int32.ofInt v3) rfl ?_
        obtain ⟨a45, s46, hca45, h⟩ := zt_byE h
        refine zt_callV (d := 3) zy_181 (show q_ins q_k181 370 = some (.invokevirtual 179, 128, 2) from rfl) zy_128 (by decide) ⟨zq_lt (by decide), by decide⟩ rfl (by simp [Value.category]) (by simp [lg_sl, Value.category]) (zt_rcv zc_0) (zt_dm (by decide) (S_C_ofSuit hca45)) ?_
        obtain ⟨hg, h⟩ := zt_ckE h
        refine zt_if_le zy_181 (show q_ins q_k181 373 = some (.ifCond .le 44, 417, 0) from rfl) (hg) (fun hc => ?_) (fun hc => ?_)
        · rw [if_pos hc] at h
          refine zt_aload_n zy_181 (show q_ins q_k181 376 = some (.aload_n 0, 0, 0) from rfl) (v := 0) rfl ?_
          refine zt_iload zy_181 (show q_ins q_k181 377 = some (.iload 9, 0, 0) from rfl) (v := Int32.ofInt v9) rfl ?_
          obtain ⟨a47, s48, hca47, h⟩ := zt_byE h
          refine zt_callV (d := 3) zy_181 (show q_ins q_k181 379 = some (.invokevirtual 157, 123, 1) from rfl) zy_123 (by decide) ⟨zq_lt (by decide), by decide⟩ rfl (by simp [Value.category]) (by simp [lg_sl, Value.category]) (zt_rcv zc_0) (zt_dm (by decide) (S_C_suit hca47)) ?_
          refine zt_iload_n zy_181 (show q_ins q_k181 382 = some (.iload_n 3, 0, 0) from rfl) (v := Int32.ofInt v3) rfl ?_
          obtain ⟨hg, h⟩ := zt_ckE h
          refine zt_icmp_ne zy_181 (show q_ins q_k181 383 = some (.if_icmp .ne 28, 411, 0) from rfl) (⟨hg.1, hg.2⟩) (fun hc => ?_) (fun hc => ?_)
          · rw [if_pos hc] at h
            refine zt_aload_n zy_181 (show q_ins q_k181 386 = some (.aload_n 0, 0, 0) from rfl) (v := 0) rfl ?_
            refine zt_iconst zy_181 (show q_ins q_k181 387 = some (.iconst 3, 0, 0) from rfl) ?_
            obtain ⟨a49, s50, hca49, h⟩ := zt_byE h
            refine zt_callV (d := 3) zy_181 (show q_ins q_k181 388 = some (.invokevirtual 86, 122, 1) from rfl) zy_122 (by decide) ⟨zq_lt (by decide), by decide⟩ rfl (by simp [Value.category]) (by simp [lg_sl, Value.category]) (zt_rcv zc_0) (zt_dm (by decide) (S_C_size hca49)) ?_
            refine zt_iconst zy_181 (show q_ins q_k181 391 = some (.iconst 2, 0, 0) from rfl) ?_
            obtain ⟨hg, h⟩ := zt_ckE h
            refine zt_icmp_ne zy_181 (show q_ins q_k181 392 = some (.if_icmp .ne 15, 407, 0) from rfl) (⟨hg, by decide⟩) (fun hc => ?_) (fun hc => ?_)
            · rw [if_pos hc] at h
              refine zt_iload zy_181 (show q_ins q_k181 395 = some (.iload 8, 0, 0) from rfl) (v := Int32.ofInt v8) rfl ?_
              obtain ⟨hg, h⟩ := zt_ckE h
              refine zt_if_eq zy_181 (show q_ins q_k181 397 = some (.ifCond .eq 10, 407, 0) from rfl) (hg) (fun hc => ?_) (fun hc => ?_)
              · rw [if_pos hc] at h
                exact zt_wk (zt_cov_cons rfl (zt_cov_cons rfl (zt_cov_cons rfl (zt_cov_cons rfl (zt_cov_cons rfl (zt_cov_cons rfl (zt_cov_cons rfl (zt_cov_cons rfl (zt_cov_nil))))))))) (S_P_areLegal_407  hr250 _ _ _ _ _ _ _ _ _ _ h)
              · rw [if_neg hc] at h
                refine zt_iload zy_181 (show q_ins q_k181 400 = some (.iload 10, 0, 0) from rfl) (v := Int32.ofInt v10) rfl ?_
                refine zt_iload zy_181 (show q_ins q_k181 402 = some (.iload 6, 0, 0) from rfl) (v := Int32.ofInt v6) rfl ?_
                obtain ⟨hg, h⟩ := zt_ckE h
                refine zt_icmp_le zy_181 (show q_ins q_k181 404 = some (.if_icmp .le 7, 411, 0) from rfl) (⟨hg.1, hg.2⟩) (fun hc => ?_) (fun hc => ?_)
                · rw [if_pos hc] at h
                  exact zt_wk (zt_cov_cons rfl (zt_cov_cons rfl (zt_cov_cons rfl (zt_cov_cons rfl (zt_cov_cons rfl (zt_cov_cons rfl (zt_cov_cons rfl (zt_cov_cons rfl (zt_cov_nil))))))))) (S_P_areLegal_407  hr250 _ _ _ _ _ _ _ _ _ _ h)
                · rw [if_neg hc] at h
                  exact zt_wk (zt_cov_cons rfl (zt_cov_cons rfl (zt_cov_cons rfl (zt_cov_cons rfl (zt_cov_cons rfl (zt_cov_cons rfl (zt_cov_cons rfl (zt_cov_cons rfl (zt_cov_nil))))))))) (S_P_areLegal_411  hr250 _ _ _ _ _ _ _ _ _ _ h)
            · rw [if_neg hc] at h
              exact zt_wk (zt_cov_cons rfl (zt_cov_cons rfl (zt_cov_cons rfl (zt_cov_cons rfl (zt_cov_cons rfl (zt_cov_cons rfl (zt_cov_cons rfl (zt_cov_cons rfl (zt_cov_nil))))))))) (S_P_areLegal_407  hr250 _ _ _ _ _ _ _ _ _ _ h)
          · rw [if_neg hc] at h
            exact zt_wk (zt_cov_cons rfl (zt_cov_cons rfl (zt_cov_cons rfl (zt_cov_cons rfl (zt_cov_cons rfl (zt_cov_cons rfl (zt_cov_cons rfl (zt_cov_cons rfl (zt_cov_nil))))))))) (S_P_areLegal_411  hr250 _ _ _ _ _ _ _ _ _ _ h)
        · rw [if_neg hc] at h
          refine zt_aload_n zy_181 (show q_ins q_k181 417 = some (.aload_n 0, 0, 0) from rfl) (v := 0) rfl ?_
          refine zt_iconst zy_181 (show q_ins q_k181 418 = some (.iconst 3, 0, 0) from rfl) ?_
          obtain ⟨a51, s52, hca51, h⟩ := zt_byE h
          refine zt_callV (d := 3) zy_181 (show q_ins q_k181 419 = some (.invokevirtual 86, 122, 1) from rfl) zy_122 (by decide) ⟨zq_lt (by decide), by decide⟩ rfl (by simp [Value.category]) (by simp [lg_sl, Value.category]) (zt_rcv zc_0) (zt_dm (by decide) (S_C_size hca51)) ?_
          refine zt_iconst zy_181 (show q_ins q_k181 422 = some (.iconst 3, 0, 0) from rfl) ?_
          obtain ⟨hg, h⟩ := zt_ckE h
          refine zt_icmp_ne zy_181 (show q_ins q_k181 423 = some (.if_icmp .ne 36, 459, 0) from rfl) (⟨hg, by decide⟩) (fun hc => ?_) (fun hc => ?_)
          · rw [if_pos hc] at h
            refine zt_iload zy_181 (show q_ins q_k181 426 = some (.iload 4, 0, 0) from rfl) (v := Int32.ofInt v4) rfl ?_
            obtain ⟨hg, h⟩ := zt_ckE h
            refine zt_if_lt zy_181 (show q_ins q_k181 428 = some (.ifCond .lt 31, 459, 0) from rfl) (hg) (fun hc => ?_) (fun hc => ?_)
            · rw [if_pos hc] at h
              exact zt_wk (zt_cov_cons rfl (zt_cov_cons rfl (zt_cov_cons rfl (zt_cov_cons rfl (zt_cov_cons rfl (zt_cov_cons rfl (zt_cov_cons rfl (zt_cov_cons rfl (zt_cov_cons rfl (zt_cov_nil)))))))))) (S_P_areLegal_459  hr250 _ _ _ _ _ _ _ _ _ _ _ h)
            · rw [if_neg hc] at h
              refine zt_aload_n zy_181 (show q_ins q_k181 431 = some (.aload_n 0, 0, 0) from rfl) (v := 0) rfl ?_
              refine zt_iload_n zy_181 (show q_ins q_k181 432 = some (.iload_n 1, 0, 0) from rfl) (v := Int32.ofInt v1) rfl ?_
              refine zt_iload zy_181 (show q_ins q_k181 433 = some (.iload 4, 0, 0) from rfl) (v := Int32.ofInt v4) rfl ?_
              obtain ⟨a53, s54, hca53, h⟩ := zt_byE h
              refine zt_callV (d := 3) zy_181 (show q_ins q_k181 435 = some (.invokevirtual 179, 128, 2) from rfl) zy_128 (by decide) ⟨zq_lt (by decide), by decide⟩ rfl (by simp [Value.category]) (by simp [lg_sl, Value.category]) (zt_rcv zc_0) (zt_dm (by decide) (S_C_ofSuit hca53)) ?_
              obtain ⟨hg, h⟩ := zt_ckE h
              refine zt_if_le zy_181 (show q_ins q_k181 438 = some (.ifCond .le 21, 459, 0) from rfl) (hg) (fun hc => ?_) (fun hc => ?_)
              · rw [if_pos hc] at h
                refine zt_aload_n zy_181 (show q_ins q_k181 441 = some (.aload_n 0, 0, 0) from rfl) (v := 0) rfl ?_
                refine zt_iload zy_181 (show q_ins q_k181 442 = some (.iload 9, 0, 0) from rfl) (v := Int32.ofInt v9) rfl ?_
                obtain ⟨a55, s56, hca55, h⟩ := zt_byE h
                refine zt_callV (d := 3) zy_181 (show q_ins q_k181 444 = some (.invokevirtual 157, 123, 1) from rfl) zy_123 (by decide) ⟨zq_lt (by decide), by decide⟩ rfl (by simp [Value.category]) (by simp [lg_sl, Value.category]) (zt_rcv zc_0) (zt_dm (by decide) (S_C_suit hca55)) ?_
                refine zt_iload zy_181 (show q_ins q_k181 447 = some (.iload 4, 0, 0) from rfl) (v := Int32.ofInt v4) rfl ?_
                obtain ⟨hg, h⟩ := zt_ckE h
                refine zt_icmp_ne zy_181 (show q_ins q_k181 449 = some (.if_icmp .ne 7, 456, 0) from rfl) (⟨hg.1, hg.2⟩) (fun hc => ?_) (fun hc => ?_)
                · rw [if_pos hc] at h
                  refine zt_iconst zy_181 (show q_ins q_k181 452 = some (.iconst 1, 0, 0) from rfl) ?_
                  refine zt_goto zy_181 (show q_ins q_k181 453 = some (.goto 4, 457, 0) from rfl) ?_
                  exact zt_wk (zt_cov_cons rfl (zt_cov_cons rfl (zt_cov_cons rfl (zt_cov_cons rfl (zt_cov_cons rfl (zt_cov_cons rfl (zt_cov_cons rfl (zt_cov_cons rfl (zt_cov_nil))))))))) (S_P_areLegal_457  hr250 _ _ _ _ _ _ _ _ _ _ _ h)
                · rw [if_neg hc] at h
                  refine zt_iconst zy_181 (show q_ins q_k181 456 = some (.iconst 0, 0, 0) from rfl) ?_
                  exact zt_wk (zt_cov_cons rfl (zt_cov_cons rfl (zt_cov_cons rfl (zt_cov_cons rfl (zt_cov_cons rfl (zt_cov_cons rfl (zt_cov_cons rfl (zt_cov_cons rfl (zt_cov_nil))))))))) (S_P_areLegal_457  hr250 _ _ _ _ _ _ _ _ _ _ _ h)
              · rw [if_neg hc] at h
                exact zt_wk (zt_cov_cons rfl (zt_cov_cons rfl (zt_cov_cons rfl (zt_cov_cons rfl (zt_cov_cons rfl (zt_cov_cons rfl (zt_cov_cons rfl (zt_cov_cons rfl (zt_cov_cons rfl (zt_cov_nil)))))))))) (S_P_areLegal_459  hr250 _ _ _ _ _ _ _ _ _ _ _ h)
          · rw [if_neg hc] at h
            exact zt_wk (zt_cov_cons rfl (zt_cov_cons rfl (zt_cov_cons rfl (zt_cov_cons rfl (zt_cov_cons rfl (zt_cov_cons rfl (zt_cov_cons rfl (zt_cov_cons rfl (zt_cov_cons rfl (zt_cov_nil)))))))))) (S_P_areLegal_459  hr250 _ _ _ _ _ _ _ _ _ _ _ h)
    · rw [if_neg hc] at h
      exact zt_wk (zt_cov_cons rfl (zt_cov_cons rfl (zt_cov_cons rfl (zt_cov_cons rfl (zt_cov_cons rfl (zt_cov_cons rfl (zt_cov_cons rfl (zt_cov_cons rfl (zt_cov_cons rfl (zt_cov_nil)))))))))) (S_P_areLegal_459  hr250 _ _ _ _ _ _ _ _ _ _ _ h)
