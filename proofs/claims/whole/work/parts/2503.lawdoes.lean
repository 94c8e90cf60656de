/-! the mini-machine does what the law's function says (by program) -/
set_option maxRecDepth 100000 in
theorem S_L_law_2143 {X : q_X} (hX : X.1 ≤ 1000000)   {r28 : Int → zt_S → Option (Int × zt_S)} (hr28 : ∀ (v5 : Int) (σ : zt_S) (o : (Int × zt_S)), r28 v5 σ = some o → zt_Ex X 54 351 28 [(0, .ref q_big), (1, .ref 0), (2, .ref 163), (3, .ref 184), (4, .ref 185), (5, .int (Int32.ofInt v5))] [] (zt_M σ) (zo_I o)) : ∀ (v5 : Int) (σ : zt_S) (o : (Int × zt_S)), F_L_law_2143 X  r28 v5 σ = some o → zt_Ex X 54 351 2143 [(0, .ref q_big), (1, .ref 0), (2, .ref 163), (3, .ref 184), (4, .ref 185), (5, .int (Int32.ofInt v5))] [] (zt_M σ) (zo_I o) := by
  intro v5 σ o  h
  unfold F_L_law_2143 at h
  refine zt_goto zy_351 (show q_ins q_k351 2143 = some (.goto 455, 2598, 0) from rfl) ?_
  exact zt_wk (zt_cov_cons rfl (zt_cov_cons rfl (zt_cov_cons rfl (zt_cov_cons rfl (zt_cov_cons rfl (zt_cov_cons rfl (zt_cov_nil))))))) (S_L_law_2598 hX  hr28 _ _ _ h)
set_option maxRecDepth 100000 in
theorem S_L_law_2078 {X : q_X} (hX : X.1 ≤ 1000000)   {r28 : Int → zt_S → Option (Int × zt_S)} (hr28 : ∀ (v5 : Int) (σ : zt_S) (o : (Int × zt_S)), r28 v5 σ = some o → zt_Ex X 54 351 28 [(0, .ref q_big), (1, .ref 0), (2, .ref 163), (3, .ref 184), (4, .ref 185), (5, .int (Int32.ofInt v5))] [] (zt_M σ) (zo_I o)) : ∀ (v5 : Int) (σ : zt_S) (o : (Int × zt_S)), F_L_law_2078 X  r28 v5 σ = some o → zt_Ex X 54 351 2078 [(0, .ref q_big), (1, .ref 0), (2, .ref 163), (3, .ref 184), (4, .ref 185), (5, .int (Int32.ofInt v5))] [] (zt_M σ) (zo_I o) := by
  intro v5 σ o  h
  unfold F_L_law_2078 at h
  refine zt_aload_n zy_351 (show q_ins q_k351 2078 = some (.aload_n 1, 0, 0) from rfl) (v := 0) rfl ?_
  refine zt_aload_n zy_351 (show q_ins q_k351 2079 = some (.aload_n 0, 0, 0) from rfl) (v := q_big) rfl ?_
  refine zt_iload zy_351 (show q_ins q_k351 2080 = some (.iload 5, 0, 0) from rfl) (v := Int32.ofInt v5) rfl ?_
  refine zt_iconst zy_351 (show q_ins q_k351 2082 = some (.iconst 1, 0, 0) from rfl) ?_
  refine zt_iadd zy_351 (show q_ins q_k351 2083 = some (.iadd, 0, 0) from rfl) ?_
  obtain ⟨hg, h⟩ := zt_ckE h
  refine zt_sld zy_351 (show q_ins q_k351 2084 = some (.iaload, 0, 0) from rfl) hg hX ?_
  refine zt_aload_n zy_351 (show q_ins q_k351 2085 = some (.aload_n 0, 0, 0) from rfl) (v := q_big) rfl ?_
  refine zt_iload zy_351 (show q_ins q_k351 2086 = some (.iload 5, 0, 0) from rfl) (v := Int32.ofInt v5) rfl ?_
  refine zt_iconst zy_351 (show q_ins q_k351 2088 = some (.iconst 2, 0, 0) from rfl) ?_
  refine zt_iadd zy_351 (show q_ins q_k351 2089 = some (.iadd, 0, 0) from rfl) ?_
  obtain ⟨hg, h⟩ := zt_ckE h
  refine zt_sld zy_351 (show q_ins q_k351 2090 = some (.iaload, 0, 0) from rfl) hg hX ?_
  refine zt_aload_n zy_351 (show q_ins q_k351 2091 = some (.aload_n 3, 0, 0) from rfl) (v := 184) rfl ?_
  obtain ⟨a195, s196, hca195, h⟩ := zt_bdE h
  refine zt_callS (d := 53) zy_351 (show q_ins q_k351 2092 = some (.invokestatic 248, 344, 4) from rfl) zy_344 (by decide) ⟨zq_lt (by decide), by decide⟩ rfl (by simp [Value.category]) (by simp [lg_sl, Value.category]) rfl (zt_dm (by decide) (S_L_tell hca195)) ?_
  refine zt_istore zy_351 (show q_ins q_k351 2095 = some (.istore 6, 0, 0) from rfl) (by decide) ?_
  refine zt_aload_n zy_351 (show q_ins q_k351 2097 = some (.aload_n 2, 0, 0) from rfl) (v := 163) rfl ?_
  refine zt_aload_n zy_351 (show q_ins q_k351 2098 = some (.aload_n 0, 0, 0) from rfl) (v := q_big) rfl ?_
  refine zt_iload zy_351 (show q_ins q_k351 2099 = some (.iload 5, 0, 0) from rfl) (v := Int32.ofInt v5) rfl ?_
  refine zt_iconst zy_351 (show q_ins q_k351 2101 = some (.iconst 1, 0, 0) from rfl) ?_
  refine zt_iadd zy_351 (show q_ins q_k351 2102 = some (.iadd, 0, 0) from rfl) ?_
  obtain ⟨hg, h⟩ := zt_ckE h
  refine zt_sld zy_351 (show q_ins q_k351 2103 = some (.iaload, 0, 0) from rfl) hg hX ?_
  refine zt_aload_n zy_351 (show q_ins q_k351 2104 = some (.aload_n 0, 0, 0) from rfl) (v := q_big) rfl ?_
  refine zt_iload zy_351 (show q_ins q_k351 2105 = some (.iload 5, 0, 0) from rfl) (v := Int32.ofInt v5) rfl ?_
  refine zt_iconst zy_351 (show q_ins q_k351 2107 = some (.iconst 2, 0, 0) from rfl) ?_
  refine zt_iadd zy_351 (show q_ins q_k351 2108 = some (.iadd, 0, 0) from rfl) ?_
  obtain ⟨hg, h⟩ := zt_ckE h
  refine zt_sld zy_351 (show q_ins q_k351 2109 = some (.iaload, 0, 0) from rfl) hg hX ?_
  obtain ⟨a197, s198, hca197, h⟩ := zt_bdE h
  refine zt_callV (d := 53) zy_351 (show q_ins q_k351 2110 = some (.invokevirtual 250, 281, 2) from rfl) zy_281 (by decide) ⟨zq_lt (by decide), by decide⟩ rfl (by simp [Value.category]) (by simp [lg_sl, Value.category]) (zt_rcv zc_163) (zt_dm (by decide) (S_M_tell hca197)) ?_
  refine zt_istore zy_351 (show q_ins q_k351 2113 = some (.istore 7, 0, 0) from rfl) (by decide) ?_
  refine zt_aload_n zy_351 (show q_ins q_k351 2115 = some (.aload_n 2, 0, 0) from rfl) (v := 163) rfl ?_
  obtain ⟨a199, s200, hca199, h⟩ := zt_bdE h
  refine zt_callV (d := 53) zy_351 (show q_ins q_k351 2116 = some (.invokevirtual 136, 170, 0) from rfl) zy_170 (by decide) ⟨zq_lt (by decide), by decide⟩ rfl (by simp [Value.category]) (by simp [lg_sl, Value.category]) (zt_rcv zc_163) (zt_dm (by decide) (S_M_thrown hca199)) ?_
  refine zt_iload zy_351 (show q_ins q_k351 2119 = some (.iload 6, 0, 0) from rfl) (v := Int32.ofInt a195) rfl ?_
  obtain ⟨hg, h⟩ := zt_ckE h
  refine zt_icmp_eq zy_351 (show q_ins q_k351 2121 = some (.if_icmp .eq 5, 2126, 0) from rfl) (⟨hg.1, hg.2⟩) (fun hc => ?_) (fun hc => ?_)
  · rw [if_pos hc] at h
    refine zt_iload zy_351 (show q_ins q_k351 2126 = some (.iload 6, 0, 0) from rfl) (v := Int32.ofInt a195) rfl ?_
    obtain ⟨hg, h⟩ := zt_ckE h
    refine zt_if_ne zy_351 (show q_ins q_k351 2128 = some (.ifCond .ne 15, 2143, 0) from rfl) (hg) (fun hc => ?_) (fun hc => ?_)
    · rw [if_pos hc] at h
      refine zt_aload_n zy_351 (show q_ins q_k351 2131 = some (.aload_n 3, 0, 0) from rfl) (v := 184) rfl ?_
      refine zt_iconst zy_351 (show q_ins q_k351 2132 = some (.iconst 0, 0, 0) from rfl) ?_
      refine zt_lld zy_351 (show q_ins q_k351 2133 = some (.laload, 0, 0) from rfl) za_184 (by decide) (by decide) ?_
      refine zt_iload zy_351 (show q_ins q_k351 2134 = some (.iload 7, 0, 0) from rfl) (v := Int32.ofInt a197) rfl ?_
      refine zt_i2l zy_351 (show q_ins q_k351 2136 = some (.i2l, 0, 0) from rfl) ?_
      refine zt_lcmp zy_351 (show q_ins q_k351 2137 = some (.lcmp, 0, 0) from rfl) ?_
      refine zt_if_eq zy_351 (show q_ins q_k351 2138 = some (.ifCond .eq 5, 2143, 0) from rfl) (zt_inT _) (fun hc => ?_) (fun hc => ?_)
      · rw [if_pos hc] at h
        exact zt_wk (zt_cov_cons rfl (zt_cov_cons rfl (zt_cov_cons rfl (zt_cov_cons rfl (zt_cov_cons rfl (zt_cov_cons rfl (zt_cov_nil))))))) (S_L_law_2143 hX  hr28 _ _ _ h)
      · rw [if_neg hc] at h
        refine zt_iconst zy_351 (show q_ins q_k351 2141 = some (.iconst 0, 0, 0) from rfl) ?_
        cases h
        exact zt_zret zy_351 (show q_ins q_k351 2142 = some (.ireturn, 0, 0) from rfl) (by decide)
    · rw [if_neg hc] at h
      exact zt_wk (zt_cov_cons rfl (zt_cov_cons rfl (zt_cov_cons rfl (zt_cov_cons rfl (zt_cov_cons rfl (zt_cov_cons rfl (zt_cov_nil))))))) (S_L_law_2143 hX  hr28 _ _ _ h)
  · rw [if_neg hc] at h
    refine zt_iconst zy_351 (show q_ins q_k351 2124 = some (.iconst 0, 0, 0) from rfl) ?_
    cases h
    exact zt_zret zy_351 (show q_ins q_k351 2125 = some (.ireturn, 0, 0) from rfl) (by decide)
set_option maxRecDepth 100000 in
theorem S_L_law_2199 {X : q_X} (hX : X.1 ≤ 1000000)   {r28 : Int → zt_S → Option (Int × zt_S)} (hr28 : ∀ (v5 : Int) (σ : zt_S) (o : (Int × zt_S)), r28 v5 σ = some o → zt_Ex X 54 351 28 [(0, .ref q_big), (1, .ref 0), (2, .ref 163), (3, .ref 184), (4, .ref 185), (5, .int (Int32.ofInt v5))] [] (zt_M σ) (zo_I o)) : ∀ (v5 : Int) (σ : zt_S) (o : (Int × zt_S)), F_L_law_2199 X  r28 v5 σ = some o → zt_Ex X 54 351 2199 [(0, .ref q_big), (1, .ref 0), (2, .ref 163), (3, .ref 184), (4, .ref 185), (5, .int (Int32.ofInt v5))] [] (zt_M σ) (zo_I o) := by
  intro v5 σ o  h
  unfold F_L_law_2199 at h
  refine zt_goto zy_351 (show q_ins q_k351 2199 = some (.goto 399, 2598, 0) from rfl) ?_
  exact zt_wk (zt_cov_cons rfl (zt_cov_cons rfl (zt_cov_cons rfl (zt_cov_cons rfl (zt_cov_cons rfl (zt_cov_cons rfl (zt_cov_nil))))))) (S_L_law_2598 hX  hr28 _ _ _ h)
set_option maxRecDepth 100000 in
theorem S_L_law_2146 {X : q_X} (hX : X.1 ≤ 1000000)   {r28 : Int → zt_S → Option (Int × zt_S)} (hr28 : ∀ (v5 : Int) (σ : zt_S) (o : (Int × zt_S)), r28 v5 σ = some o → zt_Ex X 54 351 28 [(0, .ref q_big), (1, .ref 0), (2, .ref 163), (3, .ref 184), (4, .ref 185), (5, .int (Int32.ofInt v5))] [] (zt_M σ) (zo_I o)) : ∀ (v5 : Int) (σ : zt_S) (o : (Int × zt_S)), F_L_law_2146 X  r28 v5 σ = some o → zt_Ex X 54 351 2146 [(0, .ref q_big), (1, .ref 0), (2, .ref 163), (3, .ref 184), (4, .ref 185), (5, .int (Int32.ofInt v5))] [] (zt_M σ) (zo_I o) := by
  intro v5 σ o  h
  unfold F_L_law_2146 at h
  refine zt_aload_n zy_351 (show q_ins q_k351 2146 = some (.aload_n 1, 0, 0) from rfl) (v := 0) rfl ?_
  refine zt_aload_n zy_351 (show q_ins q_k351 2147 = some (.aload_n 0, 0, 0) from rfl) (v := q_big) rfl ?_
  refine zt_iload zy_351 (show q_ins q_k351 2148 = some (.iload 5, 0, 0) from rfl) (v := Int32.ofInt v5) rfl ?_
  refine zt_iconst zy_351 (show q_ins q_k351 2150 = some (.iconst 1, 0, 0) from rfl) ?_
  refine zt_iadd zy_351 (show q_ins q_k351 2151 = some (.iadd, 0, 0) from rfl) ?_
  obtain ⟨hg, h⟩ := zt_ckE h
  refine zt_sld zy_351 (show q_ins q_k351 2152 = some (.iaload, 0, 0) from rfl) hg hX ?_
  refine zt_aload_n zy_351 (show q_ins q_k351 2153 = some (.aload_n 3, 0, 0) from rfl) (v := 184) rfl ?_
  obtain ⟨a201, s202, hca201, h⟩ := zt_bdE h
  refine zt_callS (d := 53) zy_351 (show q_ins q_k351 2154 = some (.invokestatic 251, 345, 3) from rfl) zy_345 (by decide) ⟨zq_lt (by decide), by decide⟩ rfl (by simp [Value.category]) (by simp [lg_sl, Value.category]) rfl (zt_dm (by decide) (S_L_deal hca201)) ?_
  refine zt_istore zy_351 (show q_ins q_k351 2157 = some (.istore 6, 0, 0) from rfl) (by decide) ?_
  refine zt_aload_n zy_351 (show q_ins q_k351 2159 = some (.aload_n 2, 0, 0) from rfl) (v := 163) rfl ?_
  refine zt_aload_n zy_351 (show q_ins q_k351 2160 = some (.aload_n 0, 0, 0) from rfl) (v := q_big) rfl ?_
  refine zt_iload zy_351 (show q_ins q_k351 2161 = some (.iload 5, 0, 0) from rfl) (v := Int32.ofInt v5) rfl ?_
  refine zt_iconst zy_351 (show q_ins q_k351 2163 = some (.iconst 1, 0, 0) from rfl) ?_
  refine zt_iadd zy_351 (show q_ins q_k351 2164 = some (.iadd, 0, 0) from rfl) ?_
  obtain ⟨hg, h⟩ := zt_ckE h
  refine zt_sld zy_351 (show q_ins q_k351 2165 = some (.iaload, 0, 0) from rfl) hg hX ?_
  obtain ⟨a203, s204, hca203, h⟩ := zt_bdE h
  refine zt_callV (d := 53) zy_351 (show q_ins q_k351 2166 = some (.invokevirtual 253, 282, 1) from rfl) zy_282 (by decide) ⟨zq_lt (by decide), by decide⟩ rfl (by simp [Value.category]) (by simp [lg_sl, Value.category]) (zt_rcv zc_163) (zt_dm (by decide) (S_M_deal hca203)) ?_
  refine zt_istore zy_351 (show q_ins q_k351 2169 = some (.istore 7, 0, 0) from rfl) (by decide) ?_
  refine zt_aload_n zy_351 (show q_ins q_k351 2171 = some (.aload_n 2, 0, 0) from rfl) (v := 163) rfl ?_
  obtain ⟨a205, s206, hca205, h⟩ := zt_bdE h
  refine zt_callV (d := 53) zy_351 (show q_ins q_k351 2172 = some (.invokevirtual 136, 170, 0) from rfl) zy_170 (by decide) ⟨zq_lt (by decide), by decide⟩ rfl (by simp [Value.category]) (by simp [lg_sl, Value.category]) (zt_rcv zc_163) (zt_dm (by decide) (S_M_thrown hca205)) ?_
  refine zt_iload zy_351 (show q_ins q_k351 2175 = some (.iload 6, 0, 0) from rfl) (v := Int32.ofInt a201) rfl ?_
  obtain ⟨hg, h⟩ := zt_ckE h
  refine zt_icmp_eq zy_351 (show q_ins q_k351 2177 = some (.if_icmp .eq 5, 2182, 0) from rfl) (⟨hg.1, hg.2⟩) (fun hc => ?_) (fun hc => ?_)
  · rw [if_pos hc] at h
    refine zt_iload zy_351 (show q_ins q_k351 2182 = some (.iload 6, 0, 0) from rfl) (v := Int32.ofInt a201) rfl ?_
    obtain ⟨hg, h⟩ := zt_ckE h
    refine zt_if_ne zy_351 (show q_ins q_k351 2184 = some (.ifCond .ne 15, 2199, 0) from rfl) (hg) (fun hc => ?_) (fun hc => ?_)
    · rw [if_pos hc] at h
      refine zt_aload_n zy_351 (show q_ins q_k351 2187 = some (.aload_n 3, 0, 0) from rfl) (v := 184) rfl ?_
      refine zt_iconst zy_351 (show q_ins q_k351 2188 = some (.iconst 0, 0, 0) from rfl) ?_
      refine zt_lld zy_351 (show q_ins q_k351 2189 = some (.laload, 0, 0) from rfl) za_184 (by decide) (by decide) ?_
      refine zt_iload zy_351 (show q_ins q_k351 2190 = some (.iload 7, 0, 0) from rfl) (v := Int32.ofInt a203) rfl ?_
      refine zt_i2l zy_351 (show q_ins q_k351 2192 = some (.i2l, 0, 0) from rfl) ?_
      refine zt_lcmp zy_351 (show q_ins q_k351 2193 = some (.lcmp, 0, 0) from rfl) ?_
      refine zt_if_eq zy_351 (show q_ins q_k351 2194 = some (.ifCond .eq 5, 2199, 0) from rfl) (zt_inT _) (fun hc => ?_) (fun hc => ?_)
      · rw [if_pos hc] at h
        exact zt_wk (zt_cov_cons rfl (zt_cov_cons rfl (zt_cov_cons rfl (zt_cov_cons rfl (zt_cov_cons rfl (zt_cov_cons rfl (zt_cov_nil))))))) (S_L_law_2199 hX  hr28 _ _ _ h)
      · rw [if_neg hc] at h
        refine zt_iconst zy_351 (show q_ins q_k351 2197 = some (.iconst 0, 0, 0) from rfl) ?_
        cases h
        exact zt_zret zy_351 (show q_ins q_k351 2198 = some (.ireturn, 0, 0) from rfl) (by decide)
    · rw [if_neg hc] at h
      exact zt_wk (zt_cov_cons rfl (zt_cov_cons rfl (zt_cov_cons rfl (zt_cov_cons rfl (zt_cov_cons rfl (zt_cov_cons rfl (zt_cov_nil))))))) (S_L_law_2199 hX  hr28 _ _ _ h)
  · rw [if_neg hc] at h
    refine zt_iconst zy_351 (show q_ins q_k351 2180 = some (.iconst 0, 0, 0) from rfl) ?_
    cases h
    exact zt_zret zy_351 (show q_ins q_k351 2181 = some (.ireturn, 0, 0) from rfl) (by decide)
set_option maxRecDepth 100000 in
theorem S_L_law_2255 {X : q_X} (hX : X.1 ≤ 1000000)   {r28 : Int → zt_S → Option (Int × zt_S)} (hr28 : ∀ (v5 : Int) (σ : zt_S) (o : (Int × zt_S)), r28 v5 σ = some o → zt_Ex X 54 351 28 [(0, .ref q_big), (1, .ref 0), (2, .ref 163), (3, .ref 184), (4, .ref 185), (5, .int (Int32.ofInt v5))] [] (zt_M σ) (zo_I o)) : ∀ (v5 : Int) (σ : zt_S) (o : (Int × zt_S)), F_L_law_2255 X  r28 v5 σ = some o → zt_Ex X 54 351 2255 [(0, .ref q_big), (1, .ref 0), (2, .ref 163), (3, .ref 184), (4, .ref 185), (5, .int (Int32.ofInt v5))] [] (zt_M σ) (zo_I o) := by
  intro v5 σ o  h
  unfold F_L_law_2255 at h
  refine zt_goto zy_351 (show q_ins q_k351 2255 = some (.goto 343, 2598, 0) from rfl) ?_
  exact zt_wk (zt_cov_cons rfl (zt_cov_cons rfl (zt_cov_cons rfl (zt_cov_cons rfl (zt_cov_cons rfl (zt_cov_cons rfl (zt_cov_nil))))))) (S_L_law_2598 hX  hr28 _ _ _ h)
set_option maxRecDepth 100000 in
theorem S_L_law_2202 {X : q_X} (hX : X.1 ≤ 1000000)   {r28 : Int → zt_S → Option (Int × zt_S)} (hr28 : ∀ (v5 : Int) (σ : zt_S) (o : (Int × zt_S)), r28 v5 σ = some o → zt_Ex X 54 351 28 [(0, .ref q_big), (1, .ref 0), (2, .ref 163), (3, .ref 184), (4, .ref 185), (5, .int (Int32.ofInt v5))] [] (zt_M σ) (zo_I o)) : ∀ (v5 : Int) (σ : zt_S) (o : (Int × zt_S)), F_L_law_2202 X  r28 v5 σ = some o → zt_Ex X 54 351 2202 [(0, .ref q_big), (1, .ref 0), (2, .ref 163), (3, .ref 184), (4, .ref 185), (5, .int (Int32.ofInt v5))] [] (zt_M σ) (zo_I o) := by
  intro v5 σ o  h
  unfold F_L_law_2202 at h
  refine zt_aload_n zy_351 (show q_ins q_k351 2202 = some (.aload_n 1, 0, 0) from rfl) (v := 0) rfl ?_
  refine zt_aload_n zy_351 (show q_ins q_k351 2203 = some (.aload_n 0, 0, 0) from rfl) (v := q_big) rfl ?_
  refine zt_iload zy_351 (show q_ins q_k351 2204 = some (.iload 5, 0, 0) from rfl) (v := Int32.ofInt v5) rfl ?_
  refine zt_iconst zy_351 (show q_ins q_k351 2206 = some (.iconst 1, 0, 0) from rfl) ?_
  refine zt_iadd zy_351 (show q_ins q_k351 2207 = some (.iadd, 0, 0) from rfl) ?_
  obtain ⟨hg, h⟩ := zt_ckE h
  refine zt_sld zy_351 (show q_ins q_k351 2208 = some (.iaload, 0, 0) from rfl) hg hX ?_
  refine zt_aload_n zy_351 (show q_ins q_k351 2209 = some (.aload_n 3, 0, 0) from rfl) (v := 184) rfl ?_
  obtain ⟨a207, s208, hca207, h⟩ := zt_bdE h
  refine zt_callS (d := 53) zy_351 (show q_ins q_k351 2210 = some (.invokestatic 254, 346, 3) from rfl) zy_346 (by decide) ⟨zq_lt (by decide), by decide⟩ rfl (by simp [Value.category]) (by simp [lg_sl, Value.category]) rfl (zt_dm (by decide) (S_L_setTrump hca207)) ?_
  refine zt_istore zy_351 (show q_ins q_k351 2213 = some (.istore 6, 0, 0) from rfl) (by decide) ?_
  refine zt_aload_n zy_351 (show q_ins q_k351 2215 = some (.aload_n 2, 0, 0) from rfl) (v := 163) rfl ?_
  refine zt_aload_n zy_351 (show q_ins q_k351 2216 = some (.aload_n 0, 0, 0) from rfl) (v := q_big) rfl ?_
  refine zt_iload zy_351 (show q_ins q_k351 2217 = some (.iload 5, 0, 0) from rfl) (v := Int32.ofInt v5) rfl ?_
  refine zt_iconst zy_351 (show q_ins q_k351 2219 = some (.iconst 1, 0, 0) from rfl) ?_
  refine zt_iadd zy_351 (show q_ins q_k351 2220 = some (.iadd, 0, 0) from rfl) ?_
  obtain ⟨hg, h⟩ := zt_ckE h
  refine zt_sld zy_351 (show q_ins q_k351 2221 = some (.iaload, 0, 0) from rfl) hg hX ?_
  obtain ⟨a209, s210, hca209, h⟩ := zt_bdE h
  refine zt_callV (d := 53) zy_351 (show q_ins q_k351 2222 = some (.invokevirtual 256, 283, 1) from rfl) zy_283 (by decide) ⟨zq_lt (by decide), by decide⟩ rfl (by simp [Value.category]) (by simp [lg_sl, Value.category]) (zt_rcv zc_163) (zt_dm (by decide) (S_M_setTrump hca209)) ?_
  refine zt_istore zy_351 (show q_ins q_k351 2225 = some (.istore 7, 0, 0) from rfl) (by decide) ?_
  refine zt_aload_n zy_351 (show q_ins q_k351 2227 = some (.aload_n 2, 0, 0) from rfl) (v := 163) rfl ?_
  obtain ⟨a211, s212, hca211, h⟩ := zt_bdE h
  refine zt_callV (d := 53) zy_351 (show q_ins q_k351 2228 = some (.invokevirtual 136, 170, 0) from rfl) zy_170 (by decide) ⟨zq_lt (by decide), by decide⟩ rfl (by simp [Value.category]) (by simp [lg_sl, Value.category]) (zt_rcv zc_163) (zt_dm (by decide) (S_M_thrown hca211)) ?_
  refine zt_iload zy_351 (show q_ins q_k351 2231 = some (.iload 6, 0, 0) from rfl) (v := Int32.ofInt a207) rfl ?_
  obtain ⟨hg, h⟩ := zt_ckE h
  refine zt_icmp_eq zy_351 (show q_ins q_k351 2233 = some (.if_icmp .eq 5, 2238, 0) from rfl) (⟨hg.1, hg.2⟩) (fun hc => ?_) (fun hc => ?_)
  · rw [if_pos hc] at h
    refine zt_iload zy_351 (show q_ins q_k351 2238 = some (.iload 6, 0, 0) from rfl) (v := Int32.ofInt a207) rfl ?_
    obtain ⟨hg, h⟩ := zt_ckE h
    refine zt_if_ne zy_351 (show q_ins q_k351 2240 = some (.ifCond .ne 15, 2255, 0) from rfl) (hg) (fun hc => ?_) (fun hc => ?_)
    · rw [if_pos hc] at h
      refine zt_aload_n zy_351 (show q_ins q_k351 2243 = some (.aload_n 3, 0, 0) from rfl) (v := 184) rfl ?_
      refine zt_iconst zy_351 (show q_ins q_k351 2244 = some (.iconst 0, 0, 0) from rfl) ?_
      refine zt_lld zy_351 (show q_ins q_k351 2245 = some (.laload, 0, 0) from rfl) za_184 (by decide) (by decide) ?_
      refine zt_iload zy_351 (show q_ins q_k351 2246 = some (.iload 7, 0, 0) from rfl) (v := Int32.ofInt a209) rfl ?_
      refine zt_i2l zy_351 (show q_ins q_k351 2248 = some (.i2l, 0, 0) from rfl) ?_
      refine zt_lcmp zy_351 (show q_ins q_k351 2249 = some (.lcmp, 0, 0) from rfl) ?_
      refine zt_if_eq zy_351 (show q_ins q_k351 2250 = some (.ifCond .eq 5, 2255, 0) from rfl) (zt_inT _) (fun hc => ?_) (fun hc => ?_)
      · rw [if_pos hc] at h
        exact zt_wk (zt_cov_cons rfl (zt_cov_cons rfl (zt_cov_cons rfl (zt_cov_cons rfl (zt_cov_cons rfl (zt_cov_cons rfl (zt_cov_nil))))))) (S_L_law_2255 hX  hr28 _ _ _ h)
      · rw [if_neg hc] at h
        refine zt_iconst zy_351 (show q_ins q_k351 2253 = some (.iconst 0, 0, 0) from rfl) ?_
        cases h
        exact zt_zret zy_351 (show q_ins q_k351 2254 = some (.ireturn, 0, 0) from rfl) (by decide)
    · rw [if_neg hc] at h
      exact zt_wk (zt_cov_cons rfl (zt_cov_cons rfl (zt_cov_cons rfl (zt_cov_cons rfl (zt_cov_cons rfl (zt_cov_cons rfl (zt_cov_nil))))))) (S_L_law_2255 hX  hr28 _ _ _ h)
  · rw [if_neg hc] at h
    refine zt_iconst zy_351 (show q_ins q_k351 2236 = some (.iconst 0, 0, 0) from rfl) ?_
    cases h
    exact zt_zret zy_351 (show q_ins q_k351 2237 = some (.ireturn, 0, 0) from rfl) (by decide)
set_option maxRecDepth 100000 in
theorem S_L_law_2311 {X : q_X} (hX : X.1 ≤ 1000000)   {r28 : Int → zt_S → Option (Int × zt_S)} (hr28 : ∀ (v5 : Int) (σ : zt_S) (o : (Int × zt_S)), r28 v5 σ = some o → zt_Ex X 54 351 28 [(0, .ref q_big), (1, .ref 0), (2, .ref 163), (3, .ref 184), (4, .ref 185), (5, .int (Int32.ofInt v5))] [] (zt_M σ) (zo_I o)) : ∀ (v5 : Int) (σ : zt_S) (o : (Int × zt_S)), F_L_law_2311 X  r28 v5 σ = some o → zt_Ex X 54 351 2311 [(0, .ref q_big), (1, .ref 0), (2, .ref 163), (3, .ref 184), (4, .ref 185), (5, .int (Int32.ofInt v5))] [] (zt_M σ) (zo_I o) := by
  intro v5 σ o  h
  unfold F_L_law_2311 at h
  refine zt_goto zy_351 (show q_ins q_k351 2311 = some (.goto 287, 2598, 0) from rfl) ?_
  exact zt_wk (zt_cov_cons rfl (zt_cov_cons rfl (zt_cov_cons rfl (zt_cov_cons rfl (zt_cov_cons rfl (zt_cov_cons rfl (zt_cov_nil))))))) (S_L_law_2598 hX  hr28 _ _ _ h)
set_option maxRecDepth 100000 in
theorem S_L_law_2258 {X : q_X} (hX : X.1 ≤ 1000000)   {r28 : Int → zt_S → Option (Int × zt_S)} (hr28 : ∀ (v5 : Int) (σ : zt_S) (o : (Int × zt_S)), r28 v5 σ = some o → zt_Ex X 54 351 28 [(0, .ref q_big), (1, .ref 0), (2, .ref 163), (3, .ref 184), (4, .ref 185), (5, .int (Int32.ofInt v5))] [] (zt_M σ) (zo_I o)) : ∀ (v5 : Int) (σ : zt_S) (o : (Int × zt_S)), F_L_law_2258 X  r28 v5 σ = some o → zt_Ex X 54 351 2258 [(0, .ref q_big), (1, .ref 0), (2, .ref 163), (3, .ref 184), (4, .ref 185), (5, .int (Int32.ofInt v5))] [] (zt_M σ) (zo_I o) := by
  intro v5 σ o  h
  unfold F_L_law_2258 at h
  refine zt_aload_n zy_351 (show q_ins q_k351 2258 = some (.aload_n 1, 0, 0) from rfl) (v := 0) rfl ?_
  refine zt_aload_n zy_351 (show q_ins q_k351 2259 = some (.aload_n 0, 0, 0) from rfl) (v := q_big) rfl ?_
  refine zt_iload zy_351 (show q_ins q_k351 2260 = some (.iload 5, 0, 0) from rfl) (v := Int32.ofInt v5) rfl ?_
  refine zt_iconst zy_351 (show q_ins q_k351 2262 = some (.iconst 1, 0, 0) from rfl) ?_
  refine zt_iadd zy_351 (show q_ins q_k351 2263 = some (.iadd, 0, 0) from rfl) ?_
  obtain ⟨hg, h⟩ := zt_ckE h
  refine zt_sld zy_351 (show q_ins q_k351 2264 = some (.iaload, 0, 0) from rfl) hg hX ?_
  refine zt_aload_n zy_351 (show q_ins q_k351 2265 = some (.aload_n 3, 0, 0) from rfl) (v := 184) rfl ?_
  obtain ⟨a213, s214, hca213, h⟩ := zt_bdE h
  refine zt_callS (d := 53) zy_351 (show q_ins q_k351 2266 = some (.invokestatic 257, 347, 3) from rfl) zy_347 (by decide) ⟨zq_lt (by decide), by decide⟩ rfl (by simp [Value.category]) (by simp [lg_sl, Value.category]) rfl (zt_dm (by decide) (S_L_setRule hca213)) ?_
  refine zt_istore zy_351 (show q_ins q_k351 2269 = some (.istore 6, 0, 0) from rfl) (by decide) ?_
  refine zt_aload_n zy_351 (show q_ins q_k351 2271 = some (.aload_n 2, 0, 0) from rfl) (v := 163) rfl ?_
  refine zt_aload_n zy_351 (show q_ins q_k351 2272 = some (.aload_n 0, 0, 0) from rfl) (v := q_big) rfl ?_
  refine zt_iload zy_351 (show q_ins q_k351 2273 = some (.iload 5, 0, 0) from rfl) (v := Int32.ofInt v5) rfl ?_
  refine zt_iconst zy_351 (show q_ins q_k351 2275 = some (.iconst 1, 0, 0) from rfl) ?_
  refine zt_iadd zy_351 (show q_ins q_k351 2276 = some (.iadd, 0, 0) from rfl) ?_
  obtain ⟨hg, h⟩ := zt_ckE h
  refine zt_sld zy_351 (show q_ins q_k351 2277 = some (.iaload, 0, 0) from rfl) hg hX ?_
  obtain ⟨a215, s216, hca215, h⟩ := zt_bdE h
  refine zt_callV (d := 53) zy_351 (show q_ins q_k351 2278 = some (.invokevirtual 259, 285, 1) from rfl) zy_285 (by decide) ⟨zq_lt (by decide), by decide⟩ rfl (by simp [Value.category]) (by simp [lg_sl, Value.category]) (zt_rcv zc_163) (zt_dm (by decide) (S_M_setRule hca215)) ?_
  refine zt_istore zy_351 (show q_ins q_k351 2281 = some (.istore 7, 0, 0) from rfl) (by decide) ?_
  refine zt_aload_n zy_351 (show q_ins q_k351 2283 = some (.aload_n 2, 0, 0) from rfl) (v := 163) rfl ?_
  obtain ⟨a217, s218, hca217, h⟩ := zt_bdE h
  refine zt_callV (d := 53) zy_351 (show q_ins q_k351 2284 = some (.invokevirtual 136, 170, 0) from rfl) zy_170 (by decide) ⟨zq_lt (by decide), by decide⟩ rfl (by simp [Value.category]) (by simp [lg_sl, Value.category]) (zt_rcv zc_163) (zt_dm (by decide) (S_M_thrown hca217)) ?_
  refine zt_iload zy_351 (show q_ins q_k351 2287 = some (.iload 6, 0, 0) from rfl) (v := Int32.ofInt a213) rfl ?_
  obtain ⟨hg, h⟩ := zt_ckE h
  refine zt_icmp_eq zy_351 (show q_ins q_k351 2289 = some (.if_icmp .eq 5, 2294, 0) from rfl) (⟨hg.1, hg.2⟩) (fun hc => ?_) (fun hc => ?_)
  · rw [if_pos hc] at h
    refine zt_iload zy_351 (show q_ins q_k351 2294 = some (.iload 6, 0, 0) from rfl) (v := Int32.ofInt a213) rfl ?_
    obtain ⟨hg, h⟩ := zt_ckE h
    refine zt_if_ne zy_351 (show q_ins q_k351 2296 = some (.ifCond .ne 15, 2311, 0) from rfl) (hg) (fun hc => ?_) (fun hc => ?_)
    · rw [if_pos hc] at h
      refine zt_aload_n zy_351 (show q_ins q_k351 2299 = some (.aload_n 3, 0, 0) from rfl) (v := 184) rfl ?_
      refine zt_iconst zy_351 (show q_ins q_k351 2300 = some (.iconst 0, 0, 0) from rfl) ?_
      refine zt_lld zy_351 (show q_ins q_k351 2301 = some (.laload, 0, 0) from rfl) za_184 (by decide) (by decide) ?_
      refine zt_iload zy_351 (show q_ins q_k351 2302 = some (.iload 7, 0, 0) from rfl) (v := Int32.ofInt a215) rfl ?_
      refine zt_i2l zy_351 (show q_ins q_k351 2304 = some (.i2l, 0, 0) from rfl) ?_
      refine zt_lcmp zy_351 (show q_ins q_k351 2305 = some (.lcmp, 0, 0) from rfl) ?_
      refine zt_if_eq zy_351 (show q_ins q_k351 2306 = some (.ifCond .eq 5, 2311, 0) from rfl) (zt_inT _) (fun hc => ?_) (fun hc => ?_)
      · rw [if_pos hc] at h
        exact zt_wk (zt_cov_cons rfl (zt_cov_cons rfl (zt_cov_cons rfl (zt_cov_cons rfl (zt_cov_cons rfl (zt_cov_cons rfl (zt_cov_nil))))))) (S_L_law_2311 hX  hr28 _ _ _ h)
      · rw [if_neg hc] at h
        refine zt_iconst zy_351 (show q_ins q_k351 2309 = some (.iconst 0, 0, 0) from rfl) ?_
        cases h
        exact zt_zret zy_351 (show q_ins q_k351 2310 = some (.ireturn, 0, 0) from rfl) (by decide)
    · rw [if_neg hc] at h
      exact zt_wk (zt_cov_cons rfl (zt_cov_cons rfl (zt_cov_cons rfl (zt_cov_cons rfl (zt_cov_cons rfl (zt_cov_cons rfl (zt_cov_nil))))))) (S_L_law_2311 hX  hr28 _ _ _ h)
  · rw [if_neg hc] at h
    refine zt_iconst zy_351 (show q_ins q_k351 2292 = some (.iconst 0, 0, 0) from rfl) ?_
    cases h
    exact zt_zret zy_351 (show q_ins q_k351 2293 = some (.ireturn, 0, 0) from rfl) (by decide)
set_option maxRecDepth 100000 in
theorem S_L_law_2367 {X : q_X} (hX : X.1 ≤ 1000000)   {r28 : Int → zt_S → Option (Int × zt_S)} (hr28 : ∀ (v5 : Int) (σ : zt_S) (o : (Int × zt_S)), r28 v5 σ = some o → zt_Ex X 54 351 28 [(0, .ref q_big), (1, .ref 0), (2, .ref 163), (3, .ref 184), (4, .ref 185), (5, .int (Int32.ofInt v5))] [] (zt_M σ) (zo_I o)) : ∀ (v5 : Int) (σ : zt_S) (o : (Int × zt_S)), F_L_law_2367 X  r28 v5 σ = some o → zt_Ex X 54 351 2367 [(0, .ref q_big), (1, .ref 0), (2, .ref 163), (3, .ref 184), (4, .ref 185), (5, .int (Int32.ofInt v5))] [] (zt_M σ) (zo_I o) := by
  intro v5 σ o  h
  unfold F_L_law_2367 at h
  refine zt_goto zy_351 (show q_ins q_k351 2367 = some (.goto 231, 2598, 0) from rfl) ?_
  exact zt_wk (zt_cov_cons rfl (zt_cov_cons rfl (zt_cov_cons rfl (zt_cov_cons rfl (zt_cov_cons rfl (zt_cov_cons rfl (zt_cov_nil))))))) (S_L_law_2598 hX  hr28 _ _ _ h)
set_option maxRecDepth 100000 in
theorem S_L_law_2314 {X : q_X} (hX : X.1 ≤ 1000000)   {r28 : Int → zt_S → Option (Int × zt_S)} (hr28 : ∀ (v5 : Int) (σ : zt_S) (o : (Int × zt_S)), r28 v5 σ = some o → zt_Ex X 54 351 28 [(0, .ref q_big), (1, .ref 0), (2, .ref 163), (3, .ref 184), (4, .ref 185), (5, .int (Int32.ofInt v5))] [] (zt_M σ) (zo_I o)) : ∀ (v5 : Int) (σ : zt_S) (o : (Int × zt_S)), F_L_law_2314 X  r28 v5 σ = some o → zt_Ex X 54 351 2314 [(0, .ref q_big), (1, .ref 0), (2, .ref 163), (3, .ref 184), (4, .ref 185), (5, .int (Int32.ofInt v5))] [] (zt_M σ) (zo_I o) := by
  intro v5 σ o  h
  unfold F_L_law_2314 at h
  refine zt_aload_n zy_351 (show q_ins q_k351 2314 = some (.aload_n 1, 0, 0) from rfl) (v := 0) rfl ?_
  refine zt_aload_n zy_351 (show q_ins q_k351 2315 = some (.aload_n 0, 0, 0) from rfl) (v := q_big) rfl ?_
  refine zt_iload zy_351 (show q_ins q_k351 2316 = some (.iload 5, 0, 0) from rfl) (v := Int32.ofInt v5) rfl ?_
  refine zt_iconst zy_351 (show q_ins q_k351 2318 = some (.iconst 1, 0, 0) from rfl) ?_
  refine zt_iadd zy_351 (show q_ins q_k351 2319 = some (.iadd, 0, 0) from rfl) ?_
  obtain ⟨hg, h⟩ := zt_ckE h
  refine zt_sld zy_351 (show q_ins q_k351 2320 = some (.iaload, 0, 0) from rfl) hg hX ?_
  refine zt_aload_n zy_351 (show q_ins q_k351 2321 = some (.aload_n 3, 0, 0) from rfl) (v := 184) rfl ?_
  obtain ⟨a219, s220, hca219, h⟩ := zt_bdE h
  refine zt_callS (d := 53) zy_351 (show q_ins q_k351 2322 = some (.invokestatic 260, 348, 3) from rfl) zy_348 (by decide) ⟨zq_lt (by decide), by decide⟩ rfl (by simp [Value.category]) (by simp [lg_sl, Value.category]) rfl (zt_dm (by decide) (S_L_setFade hca219)) ?_
  refine zt_istore zy_351 (show q_ins q_k351 2325 = some (.istore 6, 0, 0) from rfl) (by decide) ?_
  refine zt_aload_n zy_351 (show q_ins q_k351 2327 = some (.aload_n 2, 0, 0) from rfl) (v := 163) rfl ?_
  refine zt_aload_n zy_351 (show q_ins q_k351 2328 = some (.aload_n 0, 0, 0) from rfl) (v := q_big) rfl ?_
  refine zt_iload zy_351 (show q_ins q_k351 2329 = some (.iload 5, 0, 0) from rfl) (v := Int32.ofInt v5) rfl ?_
  refine zt_iconst zy_351 (show q_ins q_k351 2331 = some (.iconst 1, 0, 0) from rfl) ?_
  refine zt_iadd zy_351 (show q_ins q_k351 2332 = some (.iadd, 0, 0) from rfl) ?_
  obtain ⟨hg, h⟩ := zt_ckE h
  refine zt_sld zy_351 (show q_ins q_k351 2333 = some (.iaload, 0, 0) from rfl) hg hX ?_
  obtain ⟨a221, s222, hca221, h⟩ := zt_bdE h
  refine zt_callV (d := 53) zy_351 (show q_ins q_k351 2334 = some (.invokevirtual 262, 286, 1) from rfl) zy_286 (by decide) ⟨zq_lt (by decide), by decide⟩ rfl (by simp [Value.category]) (by simp [lg_sl, Value.category]) (zt_rcv zc_163) (zt_dm (by decide) (S_M_setFade hca221)) ?_
  refine zt_istore zy_351 (show q_ins q_k351 2337 = some (.istore 7, 0, 0) from rfl) (by decide) ?_
  refine zt_aload_n zy_351 (show q_ins q_k351 2339 = some (.aload_n 2, 0, 0) from rfl) (v := 163) rfl ?_
  obtain ⟨a223, s224, hca223, h⟩ := zt_bdE h
  refine zt_callV (d := 53) zy_351 (show q_ins q_k351 2340 = some (.invokevirtual 136, 170, 0) from rfl) zy_170 (by decide) ⟨zq_lt (by decide), by decide⟩ rfl (by simp [Value.category]) (by simp [lg_sl, Value.category]) (zt_rcv zc_163) (zt_dm (by decide) (S_M_thrown hca223)) ?_
  refine zt_iload zy_351 (show q_ins q_k351 2343 = some (.iload 6, 0, 0) from rfl) (v := Int32.ofInt a219) rfl ?_
  obtain ⟨hg, h⟩ := zt_ckE h
  refine zt_icmp_eq zy_351 (show q_ins q_k351 2345 = some (.if_icmp .eq 5, 2350, 0) from rfl) (⟨hg.1, hg.2⟩) (fun hc => ?_) (fun hc => ?_)
  · rw [if_pos hc] at h
    refine zt_iload zy_351 (show q_ins q_k351 2350 = some (.iload 6, 0, 0) from rfl) (v := Int32.ofInt a219) rfl ?_
    obtain ⟨hg, h⟩ := zt_ckE h
    refine zt_if_ne zy_351 (show q_ins q_k351 2352 = some (.ifCond .ne 15, 2367, 0) from rfl) (hg) (fun hc => ?_) (fun hc => ?_)
    · rw [if_pos hc] at h
      refine zt_aload_n zy_351 (show q_ins q_k351 2355 = some (.aload_n 3, 0, 0) from rfl) (v := 184) rfl ?_
      refine zt_iconst zy_351 (show q_ins q_k351 2356 = some (.iconst 0, 0, 0) from rfl) ?_
      refine zt_lld zy_351 (show q_ins q_k351 2357 = some (.laload, 0, 0) from rfl) za_184 (by decide) (by decide) ?_
      refine zt_iload zy_351 (show q_ins q_k351 2358 = some (.iload 7, 0, 0) from rfl) (v := Int32.ofInt a221) rfl ?_
      refine zt_i2l zy_351 (show q_ins q_k351 2360 = some (.i2l, 0, 0) from rfl) ?_
      refine zt_lcmp zy_351 (show q_ins q_k351 2361 = some (.lcmp, 0, 0) from rfl) ?_
      refine zt_if_eq zy_351 (show q_ins q_k351 2362 = some (.ifCond .eq 5, 2367, 0) from rfl) (zt_inT _) (fun hc => ?_) (fun hc => ?_)
      · rw [if_pos hc] at h
        exact zt_wk (zt_cov_cons rfl (zt_cov_cons rfl (zt_cov_cons rfl (zt_cov_cons rfl (zt_cov_cons rfl (zt_cov_cons rfl (zt_cov_nil))))))) (S_L_law_2367 hX  hr28 _ _ _ h)
      · rw [if_neg hc] at h
        refine zt_iconst zy_351 (show q_ins q_k351 2365 = some (.iconst 0, 0, 0) from rfl) ?_
        cases h
        exact zt_zret zy_351 (show q_ins q_k351 2366 = some (.ireturn, 0, 0) from rfl) (by decide)
    · rw [if_neg hc] at h
      exact zt_wk (zt_cov_cons rfl (zt_cov_cons rfl (zt_cov_cons rfl (zt_cov_cons rfl (zt_cov_cons rfl (zt_cov_cons rfl (zt_cov_nil))))))) (S_L_law_2367 hX  hr28 _ _ _ h)
  · rw [if_neg hc] at h
    refine zt_iconst zy_351 (show q_ins q_k351 2348 = some (.iconst 0, 0, 0) from rfl) ?_
    cases h
    exact zt_zret zy_351 (show q_ins q_k351 2349 = some (.ireturn, 0, 0) from rfl) (by decide)
set_option maxRecDepth 100000 in
theorem S_L_law_2403 {X : q_X} (hX : X.1 ≤ 1000000)   {r28 : Int → zt_S → Option (Int × zt_S)} (hr28 : ∀ (v5 : Int) (σ : zt_S) (o : (Int × zt_S)), r28 v5 σ = some o → zt_Ex X 54 351 28 [(0, .ref q_big), (1, .ref 0), (2, .ref 163), (3, .ref 184), (4, .ref 185), (5, .int (Int32.ofInt v5))] [] (zt_M σ) (zo_I o)) : ∀ (v5 : Int) (x0 : Int) (x2 : Int) (σ : zt_S) (o : (Int × zt_S)), F_L_law_2403 X  r28 v5 x0 x2 σ = some o → zt_Ex X 54 351 2403 [(0, .ref q_big), (1, .ref 0), (2, .ref 163), (3, .ref 184), (4, .ref 185), (5, .int (Int32.ofInt v5))] [.int (Int32.ofInt x0), .ref 163, .int (Int32.ofInt x2)] (zt_M σ) (zo_I o) := by
  intro v5 x0 x2 σ o  h
  unfold F_L_law_2403 at h
  obtain ⟨a227, s228, hca227, h⟩ := zt_bdE h
  refine zt_callV (d := 53) zy_351 (show q_ins q_k351 2403 = some (.invokevirtual 267, 287, 1) from rfl) zy_287 (by decide) ⟨zq_lt (by decide), by decide⟩ rfl (by simp [Value.category]) (by simp [lg_sl, Value.category]) (zt_rcv zc_163) (zt_dm (by decide) (S_M_setRevive hca227)) ?_
  obtain ⟨hg, h⟩ := zt_ckE h
  refine zt_icmp_eq zy_351 (show q_ins q_k351 2406 = some (.if_icmp .eq 192, 2598, 0) from rfl) (⟨hg.1, hg.2⟩) (fun hc => ?_) (fun hc => ?_)
  · rw [if_pos hc] at h
    exact zt_wk (zt_cov_cons rfl (zt_cov_cons rfl (zt_cov_cons rfl (zt_cov_cons rfl (zt_cov_cons rfl (zt_cov_cons rfl (zt_cov_nil))))))) (S_L_law_2598 hX  hr28 _ _ _ h)
  · rw [if_neg hc] at h
    refine zt_iconst zy_351 (show q_ins q_k351 2409 = some (.iconst 0, 0, 0) from rfl) ?_
    cases h
    exact zt_zret zy_351 (show q_ins q_k351 2410 = some (.ireturn, 0, 0) from rfl) (by decide)
set_option maxRecDepth 100000 in
theorem S_L_law_2385 {X : q_X} (hX : X.1 ≤ 1000000)   {r28 : Int → zt_S → Option (Int × zt_S)} (hr28 : ∀ (v5 : Int) (σ : zt_S) (o : (Int × zt_S)), r28 v5 σ = some o → zt_Ex X 54 351 28 [(0, .ref q_big), (1, .ref 0), (2, .ref 163), (3, .ref 184), (4, .ref 185), (5, .int (Int32.ofInt v5))] [] (zt_M σ) (zo_I o)) : ∀ (v5 : Int) (x0 : Int) (σ : zt_S) (o : (Int × zt_S)), F_L_law_2385 X  r28 v5 x0 σ = some o → zt_Ex X 54 351 2385 [(0, .ref q_big), (1, .ref 0), (2, .ref 163), (3, .ref 184), (4, .ref 185), (5, .int (Int32.ofInt v5))] [.int (Int32.ofInt x0), .ref 0] (zt_M σ) (zo_I o) := by
  intro v5 x0 σ o  h
  unfold F_L_law_2385 at h
  obtain ⟨a225, s226, hca225, h⟩ := zt_bdE h
  refine zt_callV (d := 53) zy_351 (show q_ins q_k351 2385 = some (.invokevirtual 263, 159, 1) from rfl) zy_159 (by decide) ⟨zq_lt (by decide), by decide⟩ rfl (by simp [Value.category]) (by simp [lg_sl, Value.category]) (zt_rcv zc_0) (zt_dm (by decide) (S_C_setRevive hca225)) ?_
  refine zt_aload_n zy_351 (show q_ins q_k351 2388 = some (.aload_n 2, 0, 0) from rfl) (v := 163) rfl ?_
  refine zt_aload_n zy_351 (show q_ins q_k351 2389 = some (.aload_n 0, 0, 0) from rfl) (v := q_big) rfl ?_
  refine zt_iload zy_351 (show q_ins q_k351 2390 = some (.iload 5, 0, 0) from rfl) (v := Int32.ofInt v5) rfl ?_
  refine zt_iconst zy_351 (show q_ins q_k351 2392 = some (.iconst 1, 0, 0) from rfl) ?_
  refine zt_iadd zy_351 (show q_ins q_k351 2393 = some (.iadd, 0, 0) from rfl) ?_
  obtain ⟨hg, h⟩ := zt_ckE h
  refine zt_sld zy_351 (show q_ins q_k351 2394 = some (.iaload, 0, 0) from rfl) hg hX ?_
  refine zt_if_eq zy_351 (show q_ins q_k351 2395 = some (.ifCond .eq 7, 2402, 0) from rfl) (zt_inT _) (fun hc => ?_) (fun hc => ?_)
  · rw [if_pos hc] at h
    refine zt_iconst zy_351 (show q_ins q_k351 2402 = some (.iconst 0, 0, 0) from rfl) ?_
    exact zt_wk (zt_cov_cons rfl (zt_cov_cons rfl (zt_cov_cons rfl (zt_cov_cons rfl (zt_cov_cons rfl (zt_cov_cons rfl (zt_cov_nil))))))) (S_L_law_2403 hX  hr28 _ _ _ _ _ h)
  · rw [if_neg hc] at h
    refine zt_iconst zy_351 (show q_ins q_k351 2398 = some (.iconst 1, 0, 0) from rfl) ?_
    refine zt_goto zy_351 (show q_ins q_k351 2399 = some (.goto 4, 2403, 0) from rfl) ?_
    exact zt_wk (zt_cov_cons rfl (zt_cov_cons rfl (zt_cov_cons rfl (zt_cov_cons rfl (zt_cov_cons rfl (zt_cov_cons rfl (zt_cov_nil))))))) (S_L_law_2403 hX  hr28 _ _ _ _ _ h)
set_option maxRecDepth 100000 in
theorem S_L_law_2370 {X : q_X} (hX : X.1 ≤ 1000000)   {r28 : Int → zt_S → Option (Int × zt_S)} (hr28 : ∀ (v5 : Int) (σ : zt_S) (o : (Int × zt_S)), r28 v5 σ = some o → zt_Ex X 54 351 28 [(0, .ref q_big), (1, .ref 0), (2, .ref 163), (3, .ref 184), (4, .ref 185), (5, .int (Int32.ofInt v5))] [] (zt_M σ) (zo_I o)) : ∀ (v5 : Int) (σ : zt_S) (o : (Int × zt_S)), F_L_law_2370 X  r28 v5 σ = some o → zt_Ex X 54 351 2370 [(0, .ref q_big), (1, .ref 0), (2, .ref 163), (3, .ref 184), (4, .ref 185), (5, .int (Int32.ofInt v5))] [] (zt_M σ) (zo_I o) := by
  intro v5 σ o  h
  unfold F_L_law_2370 at h
  refine zt_aload_n zy_351 (show q_ins q_k351 2370 = some (.aload_n 1, 0, 0) from rfl) (v := 0) rfl ?_
  refine zt_aload_n zy_351 (show q_ins q_k351 2371 = some (.aload_n 0, 0, 0) from rfl) (v := q_big) rfl ?_
  refine zt_iload zy_351 (show q_ins q_k351 2372 = some (.iload 5, 0, 0) from rfl) (v := Int32.ofInt v5) rfl ?_
  refine zt_iconst zy_351 (show q_ins q_k351 2374 = some (.iconst 1, 0, 0) from rfl) ?_
  refine zt_iadd zy_351 (show q_ins q_k351 2375 = some (.iadd, 0, 0) from rfl) ?_
  obtain ⟨hg, h⟩ := zt_ckE h
  refine zt_sld zy_351 (show q_ins q_k351 2376 = some (.iaload, 0, 0) from rfl) hg hX ?_
  refine zt_if_eq zy_351 (show q_ins q_k351 2377 = some (.ifCond .eq 7, 2384, 0) from rfl) (zt_inT _) (fun hc => ?_) (fun hc => ?_)
  · rw [if_pos hc] at h
    refine zt_iconst zy_351 (show q_ins q_k351 2384 = some (.iconst 0, 0, 0) from rfl) ?_
    exact zt_wk (zt_cov_cons rfl (zt_cov_cons rfl (zt_cov_cons rfl (zt_cov_cons rfl (zt_cov_cons rfl (zt_cov_cons rfl (zt_cov_nil))))))) (S_L_law_2385 hX  hr28 _ _ _ _ h)
  · rw [if_neg hc] at h
    refine zt_iconst zy_351 (show q_ins q_k351 2380 = some (.iconst 1, 0, 0) from rfl) ?_
    refine zt_goto zy_351 (show q_ins q_k351 2381 = some (.goto 4, 2385, 0) from rfl) ?_
    exact zt_wk (zt_cov_cons rfl (zt_cov_cons rfl (zt_cov_cons rfl (zt_cov_cons rfl (zt_cov_cons rfl (zt_cov_cons rfl (zt_cov_nil))))))) (S_L_law_2385 hX  hr28 _ _ _ _ h)
set_option maxRecDepth 100000 in
theorem S_L_law_2464 {X : q_X} (hX : X.1 ≤ 1000000)   {r28 : Int → zt_S → Option (Int × zt_S)} (hr28 : ∀ (v5 : Int) (σ : zt_S) (o : (Int × zt_S)), r28 v5 σ = some o → zt_Ex X 54 351 28 [(0, .ref q_big), (1, .ref 0), (2, .ref 163), (3, .ref 184), (4, .ref 185), (5, .int (Int32.ofInt v5))] [] (zt_M σ) (zo_I o)) : ∀ (v5 : Int) (σ : zt_S) (o : (Int × zt_S)), F_L_law_2464 X  r28 v5 σ = some o → zt_Ex X 54 351 2464 [(0, .ref q_big), (1, .ref 0), (2, .ref 163), (3, .ref 184), (4, .ref 185), (5, .int (Int32.ofInt v5))] [] (zt_M σ) (zo_I o) := by
  intro v5 σ o  h
  unfold F_L_law_2464 at h
  refine zt_goto zy_351 (show q_ins q_k351 2464 = some (.goto 134, 2598, 0) from rfl) ?_
  exact zt_wk (zt_cov_cons rfl (zt_cov_cons rfl (zt_cov_cons rfl (zt_cov_cons rfl (zt_cov_cons rfl (zt_cov_cons rfl (zt_cov_nil))))))) (S_L_law_2598 hX  hr28 _ _ _ h)
set_option maxRecDepth 100000 in
theorem S_L_law_2411 {X : q_X} (hX : X.1 ≤ 1000000)   {r28 : Int → zt_S → Option (Int × zt_S)} (hr28 : ∀ (v5 : Int) (σ : zt_S) (o : (Int × zt_S)), r28 v5 σ = some o → zt_Ex X 54 351 28 [(0, .ref q_big), (1, .ref 0), (2, .ref 163), (3, .ref 184), (4, .ref 185), (5, .int (Int32.ofInt v5))] [] (zt_M σ) (zo_I o)) : ∀ (v5 : Int) (σ : zt_S) (o : (Int × zt_S)), F_L_law_2411 X  r28 v5 σ = some o → zt_Ex X 54 351 2411 [(0, .ref q_big), (1, .ref 0), (2, .ref 163), (3, .ref 184), (4, .ref 185), (5, .int (Int32.ofInt v5))] [] (zt_M σ) (zo_I o) := by
  intro v5 σ o  h
  unfold F_L_law_2411 at h
  refine zt_aload_n zy_351 (show q_ins q_k351 2411 = some (.aload_n 1, 0, 0) from rfl) (v := 0) rfl ?_
  refine zt_aload_n zy_351 (show q_ins q_k351 2412 = some (.aload_n 0, 0, 0) from rfl) (v := q_big) rfl ?_
  refine zt_iload zy_351 (show q_ins q_k351 2413 = some (.iload 5, 0, 0) from rfl) (v := Int32.ofInt v5) rfl ?_
  refine zt_iconst zy_351 (show q_ins q_k351 2415 = some (.iconst 1, 0, 0) from rfl) ?_
  refine zt_iadd zy_351 (show q_ins q_k351 2416 = some (.iadd, 0, 0) from rfl) ?_
  obtain ⟨hg, h⟩ := zt_ckE h
  refine zt_sld zy_351 (show q_ins q_k351 2417 = some (.iaload, 0, 0) from rfl) hg hX ?_
  refine zt_aload_n zy_351 (show q_ins q_k351 2418 = some (.aload_n 3, 0, 0) from rfl) (v := 184) rfl ?_
  obtain ⟨a229, s230, hca229, h⟩ := zt_bdE h
  refine zt_callS (d := 53) zy_351 (show q_ins q_k351 2419 = some (.invokestatic 268, 349, 3) from rfl) zy_349 (by decide) ⟨zq_lt (by decide), by decide⟩ rfl (by simp [Value.category]) (by simp [lg_sl, Value.category]) rfl (zt_dm (by decide) (S_L_format hca229)) ?_
  refine zt_istore zy_351 (show q_ins q_k351 2422 = some (.istore 6, 0, 0) from rfl) (by decide) ?_
  refine zt_aload_n zy_351 (show q_ins q_k351 2424 = some (.aload_n 2, 0, 0) from rfl) (v := 163) rfl ?_
  refine zt_aload_n zy_351 (show q_ins q_k351 2425 = some (.aload_n 0, 0, 0) from rfl) (v := q_big) rfl ?_
  refine zt_iload zy_351 (show q_ins q_k351 2426 = some (.iload 5, 0, 0) from rfl) (v := Int32.ofInt v5) rfl ?_
  refine zt_iconst zy_351 (show q_ins q_k351 2428 = some (.iconst 1, 0, 0) from rfl) ?_
  refine zt_iadd zy_351 (show q_ins q_k351 2429 = some (.iadd, 0, 0) from rfl) ?_
  obtain ⟨hg, h⟩ := zt_ckE h
  refine zt_sld zy_351 (show q_ins q_k351 2430 = some (.iaload, 0, 0) from rfl) hg hX ?_
  obtain ⟨a231, s232, hca231, h⟩ := zt_bdE h
  refine zt_callV (d := 53) zy_351 (show q_ins q_k351 2431 = some (.invokevirtual 270, 293, 1) from rfl) zy_293 (by decide) ⟨zq_lt (by decide), by decide⟩ rfl (by simp [Value.category]) (by simp [lg_sl, Value.category]) (zt_rcv zc_163) (zt_dm (by decide) (S_M_format hca231)) ?_
  refine zt_istore zy_351 (show q_ins q_k351 2434 = some (.istore 7, 0, 0) from rfl) (by decide) ?_
  refine zt_aload_n zy_351 (show q_ins q_k351 2436 = some (.aload_n 2, 0, 0) from rfl) (v := 163) rfl ?_
  obtain ⟨a233, s234, hca233, h⟩ := zt_bdE h
  refine zt_callV (d := 53) zy_351 (show q_ins q_k351 2437 = some (.invokevirtual 136, 170, 0) from rfl) zy_170 (by decide) ⟨zq_lt (by decide), by decide⟩ rfl (by simp [Value.category]) (by simp [lg_sl, Value.category]) (zt_rcv zc_163) (zt_dm (by decide) (S_M_thrown hca233)) ?_
  refine zt_iload zy_351 (show q_ins q_k351 2440 = some (.iload 6, 0, 0) from rfl) (v := Int32.ofInt a229) rfl ?_
  obtain ⟨hg, h⟩ := zt_ckE h
  refine zt_icmp_eq zy_351 (show q_ins q_k351 2442 = some (.if_icmp .eq 5, 2447, 0) from rfl) (⟨hg.1, hg.2⟩) (fun hc => ?_) (fun hc => ?_)
  · rw [if_pos hc] at h
    refine zt_iload zy_351 (show q_ins q_k351 2447 = some (.iload 6, 0, 0) from rfl) (v := Int32.ofInt a229) rfl ?_
    obtain ⟨hg, h⟩ := zt_ckE h
    refine zt_if_ne zy_351 (show q_ins q_k351 2449 = some (.ifCond .ne 15, 2464, 0) from rfl) (hg) (fun hc => ?_) (fun hc => ?_)
    · rw [if_pos hc] at h
      refine zt_aload_n zy_351 (show q_ins q_k351 2452 = some (.aload_n 3, 0, 0) from rfl) (v := 184) rfl ?_
      refine zt_iconst zy_351 (show q_ins q_k351 2453 = some (.iconst 0, 0, 0) from rfl) ?_
      refine zt_lld zy_351 (show q_ins q_k351 2454 = some (.laload, 0, 0) from rfl) za_184 (by decide) (by decide) ?_
      refine zt_iload zy_351 (show q_ins q_k351 2455 = some (.iload 7, 0, 0) from rfl) (v := Int32.ofInt a231) rfl ?_
      refine zt_i2l zy_351 (show q_ins q_k351 2457 = some (.i2l, 0, 0) from rfl) ?_
      refine zt_lcmp zy_351 (show q_ins q_k351 2458 = some (.lcmp, 0, 0) from rfl) ?_
      refine zt_if_eq zy_351 (show q_ins q_k351 2459 = some (.ifCond .eq 5, 2464, 0) from rfl) (zt_inT _) (fun hc => ?_) (fun hc => ?_)
      · rw [if_pos hc] at h
        exact zt_wk (zt_cov_cons rfl (zt_cov_cons rfl (zt_cov_cons rfl (zt_cov_cons rfl (zt_cov_cons rfl (zt_cov_cons rfl (zt_cov_nil))))))) (S_L_law_2464 hX  hr28 _ _ _ h)
      · rw [if_neg hc] at h
        refine zt_iconst zy_351 (show q_ins q_k351 2462 = some (.iconst 0, 0, 0) from rfl) ?_
        cases h
        exact zt_zret zy_351 (show q_ins q_k351 2463 = some (.ireturn, 0, 0) from rfl) (by decide)
    · rw [if_neg hc] at h
      exact zt_wk (zt_cov_cons rfl (zt_cov_cons rfl (zt_cov_cons rfl (zt_cov_cons rfl (zt_cov_cons rfl (zt_cov_cons rfl (zt_cov_nil))))))) (S_L_law_2464 hX  hr28 _ _ _ h)
  · rw [if_neg hc] at h
    refine zt_iconst zy_351 (show q_ins q_k351 2445 = some (.iconst 0, 0, 0) from rfl) ?_
    cases h
    exact zt_zret zy_351 (show q_ins q_k351 2446 = some (.ireturn, 0, 0) from rfl) (by decide)
set_option maxRecDepth 100000 in
theorem S_L_law_2467 {X : q_X} (hX : X.1 ≤ 1000000)   {r28 : Int → zt_S → Option (Int × zt_S)} (hr28 : ∀ (v5 : Int) (σ : zt_S) (o : (Int × zt_S)), r28 v5 σ = some o → zt_Ex X 54 351 28 [(0, .ref q_big), (1, .ref 0), (2, .ref 163), (3, .ref 184), (4, .ref 185), (5, .int (Int32.ofInt v5))] [] (zt_M σ) (zo_I o)) : ∀ (v5 : Int) (σ : zt_S) (o : (Int × zt_S)), F_L_law_2467 X  r28 v5 σ = some o → zt_Ex X 54 351 2467 [(0, .ref q_big), (1, .ref 0), (2, .ref 163), (3, .ref 184), (4, .ref 185), (5, .int (Int32.ofInt v5))] [] (zt_M σ) (zo_I o) := by
  intro v5 σ o  h
  unfold F_L_law_2467 at h
  refine zt_aload_n zy_351 (show q_ins q_k351 2467 = some (.aload_n 1, 0, 0) from rfl) (v := 0) rfl ?_
  refine zt_aload_n zy_351 (show q_ins q_k351 2468 = some (.aload_n 0, 0, 0) from rfl) (v := q_big) rfl ?_
  refine zt_iload zy_351 (show q_ins q_k351 2469 = some (.iload 5, 0, 0) from rfl) (v := Int32.ofInt v5) rfl ?_
  refine zt_iconst zy_351 (show q_ins q_k351 2471 = some (.iconst 1, 0, 0) from rfl) ?_
  refine zt_iadd zy_351 (show q_ins q_k351 2472 = some (.iadd, 0, 0) from rfl) ?_
  obtain ⟨hg, h⟩ := zt_ckE h
  refine zt_sld zy_351 (show q_ins q_k351 2473 = some (.iaload, 0, 0) from rfl) hg hX ?_
  obtain ⟨a235, s236, hca235, h⟩ := zt_bdE h
  refine zt_callV (d := 53) zy_351 (show q_ins q_k351 2474 = some (.invokevirtual 271, 161, 1) from rfl) zy_161 (by decide) ⟨zq_lt (by decide), by decide⟩ rfl (by simp [Value.category]) (by simp [lg_sl, Value.category]) (zt_rcv zc_0) (zt_dm (by decide) (S_C_formattedByte hca235)) ?_
  refine zt_aload_n zy_351 (show q_ins q_k351 2477 = some (.aload_n 2, 0, 0) from rfl) (v := 163) rfl ?_
  refine zt_aload_n zy_351 (show q_ins q_k351 2478 = some (.aload_n 0, 0, 0) from rfl) (v := q_big) rfl ?_
  refine zt_iload zy_351 (show q_ins q_k351 2479 = some (.iload 5, 0, 0) from rfl) (v := Int32.ofInt v5) rfl ?_
  refine zt_iconst zy_351 (show q_ins q_k351 2481 = some (.iconst 1, 0, 0) from rfl) ?_
  refine zt_iadd zy_351 (show q_ins q_k351 2482 = some (.iadd, 0, 0) from rfl) ?_
  obtain ⟨hg, h⟩ := zt_ckE h
  refine zt_sld zy_351 (show q_ins q_k351 2483 = some (.iaload, 0, 0) from rfl) hg hX ?_
  obtain ⟨a237, s238, hca237, h⟩ := zt_bdE h
  refine zt_callV (d := 53) zy_351 (show q_ins q_k351 2484 = some (.invokevirtual 274, 294, 1) from rfl) zy_294 (by decide) ⟨zq_lt (by decide), by decide⟩ rfl (by simp [Value.category]) (by simp [lg_sl, Value.category]) (zt_rcv zc_163) (zt_dm (by decide) (S_M_formattedByte hca237)) ?_
  obtain ⟨hg, h⟩ := zt_ckE h
  refine zt_icmp_eq zy_351 (show q_ins q_k351 2487 = some (.if_icmp .eq 111, 2598, 0) from rfl) (⟨hg.1, hg.2⟩) (fun hc => ?_) (fun hc => ?_)
  · rw [if_pos hc] at h
    exact zt_wk (zt_cov_cons rfl (zt_cov_cons rfl (zt_cov_cons rfl (zt_cov_cons rfl (zt_cov_cons rfl (zt_cov_cons rfl (zt_cov_nil))))))) (S_L_law_2598 hX  hr28 _ _ _ h)
  · rw [if_neg hc] at h
    refine zt_iconst zy_351 (show q_ins q_k351 2490 = some (.iconst 0, 0, 0) from rfl) ?_
    cases h
    exact zt_zret zy_351 (show q_ins q_k351 2491 = some (.ireturn, 0, 0) from rfl) (by decide)
set_option maxRecDepth 100000 in
theorem S_L_law_2492 {X : q_X} (hX : X.1 ≤ 1000000)   {r28 : Int → zt_S → Option (Int × zt_S)} (hr28 : ∀ (v5 : Int) (σ : zt_S) (o : (Int × zt_S)), r28 v5 σ = some o → zt_Ex X 54 351 28 [(0, .ref q_big), (1, .ref 0), (2, .ref 163), (3, .ref 184), (4, .ref 185), (5, .int (Int32.ofInt v5))] [] (zt_M σ) (zo_I o)) : ∀ (v5 : Int) (σ : zt_S) (o : (Int × zt_S)), F_L_law_2492 X  r28 v5 σ = some o → zt_Ex X 54 351 2492 [(0, .ref q_big), (1, .ref 0), (2, .ref 163), (3, .ref 184), (4, .ref 185), (5, .int (Int32.ofInt v5))] [] (zt_M σ) (zo_I o) := by
  intro v5 σ o  h
  unfold F_L_law_2492 at h
  refine zt_aload_n zy_351 (show q_ins q_k351 2492 = some (.aload_n 1, 0, 0) from rfl) (v := 0) rfl ?_
  obtain ⟨a239, s240, hca239, h⟩ := zt_bdE h
  refine zt_callV (d := 53) zy_351 (show q_ins q_k351 2493 = some (.invokevirtual 275, 162, 0) from rfl) zy_162 (by decide) ⟨zq_lt (by decide), by decide⟩ rfl (by simp [Value.category]) (by simp [lg_sl, Value.category]) (zt_rcv zc_0) (zt_dm (by decide) (S_C_undoCount hca239)) ?_
  refine zt_aload_n zy_351 (show q_ins q_k351 2496 = some (.aload_n 2, 0, 0) from rfl) (v := 163) rfl ?_
  obtain ⟨a241, s242, hca241, h⟩ := zt_bdE h
  refine zt_callV (d := 53) zy_351 (show q_ins q_k351 2497 = some (.invokevirtual 278, 288, 0) from rfl) zy_288 (by decide) ⟨zq_lt (by decide), by decide⟩ rfl (by simp [Value.category]) (by simp [lg_sl, Value.category]) (zt_rcv zc_163) (zt_dm (by decide) (S_M_undoCount hca241)) ?_
  obtain ⟨hg, h⟩ := zt_ckE h
  refine zt_icmp_eq zy_351 (show q_ins q_k351 2500 = some (.if_icmp .eq 98, 2598, 0) from rfl) (⟨hg.1, hg.2⟩) (fun hc => ?_) (fun hc => ?_)
  · rw [if_pos hc] at h
    exact zt_wk (zt_cov_cons rfl (zt_cov_cons rfl (zt_cov_cons rfl (zt_cov_cons rfl (zt_cov_cons rfl (zt_cov_cons rfl (zt_cov_nil))))))) (S_L_law_2598 hX  hr28 _ _ _ h)
  · rw [if_neg hc] at h
    refine zt_iconst zy_351 (show q_ins q_k351 2503 = some (.iconst 0, 0, 0) from rfl) ?_
    cases h
    exact zt_zret zy_351 (show q_ins q_k351 2504 = some (.ireturn, 0, 0) from rfl) (by decide)
set_option maxRecDepth 100000 in
theorem S_L_law_2505 {X : q_X} (hX : X.1 ≤ 1000000)   {r28 : Int → zt_S → Option (Int × zt_S)} (hr28 : ∀ (v5 : Int) (σ : zt_S) (o : (Int × zt_S)), r28 v5 σ = some o → zt_Ex X 54 351 28 [(0, .ref q_big), (1, .ref 0), (2, .ref 163), (3, .ref 184), (4, .ref 185), (5, .int (Int32.ofInt v5))] [] (zt_M σ) (zo_I o)) : ∀ (v5 : Int) (σ : zt_S) (o : (Int × zt_S)), F_L_law_2505 X  r28 v5 σ = some o → zt_Ex X 54 351 2505 [(0, .ref q_big), (1, .ref 0), (2, .ref 163), (3, .ref 184), (4, .ref 185), (5, .int (Int32.ofInt v5))] [] (zt_M σ) (zo_I o) := by
  intro v5 σ o  h
  unfold F_L_law_2505 at h
  refine zt_aload_n zy_351 (show q_ins q_k351 2505 = some (.aload_n 1, 0, 0) from rfl) (v := 0) rfl ?_
  obtain ⟨a243, s244, hca243, h⟩ := zt_bdE h
  refine zt_callV (d := 53) zy_351 (show q_ins q_k351 2506 = some (.invokevirtual 279, 163, 0) from rfl) zy_163 (by decide) ⟨zq_lt (by decide), by decide⟩ rfl (by simp [Value.category]) (by simp [lg_sl, Value.category]) (zt_rcv zc_0) (zt_dm (by decide) (S_C_undo hca243)) ?_
  refine zt_aload_n zy_351 (show q_ins q_k351 2509 = some (.aload_n 2, 0, 0) from rfl) (v := 163) rfl ?_
  obtain ⟨a245, s246, hca245, h⟩ := zt_bdE h
  refine zt_callV (d := 53) zy_351 (show q_ins q_k351 2510 = some (.invokevirtual 282, 289, 0) from rfl) zy_289 (by decide) ⟨zq_lt (by decide), by decide⟩ rfl (by simp [Value.category]) (by simp [lg_sl, Value.category]) (zt_rcv zc_163) (zt_dm (by decide) (S_M_undo hca245)) ?_
  obtain ⟨hg, h⟩ := zt_ckE h
  refine zt_icmp_eq zy_351 (show q_ins q_k351 2513 = some (.if_icmp .eq 85, 2598, 0) from rfl) (⟨hg.1, hg.2⟩) (fun hc => ?_) (fun hc => ?_)
  · rw [if_pos hc] at h
    exact zt_wk (zt_cov_cons rfl (zt_cov_cons rfl (zt_cov_cons rfl (zt_cov_cons rfl (zt_cov_cons rfl (zt_cov_cons rfl (zt_cov_nil))))))) (S_L_law_2598 hX  hr28 _ _ _ h)
  · rw [if_neg hc] at h
    refine zt_iconst zy_351 (show q_ins q_k351 2516 = some (.iconst 0, 0, 0) from rfl) ?_
    cases h
    exact zt_zret zy_351 (show q_ins q_k351 2517 = some (.ireturn, 0, 0) from rfl) (by decide)
set_option maxRecDepth 100000 in
theorem S_L_law_2518 {X : q_X} (hX : X.1 ≤ 1000000)   {r28 : Int → zt_S → Option (Int × zt_S)} (hr28 : ∀ (v5 : Int) (σ : zt_S) (o : (Int × zt_S)), r28 v5 σ = some o → zt_Ex X 54 351 28 [(0, .ref q_big), (1, .ref 0), (2, .ref 163), (3, .ref 184), (4, .ref 185), (5, .int (Int32.ofInt v5))] [] (zt_M σ) (zo_I o)) : ∀ (v5 : Int) (σ : zt_S) (o : (Int × zt_S)), F_L_law_2518 X  r28 v5 σ = some o → zt_Ex X 54 351 2518 [(0, .ref q_big), (1, .ref 0), (2, .ref 163), (3, .ref 184), (4, .ref 185), (5, .int (Int32.ofInt v5))] [] (zt_M σ) (zo_I o) := by
  intro v5 σ o  h
  unfold F_L_law_2518 at h
  refine zt_aload_n zy_351 (show q_ins q_k351 2518 = some (.aload_n 1, 0, 0) from rfl) (v := 0) rfl ?_
  obtain ⟨a247, s248, hca247, h⟩ := zt_bdE h
  refine zt_callV (d := 53) zy_351 (show q_ins q_k351 2519 = some (.invokevirtual 283, 164, 0) from rfl) zy_164 (by decide) ⟨zq_lt (by decide), by decide⟩ rfl (by simp [Value.category]) (by simp [lg_sl, Value.category]) (zt_rcv zc_0) (zt_dm (by decide) (S_C_saveSnapshot hca247)) ?_
  refine zt_aload_n zy_351 (show q_ins q_k351 2522 = some (.aload_n 2, 0, 0) from rfl) (v := 163) rfl ?_
  obtain ⟨a249, s250, hca249, h⟩ := zt_bdE h
  refine zt_callV (d := 53) zy_351 (show q_ins q_k351 2523 = some (.invokevirtual 286, 290, 0) from rfl) zy_290 (by decide) ⟨zq_lt (by decide), by decide⟩ rfl (by simp [Value.category]) (by simp [lg_sl, Value.category]) (zt_rcv zc_163) (zt_dm (by decide) (S_M_saveSnapshot hca249)) ?_
  refine zt_goto zy_351 (show q_ins q_k351 2526 = some (.goto 72, 2598, 0) from rfl) ?_
  exact zt_wk (zt_cov_cons rfl (zt_cov_cons rfl (zt_cov_cons rfl (zt_cov_cons rfl (zt_cov_cons rfl (zt_cov_cons rfl (zt_cov_nil))))))) (S_L_law_2598 hX  hr28 _ _ _ h)
set_option maxRecDepth 100000 in
theorem S_L_law_2529 {X : q_X} (hX : X.1 ≤ 1000000)   {r28 : Int → zt_S → Option (Int × zt_S)} (hr28 : ∀ (v5 : Int) (σ : zt_S) (o : (Int × zt_S)), r28 v5 σ = some o → zt_Ex X 54 351 28 [(0, .ref q_big), (1, .ref 0), (2, .ref 163), (3, .ref 184), (4, .ref 185), (5, .int (Int32.ofInt v5))] [] (zt_M σ) (zo_I o)) : ∀ (v5 : Int) (σ : zt_S) (o : (Int × zt_S)), F_L_law_2529 X  r28 v5 σ = some o → zt_Ex X 54 351 2529 [(0, .ref q_big), (1, .ref 0), (2, .ref 163), (3, .ref 184), (4, .ref 185), (5, .int (Int32.ofInt v5))] [] (zt_M σ) (zo_I o) := by
  intro v5 σ o  h
  unfold F_L_law_2529 at h
  refine zt_aload_n zy_351 (show q_ins q_k351 2529 = some (.aload_n 1, 0, 0) from rfl) (v := 0) rfl ?_
  obtain ⟨a251, s252, hca251, h⟩ := zt_bdE h
  refine zt_callV (d := 53) zy_351 (show q_ins q_k351 2530 = some (.invokevirtual 287, 165, 0) from rfl) zy_165 (by decide) ⟨zq_lt (by decide), by decide⟩ rfl (by simp [Value.category]) (by simp [lg_sl, Value.category]) (zt_rcv zc_0) (zt_dm (by decide) (S_C_restoreSnapshot hca251)) ?_
  refine zt_aload_n zy_351 (show q_ins q_k351 2533 = some (.aload_n 2, 0, 0) from rfl) (v := 163) rfl ?_
  obtain ⟨a253, s254, hca253, h⟩ := zt_bdE h
  refine zt_callV (d := 53) zy_351 (show q_ins q_k351 2534 = some (.invokevirtual 291, 291, 0) from rfl) zy_291 (by decide) ⟨zq_lt (by decide), by decide⟩ rfl (by simp [Value.category]) (by simp [lg_sl, Value.category]) (zt_rcv zc_163) (zt_dm (by decide) (S_M_restoreSnapshot hca253)) ?_
  obtain ⟨hg, h⟩ := zt_ckE h
  refine zt_icmp_eq zy_351 (show q_ins q_k351 2537 = some (.if_icmp .eq 61, 2598, 0) from rfl) (⟨hg.1, hg.2⟩) (fun hc => ?_) (fun hc => ?_)
  · rw [if_pos hc] at h
    exact zt_wk (zt_cov_cons rfl (zt_cov_cons rfl (zt_cov_cons rfl (zt_cov_cons rfl (zt_cov_cons rfl (zt_cov_cons rfl (zt_cov_nil))))))) (S_L_law_2598 hX  hr28 _ _ _ h)
  · rw [if_neg hc] at h
    refine zt_iconst zy_351 (show q_ins q_k351 2540 = some (.iconst 0, 0, 0) from rfl) ?_
    cases h
    exact zt_zret zy_351 (show q_ins q_k351 2541 = some (.ireturn, 0, 0) from rfl) (by decide)
set_option maxRecDepth 100000 in
theorem S_L_law_2595 {X : q_X} (hX : X.1 ≤ 1000000)   {r28 : Int → zt_S → Option (Int × zt_S)} (hr28 : ∀ (v5 : Int) (σ : zt_S) (o : (Int × zt_S)), r28 v5 σ = some o → zt_Ex X 54 351 28 [(0, .ref q_big), (1, .ref 0), (2, .ref 163), (3, .ref 184), (4, .ref 185), (5, .int (Int32.ofInt v5))] [] (zt_M σ) (zo_I o)) : ∀ (v5 : Int) (σ : zt_S) (o : (Int × zt_S)), F_L_law_2595 X  r28 v5 σ = some o → zt_Ex X 54 351 2595 [(0, .ref q_big), (1, .ref 0), (2, .ref 163), (3, .ref 184), (4, .ref 185), (5, .int (Int32.ofInt v5))] [] (zt_M σ) (zo_I o) := by
  intro v5 σ o  h
  unfold F_L_law_2595 at h
  refine zt_goto zy_351 (show q_ins q_k351 2595 = some (.goto 3, 2598, 0) from rfl) ?_
  exact zt_wk (zt_cov_cons rfl (zt_cov_cons rfl (zt_cov_cons rfl (zt_cov_cons rfl (zt_cov_cons rfl (zt_cov_cons rfl (zt_cov_nil))))))) (S_L_law_2598 hX  hr28 _ _ _ h)
set_option maxRecDepth 100000 in
theorem S_L_law_2542 {X : q_X} (hX : X.1 ≤ 1000000)   {r28 : Int → zt_S → Option (Int × zt_S)} (hr28 : ∀ (v5 : Int) (σ : zt_S) (o : (Int × zt_S)), r28 v5 σ = some o → zt_Ex X 54 351 28 [(0, .ref q_big), (1, .ref 0), (2, .ref 163), (3, .ref 184), (4, .ref 185), (5, .int (Int32.ofInt v5))] [] (zt_M σ) (zo_I o)) : ∀ (v5 : Int) (σ : zt_S) (o : (Int × zt_S)), F_L_law_2542 X  r28 v5 σ = some o → zt_Ex X 54 351 2542 [(0, .ref q_big), (1, .ref 0), (2, .ref 163), (3, .ref 184), (4, .ref 185), (5, .int (Int32.ofInt v5))] [] (zt_M σ) (zo_I o) := by
  intro v5 σ o  h
  unfold F_L_law_2542 at h
  refine zt_aload_n zy_351 (show q_ins q_k351 2542 = some (.aload_n 1, 0, 0) from rfl) (v := 0) rfl ?_
  refine zt_aload_n zy_351 (show q_ins q_k351 2543 = some (.aload_n 0, 0, 0) from rfl) (v := q_big) rfl ?_
  refine zt_iload zy_351 (show q_ins q_k351 2544 = some (.iload 5, 0, 0) from rfl) (v := Int32.ofInt v5) rfl ?_
  refine zt_iconst zy_351 (show q_ins q_k351 2546 = some (.iconst 1, 0, 0) from rfl) ?_
  refine zt_iadd zy_351 (show q_ins q_k351 2547 = some (.iadd, 0, 0) from rfl) ?_
  obtain ⟨hg, h⟩ := zt_ckE h
  refine zt_sld zy_351 (show q_ins q_k351 2548 = some (.iaload, 0, 0) from rfl) hg hX ?_
  refine zt_aload_n zy_351 (show q_ins q_k351 2549 = some (.aload_n 3, 0, 0) from rfl) (v := 184) rfl ?_
  obtain ⟨a255, s256, hca255, h⟩ := zt_bdE h
  refine zt_callS (d := 53) zy_351 (show q_ins q_k351 2550 = some (.invokestatic 292, 350, 3) from rfl) zy_350 (by decide) ⟨zq_lt (by decide), by decide⟩ rfl (by simp [Value.category]) (by simp [lg_sl, Value.category]) rfl (zt_dm (by decide) (S_L_query hca255)) ?_
  refine zt_istore zy_351 (show q_ins q_k351 2553 = some (.istore 6, 0, 0) from rfl) (by decide) ?_
  refine zt_aload_n zy_351 (show q_ins q_k351 2555 = some (.aload_n 2, 0, 0) from rfl) (v := 163) rfl ?_
  refine zt_aload_n zy_351 (show q_ins q_k351 2556 = some (.aload_n 0, 0, 0) from rfl) (v := q_big) rfl ?_
  refine zt_iload zy_351 (show q_ins q_k351 2557 = some (.iload 5, 0, 0) from rfl) (v := Int32.ofInt v5) rfl ?_
  refine zt_iconst zy_351 (show q_ins q_k351 2559 = some (.iconst 1, 0, 0) from rfl) ?_
  refine zt_iadd zy_351 (show q_ins q_k351 2560 = some (.iadd, 0, 0) from rfl) ?_
  obtain ⟨hg, h⟩ := zt_ckE h
  refine zt_sld zy_351 (show q_ins q_k351 2561 = some (.iaload, 0, 0) from rfl) hg hX ?_
  obtain ⟨a257, s258, hca257, h⟩ := zt_bdE h
  refine zt_callV (d := 53) zy_351 (show q_ins q_k351 2562 = some (.invokevirtual 294, 308, 1) from rfl) zy_308 (by decide) ⟨zq_lt (by decide), by decide⟩ rfl (by simp [Value.category]) (by simp [lg_sl, Value.category]) (zt_rcv zc_163) (zt_dm (by decide) (S_M_query hca257)) ?_
  refine zt_istore zy_351 (show q_ins q_k351 2565 = some (.istore 7, 0, 0) from rfl) (by decide) ?_
  refine zt_aload_n zy_351 (show q_ins q_k351 2567 = some (.aload_n 2, 0, 0) from rfl) (v := 163) rfl ?_
  obtain ⟨a259, s260, hca259, h⟩ := zt_bdE h
  refine zt_callV (d := 53) zy_351 (show q_ins q_k351 2568 = some (.invokevirtual 136, 170, 0) from rfl) zy_170 (by decide) ⟨zq_lt (by decide), by decide⟩ rfl (by simp [Value.category]) (by simp [lg_sl, Value.category]) (zt_rcv zc_163) (zt_dm (by decide) (S_M_thrown hca259)) ?_
  refine zt_iload zy_351 (show q_ins q_k351 2571 = some (.iload 6, 0, 0) from rfl) (v := Int32.ofInt a255) rfl ?_
  obtain ⟨hg, h⟩ := zt_ckE h
  refine zt_icmp_eq zy_351 (show q_ins q_k351 2573 = some (.if_icmp .eq 5, 2578, 0) from rfl) (⟨hg.1, hg.2⟩) (fun hc => ?_) (fun hc => ?_)
  · rw [if_pos hc] at h
    refine zt_iload zy_351 (show q_ins q_k351 2578 = some (.iload 6, 0, 0) from rfl) (v := Int32.ofInt a255) rfl ?_
    obtain ⟨hg, h⟩ := zt_ckE h
    refine zt_if_ne zy_351 (show q_ins q_k351 2580 = some (.ifCond .ne 15, 2595, 0) from rfl) (hg) (fun hc => ?_) (fun hc => ?_)
    · rw [if_pos hc] at h
      refine zt_aload_n zy_351 (show q_ins q_k351 2583 = some (.aload_n 3, 0, 0) from rfl) (v := 184) rfl ?_
      refine zt_iconst zy_351 (show q_ins q_k351 2584 = some (.iconst 0, 0, 0) from rfl) ?_
      refine zt_lld zy_351 (show q_ins q_k351 2585 = some (.laload, 0, 0) from rfl) za_184 (by decide) (by decide) ?_
      refine zt_iload zy_351 (show q_ins q_k351 2586 = some (.iload 7, 0, 0) from rfl) (v := Int32.ofInt a257) rfl ?_
      refine zt_i2l zy_351 (show q_ins q_k351 2588 = some (.i2l, 0, 0) from rfl) ?_
      refine zt_lcmp zy_351 (show q_ins q_k351 2589 = some (.lcmp, 0, 0) from rfl) ?_
      refine zt_if_eq zy_351 (show q_ins q_k351 2590 = some (.ifCond .eq 5, 2595, 0) from rfl) (zt_inT _) (fun hc => ?_) (fun hc => ?_)
      · rw [if_pos hc] at h
        exact zt_wk (zt_cov_cons rfl (zt_cov_cons rfl (zt_cov_cons rfl (zt_cov_cons rfl (zt_cov_cons rfl (zt_cov_cons rfl (zt_cov_nil))))))) (S_L_law_2595 hX  hr28 _ _ _ h)
      · rw [if_neg hc] at h
        refine zt_iconst zy_351 (show q_ins q_k351 2593 = some (.iconst 0, 0, 0) from rfl) ?_
        cases h
        exact zt_zret zy_351 (show q_ins q_k351 2594 = some (.ireturn, 0, 0) from rfl) (by decide)
    · rw [if_neg hc] at h
      exact zt_wk (zt_cov_cons rfl (zt_cov_cons rfl (zt_cov_cons rfl (zt_cov_cons rfl (zt_cov_cons rfl (zt_cov_cons rfl (zt_cov_nil))))))) (S_L_law_2595 hX  hr28 _ _ _ h)
  · rw [if_neg hc] at h
    refine zt_iconst zy_351 (show q_ins q_k351 2576 = some (.iconst 0, 0, 0) from rfl) ?_
    cases h
    exact zt_zret zy_351 (show q_ins q_k351 2577 = some (.ireturn, 0, 0) from rfl) (by decide)
