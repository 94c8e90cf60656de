/-! the mini-machine does what the law's function says (by program) -/
set_option maxRecDepth 100000 in
theorem S_L_law_2598 {X : q_X} (hX : X.1 ≤ 1000000)   {r28 : Int → zt_S → Option (Int × zt_S)} (hr28 : ∀ (v5 : Int) (σ : zt_S) (o : (Int × zt_S)), r28 v5 σ = some o → zt_Ex X 54 351 28 [(0, .ref q_big), (1, .ref 0), (2, .ref 163), (3, .ref 184), (4, .ref 185), (5, .int (Int32.ofInt v5))] [] (zt_M σ) (zo_I o)) : ∀ (v5 : Int) (σ : zt_S) (o : (Int × zt_S)), F_L_law_2598 X  r28 v5 σ = some o → zt_Ex X 54 351 2598 [(0, .ref q_big), (1, .ref 0), (2, .ref 163), (3, .ref 184), (4, .ref 185), (5, .int (Int32.ofInt v5))] [] (zt_M σ) (zo_I o) := by
  intro v5 σ o  h
  unfold F_L_law_2598 at h
  refine zt_iinc zy_351 (show q_ins q_k351 2598 = some (.iinc 5 6, 0, 0) from rfl) (v := v5) (by decide) rfl ?_
  refine zt_goto zy_351 (show q_ins q_k351 2601 = some (.goto (-2573), 28, 0) from rfl) ?_
  exact zt_wk (zt_cov_cons rfl (zt_cov_cons rfl (zt_cov_cons rfl (zt_cov_cons rfl (zt_cov_cons rfl (zt_cov_cons rfl (zt_cov_nil))))))) (hr28 _ _ _ h)
set_option maxRecDepth 100000 in
theorem S_L_law_252 {X : q_X} (hX : X.1 ≤ 1000000)   {r28 : Int → zt_S → Option (Int × zt_S)} (hr28 : ∀ (v5 : Int) (σ : zt_S) (o : (Int × zt_S)), r28 v5 σ = some o → zt_Ex X 54 351 28 [(0, .ref q_big), (1, .ref 0), (2, .ref 163), (3, .ref 184), (4, .ref 185), (5, .int (Int32.ofInt v5))] [] (zt_M σ) (zo_I o)) : ∀ (v5 : Int) (σ : zt_S) (o : (Int × zt_S)), F_L_law_252 X  r28 v5 σ = some o → zt_Ex X 54 351 252 [(0, .ref q_big), (1, .ref 0), (2, .ref 163), (3, .ref 184), (4, .ref 185), (5, .int (Int32.ofInt v5))] [] (zt_M σ) (zo_I o) := by
  intro v5 σ o  h
  unfold F_L_law_252 at h
  refine zt_aload_n zy_351 (show q_ins q_k351 252 = some (.aload_n 1, 0, 0) from rfl) (v := 0) rfl ?_
  refine zt_aload_n zy_351 (show q_ins q_k351 253 = some (.aload_n 0, 0, 0) from rfl) (v := q_big) rfl ?_
  refine zt_iload zy_351 (show q_ins q_k351 254 = some (.iload 5, 0, 0) from rfl) (v := Int32.ofInt v5) rfl ?_
  refine zt_iconst zy_351 (show q_ins q_k351 256 = some (.iconst 1, 0, 0) from rfl) ?_
  refine zt_iadd zy_351 (show q_ins q_k351 257 = some (.iadd, 0, 0) from rfl) ?_
  obtain ⟨hg, h⟩ := zt_ckE h
  refine zt_sld zy_351 (show q_ins q_k351 258 = some (.iaload, 0, 0) from rfl) hg hX ?_
  refine zt_aload_n zy_351 (show q_ins q_k351 259 = some (.aload_n 0, 0, 0) from rfl) (v := q_big) rfl ?_
  refine zt_iload zy_351 (show q_ins q_k351 260 = some (.iload 5, 0, 0) from rfl) (v := Int32.ofInt v5) rfl ?_
  refine zt_iconst zy_351 (show q_ins q_k351 262 = some (.iconst 2, 0, 0) from rfl) ?_
  refine zt_iadd zy_351 (show q_ins q_k351 263 = some (.iadd, 0, 0) from rfl) ?_
  obtain ⟨hg, h⟩ := zt_ckE h
  refine zt_sld zy_351 (show q_ins q_k351 264 = some (.iaload, 0, 0) from rfl) hg hX ?_
  refine zt_aload_n zy_351 (show q_ins q_k351 265 = some (.aload_n 0, 0, 0) from rfl) (v := q_big) rfl ?_
  refine zt_iload zy_351 (show q_ins q_k351 266 = some (.iload 5, 0, 0) from rfl) (v := Int32.ofInt v5) rfl ?_
  refine zt_iconst zy_351 (show q_ins q_k351 268 = some (.iconst 3, 0, 0) from rfl) ?_
  refine zt_iadd zy_351 (show q_ins q_k351 269 = some (.iadd, 0, 0) from rfl) ?_
  obtain ⟨hg, h⟩ := zt_ckE h
  refine zt_sld zy_351 (show q_ins q_k351 270 = some (.iaload, 0, 0) from rfl) hg hX ?_
  refine zt_aload_n zy_351 (show q_ins q_k351 271 = some (.aload_n 0, 0, 0) from rfl) (v := q_big) rfl ?_
  refine zt_iload zy_351 (show q_ins q_k351 272 = some (.iload 5, 0, 0) from rfl) (v := Int32.ofInt v5) rfl ?_
  refine zt_iconst zy_351 (show q_ins q_k351 274 = some (.iconst 4, 0, 0) from rfl) ?_
  refine zt_iadd zy_351 (show q_ins q_k351 275 = some (.iadd, 0, 0) from rfl) ?_
  obtain ⟨hg, h⟩ := zt_ckE h
  refine zt_sld zy_351 (show q_ins q_k351 276 = some (.iaload, 0, 0) from rfl) hg hX ?_
  refine zt_aload_n zy_351 (show q_ins q_k351 277 = some (.aload_n 0, 0, 0) from rfl) (v := q_big) rfl ?_
  refine zt_iload zy_351 (show q_ins q_k351 278 = some (.iload 5, 0, 0) from rfl) (v := Int32.ofInt v5) rfl ?_
  refine zt_iconst zy_351 (show q_ins q_k351 280 = some (.iconst 5, 0, 0) from rfl) ?_
  refine zt_iadd zy_351 (show q_ins q_k351 281 = some (.iadd, 0, 0) from rfl) ?_
  obtain ⟨hg, h⟩ := zt_ckE h
  refine zt_sld zy_351 (show q_ins q_k351 282 = some (.iaload, 0, 0) from rfl) hg hX ?_
  obtain ⟨a1, s2, hca1, h⟩ := zt_bdE h
  refine zt_callV (d := 53) zy_351 (show q_ins q_k351 283 = some (.invokevirtual 125, 117, 5) from rfl) zy_117 (by decide) ⟨zq_lt (by decide), by decide⟩ rfl (by simp [Value.category]) (by simp [lg_sl, Value.category]) (zt_rcv zc_0) (zt_dm (by decide) (S_C_feed hca1)) ?_
  refine zt_aload_n zy_351 (show q_ins q_k351 286 = some (.aload_n 2, 0, 0) from rfl) (v := 163) rfl ?_
  refine zt_aload_n zy_351 (show q_ins q_k351 287 = some (.aload_n 0, 0, 0) from rfl) (v := q_big) rfl ?_
  refine zt_iload zy_351 (show q_ins q_k351 288 = some (.iload 5, 0, 0) from rfl) (v := Int32.ofInt v5) rfl ?_
  refine zt_iconst zy_351 (show q_ins q_k351 290 = some (.iconst 1, 0, 0) from rfl) ?_
  refine zt_iadd zy_351 (show q_ins q_k351 291 = some (.iadd, 0, 0) from rfl) ?_
  obtain ⟨hg, h⟩ := zt_ckE h
  refine zt_sld zy_351 (show q_ins q_k351 292 = some (.iaload, 0, 0) from rfl) hg hX ?_
  refine zt_aload_n zy_351 (show q_ins q_k351 293 = some (.aload_n 0, 0, 0) from rfl) (v := q_big) rfl ?_
  refine zt_iload zy_351 (show q_ins q_k351 294 = some (.iload 5, 0, 0) from rfl) (v := Int32.ofInt v5) rfl ?_
  refine zt_iconst zy_351 (show q_ins q_k351 296 = some (.iconst 2, 0, 0) from rfl) ?_
  refine zt_iadd zy_351 (show q_ins q_k351 297 = some (.iadd, 0, 0) from rfl) ?_
  obtain ⟨hg, h⟩ := zt_ckE h
  refine zt_sld zy_351 (show q_ins q_k351 298 = some (.iaload, 0, 0) from rfl) hg hX ?_
  refine zt_aload_n zy_351 (show q_ins q_k351 299 = some (.aload_n 0, 0, 0) from rfl) (v := q_big) rfl ?_
  refine zt_iload zy_351 (show q_ins q_k351 300 = some (.iload 5, 0, 0) from rfl) (v := Int32.ofInt v5) rfl ?_
  refine zt_iconst zy_351 (show q_ins q_k351 302 = some (.iconst 3, 0, 0) from rfl) ?_
  refine zt_iadd zy_351 (show q_ins q_k351 303 = some (.iadd, 0, 0) from rfl) ?_
  obtain ⟨hg, h⟩ := zt_ckE h
  refine zt_sld zy_351 (show q_ins q_k351 304 = some (.iaload, 0, 0) from rfl) hg hX ?_
  refine zt_aload_n zy_351 (show q_ins q_k351 305 = some (.aload_n 0, 0, 0) from rfl) (v := q_big) rfl ?_
  refine zt_iload zy_351 (show q_ins q_k351 306 = some (.iload 5, 0, 0) from rfl) (v := Int32.ofInt v5) rfl ?_
  refine zt_iconst zy_351 (show q_ins q_k351 308 = some (.iconst 4, 0, 0) from rfl) ?_
  refine zt_iadd zy_351 (show q_ins q_k351 309 = some (.iadd, 0, 0) from rfl) ?_
  obtain ⟨hg, h⟩ := zt_ckE h
  refine zt_sld zy_351 (show q_ins q_k351 310 = some (.iaload, 0, 0) from rfl) hg hX ?_
  refine zt_aload_n zy_351 (show q_ins q_k351 311 = some (.aload_n 0, 0, 0) from rfl) (v := q_big) rfl ?_
  refine zt_iload zy_351 (show q_ins q_k351 312 = some (.iload 5, 0, 0) from rfl) (v := Int32.ofInt v5) rfl ?_
  refine zt_iconst zy_351 (show q_ins q_k351 314 = some (.iconst 5, 0, 0) from rfl) ?_
  refine zt_iadd zy_351 (show q_ins q_k351 315 = some (.iadd, 0, 0) from rfl) ?_
  obtain ⟨hg, h⟩ := zt_ckE h
  refine zt_sld zy_351 (show q_ins q_k351 316 = some (.iaload, 0, 0) from rfl) hg hX ?_
  obtain ⟨a3, s4, hca3, h⟩ := zt_bdE h
  refine zt_callV (d := 53) zy_351 (show q_ins q_k351 317 = some (.invokevirtual 129, 183, 5) from rfl) zy_183 (by decide) ⟨zq_lt (by decide), by decide⟩ rfl (by simp [Value.category]) (by simp [lg_sl, Value.category]) (zt_rcv zc_163) (zt_dm (by decide) (S_M_feed hca3)) ?_
  obtain ⟨hg, h⟩ := zt_ckE h
  refine zt_icmp_eq zy_351 (show q_ins q_k351 320 = some (.if_icmp .eq 2278, 2598, 0) from rfl) (⟨hg.1, hg.2⟩) (fun hc => ?_) (fun hc => ?_)
  · rw [if_pos hc] at h
    exact zt_wk (zt_cov_cons rfl (zt_cov_cons rfl (zt_cov_cons rfl (zt_cov_cons rfl (zt_cov_cons rfl (zt_cov_cons rfl (zt_cov_nil))))))) (S_L_law_2598 hX  hr28 _ _ _ h)
  · rw [if_neg hc] at h
    refine zt_iconst zy_351 (show q_ins q_k351 323 = some (.iconst 0, 0, 0) from rfl) ?_
    cases h
    exact zt_zret zy_351 (show q_ins q_k351 324 = some (.ireturn, 0, 0) from rfl) (by decide)
set_option maxRecDepth 100000 in
theorem S_L_law_378 {X : q_X} (hX : X.1 ≤ 1000000)   {r28 : Int → zt_S → Option (Int × zt_S)} (hr28 : ∀ (v5 : Int) (σ : zt_S) (o : (Int × zt_S)), r28 v5 σ = some o → zt_Ex X 54 351 28 [(0, .ref q_big), (1, .ref 0), (2, .ref 163), (3, .ref 184), (4, .ref 185), (5, .int (Int32.ofInt v5))] [] (zt_M σ) (zo_I o)) : ∀ (v5 : Int) (σ : zt_S) (o : (Int × zt_S)), F_L_law_378 X  r28 v5 σ = some o → zt_Ex X 54 351 378 [(0, .ref q_big), (1, .ref 0), (2, .ref 163), (3, .ref 184), (4, .ref 185), (5, .int (Int32.ofInt v5))] [] (zt_M σ) (zo_I o) := by
  intro v5 σ o  h
  unfold F_L_law_378 at h
  refine zt_goto zy_351 (show q_ins q_k351 378 = some (.goto 2220, 2598, 0) from rfl) ?_
  exact zt_wk (zt_cov_cons rfl (zt_cov_cons rfl (zt_cov_cons rfl (zt_cov_cons rfl (zt_cov_cons rfl (zt_cov_cons rfl (zt_cov_nil))))))) (S_L_law_2598 hX  hr28 _ _ _ h)
set_option maxRecDepth 100000 in
theorem S_L_law_325 {X : q_X} (hX : X.1 ≤ 1000000)   {r28 : Int → zt_S → Option (Int × zt_S)} (hr28 : ∀ (v5 : Int) (σ : zt_S) (o : (Int × zt_S)), r28 v5 σ = some o → zt_Ex X 54 351 28 [(0, .ref q_big), (1, .ref 0), (2, .ref 163), (3, .ref 184), (4, .ref 185), (5, .int (Int32.ofInt v5))] [] (zt_M σ) (zo_I o)) : ∀ (v5 : Int) (σ : zt_S) (o : (Int × zt_S)), F_L_law_325 X  r28 v5 σ = some o → zt_Ex X 54 351 325 [(0, .ref q_big), (1, .ref 0), (2, .ref 163), (3, .ref 184), (4, .ref 185), (5, .int (Int32.ofInt v5))] [] (zt_M σ) (zo_I o) := by
  intro v5 σ o  h
  unfold F_L_law_325 at h
  refine zt_aload_n zy_351 (show q_ins q_k351 325 = some (.aload_n 1, 0, 0) from rfl) (v := 0) rfl ?_
  refine zt_aload_n zy_351 (show q_ins q_k351 326 = some (.aload_n 0, 0, 0) from rfl) (v := q_big) rfl ?_
  refine zt_iload zy_351 (show q_ins q_k351 327 = some (.iload 5, 0, 0) from rfl) (v := Int32.ofInt v5) rfl ?_
  refine zt_iconst zy_351 (show q_ins q_k351 329 = some (.iconst 1, 0, 0) from rfl) ?_
  refine zt_iadd zy_351 (show q_ins q_k351 330 = some (.iadd, 0, 0) from rfl) ?_
  obtain ⟨hg, h⟩ := zt_ckE h
  refine zt_sld zy_351 (show q_ins q_k351 331 = some (.iaload, 0, 0) from rfl) hg hX ?_
  refine zt_aload_n zy_351 (show q_ins q_k351 332 = some (.aload_n 3, 0, 0) from rfl) (v := 184) rfl ?_
  obtain ⟨a5, s6, hca5, h⟩ := zt_bdE h
  refine zt_callS (d := 53) zy_351 (show q_ins q_k351 333 = some (.invokestatic 130, 317, 3) from rfl) zy_317 (by decide) ⟨zq_lt (by decide), by decide⟩ rfl (by simp [Value.category]) (by simp [lg_sl, Value.category]) rfl (zt_dm (by decide) (S_L_load hca5)) ?_
  refine zt_istore zy_351 (show q_ins q_k351 336 = some (.istore 6, 0, 0) from rfl) (by decide) ?_
  refine zt_aload_n zy_351 (show q_ins q_k351 338 = some (.aload_n 2, 0, 0) from rfl) (v := 163) rfl ?_
  refine zt_aload_n zy_351 (show q_ins q_k351 339 = some (.aload_n 0, 0, 0) from rfl) (v := q_big) rfl ?_
  refine zt_iload zy_351 (show q_ins q_k351 340 = some (.iload 5, 0, 0) from rfl) (v := Int32.ofInt v5) rfl ?_
  refine zt_iconst zy_351 (show q_ins q_k351 342 = some (.iconst 1, 0, 0) from rfl) ?_
  refine zt_iadd zy_351 (show q_ins q_k351 343 = some (.iadd, 0, 0) from rfl) ?_
  obtain ⟨hg, h⟩ := zt_ckE h
  refine zt_sld zy_351 (show q_ins q_k351 344 = some (.iaload, 0, 0) from rfl) hg hX ?_
  obtain ⟨a7, s8, hca7, h⟩ := zt_bdE h
  refine zt_callV (d := 53) zy_351 (show q_ins q_k351 345 = some (.invokevirtual 135, 206, 1) from rfl) zy_206 (by decide) ⟨zq_lt (by decide), by decide⟩ rfl (by simp [Value.category]) (by simp [lg_sl, Value.category]) (zt_rcv zc_163) (zt_dm (by decide) (S_M_load hca7)) ?_
  refine zt_istore zy_351 (show q_ins q_k351 348 = some (.istore 7, 0, 0) from rfl) (by decide) ?_
  refine zt_aload_n zy_351 (show q_ins q_k351 350 = some (.aload_n 2, 0, 0) from rfl) (v := 163) rfl ?_
  obtain ⟨a9, s10, hca9, h⟩ := zt_bdE h
  refine zt_callV (d := 53) zy_351 (show q_ins q_k351 351 = some (.invokevirtual 136, 170, 0) from rfl) zy_170 (by decide) ⟨zq_lt (by decide), by decide⟩ rfl (by simp [Value.category]) (by simp [lg_sl, Value.category]) (zt_rcv zc_163) (zt_dm (by decide) (S_M_thrown hca9)) ?_
  refine zt_iload zy_351 (show q_ins q_k351 354 = some (.iload 6, 0, 0) from rfl) (v := Int32.ofInt a5) rfl ?_
  obtain ⟨hg, h⟩ := zt_ckE h
  refine zt_icmp_eq zy_351 (show q_ins q_k351 356 = some (.if_icmp .eq 5, 361, 0) from rfl) (⟨hg.1, hg.2⟩) (fun hc => ?_) (fun hc => ?_)
  · rw [if_pos hc] at h
    refine zt_iload zy_351 (show q_ins q_k351 361 = some (.iload 6, 0, 0) from rfl) (v := Int32.ofInt a5) rfl ?_
    obtain ⟨hg, h⟩ := zt_ckE h
    refine zt_if_ne zy_351 (show q_ins q_k351 363 = some (.ifCond .ne 15, 378, 0) from rfl) (hg) (fun hc => ?_) (fun hc => ?_)
    · rw [if_pos hc] at h
      refine zt_aload_n zy_351 (show q_ins q_k351 366 = some (.aload_n 3, 0, 0) from rfl) (v := 184) rfl ?_
      refine zt_iconst zy_351 (show q_ins q_k351 367 = some (.iconst 0, 0, 0) from rfl) ?_
      refine zt_lld zy_351 (show q_ins q_k351 368 = some (.laload, 0, 0) from rfl) za_184 (by decide) (by decide) ?_
      refine zt_iload zy_351 (show q_ins q_k351 369 = some (.iload 7, 0, 0) from rfl) (v := Int32.ofInt a7) rfl ?_
      refine zt_i2l zy_351 (show q_ins q_k351 371 = some (.i2l, 0, 0) from rfl) ?_
      refine zt_lcmp zy_351 (show q_ins q_k351 372 = some (.lcmp, 0, 0) from rfl) ?_
      refine zt_if_eq zy_351 (show q_ins q_k351 373 = some (.ifCond .eq 5, 378, 0) from rfl) (zt_inT _) (fun hc => ?_) (fun hc => ?_)
      · rw [if_pos hc] at h
        exact zt_wk (zt_cov_cons rfl (zt_cov_cons rfl (zt_cov_cons rfl (zt_cov_cons rfl (zt_cov_cons rfl (zt_cov_cons rfl (zt_cov_nil))))))) (S_L_law_378 hX  hr28 _ _ _ h)
      · rw [if_neg hc] at h
        refine zt_iconst zy_351 (show q_ins q_k351 376 = some (.iconst 0, 0, 0) from rfl) ?_
        cases h
        exact zt_zret zy_351 (show q_ins q_k351 377 = some (.ireturn, 0, 0) from rfl) (by decide)
    · rw [if_neg hc] at h
      exact zt_wk (zt_cov_cons rfl (zt_cov_cons rfl (zt_cov_cons rfl (zt_cov_cons rfl (zt_cov_cons rfl (zt_cov_cons rfl (zt_cov_nil))))))) (S_L_law_378 hX  hr28 _ _ _ h)
  · rw [if_neg hc] at h
    refine zt_iconst zy_351 (show q_ins q_k351 359 = some (.iconst 0, 0, 0) from rfl) ?_
    cases h
    exact zt_zret zy_351 (show q_ins q_k351 360 = some (.ireturn, 0, 0) from rfl) (by decide)
set_option maxRecDepth 100000 in
theorem S_L_law_381 {X : q_X} (hX : X.1 ≤ 1000000)   {r28 : Int → zt_S → Option (Int × zt_S)} (hr28 : ∀ (v5 : Int) (σ : zt_S) (o : (Int × zt_S)), r28 v5 σ = some o → zt_Ex X 54 351 28 [(0, .ref q_big), (1, .ref 0), (2, .ref 163), (3, .ref 184), (4, .ref 185), (5, .int (Int32.ofInt v5))] [] (zt_M σ) (zo_I o)) : ∀ (v5 : Int) (σ : zt_S) (o : (Int × zt_S)), F_L_law_381 X  r28 v5 σ = some o → zt_Ex X 54 351 381 [(0, .ref q_big), (1, .ref 0), (2, .ref 163), (3, .ref 184), (4, .ref 185), (5, .int (Int32.ofInt v5))] [] (zt_M σ) (zo_I o) := by
  intro v5 σ o  h
  unfold F_L_law_381 at h
  refine zt_aload_n zy_351 (show q_ins q_k351 381 = some (.aload_n 1, 0, 0) from rfl) (v := 0) rfl ?_
  obtain ⟨a11, s12, hca11, h⟩ := zt_bdE h
  refine zt_callV (d := 53) zy_351 (show q_ins q_k351 382 = some (.invokevirtual 140, 120, 0) from rfl) zy_120 (by decide) ⟨zq_lt (by decide), by decide⟩ rfl (by simp [Value.category]) (by simp [lg_sl, Value.category]) (zt_rcv zc_0) (zt_dm (by decide) (S_C_errorPosition hca11)) ?_
  refine zt_aload_n zy_351 (show q_ins q_k351 385 = some (.aload_n 2, 0, 0) from rfl) (v := 163) rfl ?_
  obtain ⟨a13, s14, hca13, h⟩ := zt_bdE h
  refine zt_callV (d := 53) zy_351 (show q_ins q_k351 386 = some (.invokevirtual 143, 184, 0) from rfl) zy_184 (by decide) ⟨zq_lt (by decide), by decide⟩ rfl (by simp [Value.category]) (by simp [lg_sl, Value.category]) (zt_rcv zc_163) (zt_dm (by decide) (S_M_errorPosition hca13)) ?_
  obtain ⟨hg, h⟩ := zt_ckE h
  refine zt_icmp_eq zy_351 (show q_ins q_k351 389 = some (.if_icmp .eq 2209, 2598, 0) from rfl) (⟨hg.1, hg.2⟩) (fun hc => ?_) (fun hc => ?_)
  · rw [if_pos hc] at h
    exact zt_wk (zt_cov_cons rfl (zt_cov_cons rfl (zt_cov_cons rfl (zt_cov_cons rfl (zt_cov_cons rfl (zt_cov_cons rfl (zt_cov_nil))))))) (S_L_law_2598 hX  hr28 _ _ _ h)
  · rw [if_neg hc] at h
    refine zt_iconst zy_351 (show q_ins q_k351 392 = some (.iconst 0, 0, 0) from rfl) ?_
    cases h
    exact zt_zret zy_351 (show q_ins q_k351 393 = some (.ireturn, 0, 0) from rfl) (by decide)
set_option maxRecDepth 100000 in
theorem S_L_law_447 {X : q_X} (hX : X.1 ≤ 1000000)   {r28 : Int → zt_S → Option (Int × zt_S)} (hr28 : ∀ (v5 : Int) (σ : zt_S) (o : (Int × zt_S)), r28 v5 σ = some o → zt_Ex X 54 351 28 [(0, .ref q_big), (1, .ref 0), (2, .ref 163), (3, .ref 184), (4, .ref 185), (5, .int (Int32.ofInt v5))] [] (zt_M σ) (zo_I o)) : ∀ (v5 : Int) (σ : zt_S) (o : (Int × zt_S)), F_L_law_447 X  r28 v5 σ = some o → zt_Ex X 54 351 447 [(0, .ref q_big), (1, .ref 0), (2, .ref 163), (3, .ref 184), (4, .ref 185), (5, .int (Int32.ofInt v5))] [] (zt_M σ) (zo_I o) := by
  intro v5 σ o  h
  unfold F_L_law_447 at h
  refine zt_goto zy_351 (show q_ins q_k351 447 = some (.goto 2151, 2598, 0) from rfl) ?_
  exact zt_wk (zt_cov_cons rfl (zt_cov_cons rfl (zt_cov_cons rfl (zt_cov_cons rfl (zt_cov_cons rfl (zt_cov_cons rfl (zt_cov_nil))))))) (S_L_law_2598 hX  hr28 _ _ _ h)
set_option maxRecDepth 100000 in
theorem S_L_law_394 {X : q_X} (hX : X.1 ≤ 1000000)   {r28 : Int → zt_S → Option (Int × zt_S)} (hr28 : ∀ (v5 : Int) (σ : zt_S) (o : (Int × zt_S)), r28 v5 σ = some o → zt_Ex X 54 351 28 [(0, .ref q_big), (1, .ref 0), (2, .ref 163), (3, .ref 184), (4, .ref 185), (5, .int (Int32.ofInt v5))] [] (zt_M σ) (zo_I o)) : ∀ (v5 : Int) (σ : zt_S) (o : (Int × zt_S)), F_L_law_394 X  r28 v5 σ = some o → zt_Ex X 54 351 394 [(0, .ref q_big), (1, .ref 0), (2, .ref 163), (3, .ref 184), (4, .ref 185), (5, .int (Int32.ofInt v5))] [] (zt_M σ) (zo_I o) := by
  intro v5 σ o  h
  unfold F_L_law_394 at h
  refine zt_aload_n zy_351 (show q_ins q_k351 394 = some (.aload_n 1, 0, 0) from rfl) (v := 0) rfl ?_
  refine zt_aload_n zy_351 (show q_ins q_k351 395 = some (.aload_n 0, 0, 0) from rfl) (v := q_big) rfl ?_
  refine zt_iload zy_351 (show q_ins q_k351 396 = some (.iload 5, 0, 0) from rfl) (v := Int32.ofInt v5) rfl ?_
  refine zt_iconst zy_351 (show q_ins q_k351 398 = some (.iconst 1, 0, 0) from rfl) ?_
  refine zt_iadd zy_351 (show q_ins q_k351 399 = some (.iadd, 0, 0) from rfl) ?_
  obtain ⟨hg, h⟩ := zt_ckE h
  refine zt_sld zy_351 (show q_ins q_k351 400 = some (.iaload, 0, 0) from rfl) hg hX ?_
  refine zt_aload_n zy_351 (show q_ins q_k351 401 = some (.aload_n 3, 0, 0) from rfl) (v := 184) rfl ?_
  obtain ⟨a15, s16, hca15, h⟩ := zt_bdE h
  refine zt_callS (d := 53) zy_351 (show q_ins q_k351 402 = some (.invokestatic 144, 318, 3) from rfl) zy_318 (by decide) ⟨zq_lt (by decide), by decide⟩ rfl (by simp [Value.category]) (by simp [lg_sl, Value.category]) rfl (zt_dm (by decide) (S_L_size hca15)) ?_
  refine zt_istore zy_351 (show q_ins q_k351 405 = some (.istore 6, 0, 0) from rfl) (by decide) ?_
  refine zt_aload_n zy_351 (show q_ins q_k351 407 = some (.aload_n 2, 0, 0) from rfl) (v := 163) rfl ?_
  refine zt_aload_n zy_351 (show q_ins q_k351 408 = some (.aload_n 0, 0, 0) from rfl) (v := q_big) rfl ?_
  refine zt_iload zy_351 (show q_ins q_k351 409 = some (.iload 5, 0, 0) from rfl) (v := Int32.ofInt v5) rfl ?_
  refine zt_iconst zy_351 (show q_ins q_k351 411 = some (.iconst 1, 0, 0) from rfl) ?_
  refine zt_iadd zy_351 (show q_ins q_k351 412 = some (.iadd, 0, 0) from rfl) ?_
  obtain ⟨hg, h⟩ := zt_ckE h
  refine zt_sld zy_351 (show q_ins q_k351 413 = some (.iaload, 0, 0) from rfl) hg hX ?_
  obtain ⟨a17, s18, hca17, h⟩ := zt_bdE h
  refine zt_callV (d := 53) zy_351 (show q_ins q_k351 414 = some (.invokevirtual 146, 232, 1) from rfl) zy_232 (by decide) ⟨zq_lt (by decide), by decide⟩ rfl (by simp [Value.category]) (by simp [lg_sl, Value.category]) (zt_rcv zc_163) (zt_dm (by decide) (S_M_size hca17)) ?_
  refine zt_istore zy_351 (show q_ins q_k351 417 = some (.istore 7, 0, 0) from rfl) (by decide) ?_
  refine zt_aload_n zy_351 (show q_ins q_k351 419 = some (.aload_n 2, 0, 0) from rfl) (v := 163) rfl ?_
  obtain ⟨a19, s20, hca19, h⟩ := zt_bdE h
  refine zt_callV (d := 53) zy_351 (show q_ins q_k351 420 = some (.invokevirtual 136, 170, 0) from rfl) zy_170 (by decide) ⟨zq_lt (by decide), by decide⟩ rfl (by simp [Value.category]) (by simp [lg_sl, Value.category]) (zt_rcv zc_163) (zt_dm (by decide) (S_M_thrown hca19)) ?_
  refine zt_iload zy_351 (show q_ins q_k351 423 = some (.iload 6, 0, 0) from rfl) (v := Int32.ofInt a15) rfl ?_
  obtain ⟨hg, h⟩ := zt_ckE h
  refine zt_icmp_eq zy_351 (show q_ins q_k351 425 = some (.if_icmp .eq 5, 430, 0) from rfl) (⟨hg.1, hg.2⟩) (fun hc => ?_) (fun hc => ?_)
  · rw [if_pos hc] at h
    refine zt_iload zy_351 (show q_ins q_k351 430 = some (.iload 6, 0, 0) from rfl) (v := Int32.ofInt a15) rfl ?_
    obtain ⟨hg, h⟩ := zt_ckE h
    refine zt_if_ne zy_351 (show q_ins q_k351 432 = some (.ifCond .ne 15, 447, 0) from rfl) (hg) (fun hc => ?_) (fun hc => ?_)
    · rw [if_pos hc] at h
      refine zt_aload_n zy_351 (show q_ins q_k351 435 = some (.aload_n 3, 0, 0) from rfl) (v := 184) rfl ?_
      refine zt_iconst zy_351 (show q_ins q_k351 436 = some (.iconst 0, 0, 0) from rfl) ?_
      refine zt_lld zy_351 (show q_ins q_k351 437 = some (.laload, 0, 0) from rfl) za_184 (by decide) (by decide) ?_
      refine zt_iload zy_351 (show q_ins q_k351 438 = some (.iload 7, 0, 0) from rfl) (v := Int32.ofInt a17) rfl ?_
      refine zt_i2l zy_351 (show q_ins q_k351 440 = some (.i2l, 0, 0) from rfl) ?_
      refine zt_lcmp zy_351 (show q_ins q_k351 441 = some (.lcmp, 0, 0) from rfl) ?_
      refine zt_if_eq zy_351 (show q_ins q_k351 442 = some (.ifCond .eq 5, 447, 0) from rfl) (zt_inT _) (fun hc => ?_) (fun hc => ?_)
      · rw [if_pos hc] at h
        exact zt_wk (zt_cov_cons rfl (zt_cov_cons rfl (zt_cov_cons rfl (zt_cov_cons rfl (zt_cov_cons rfl (zt_cov_cons rfl (zt_cov_nil))))))) (S_L_law_447 hX  hr28 _ _ _ h)
      · rw [if_neg hc] at h
        refine zt_iconst zy_351 (show q_ins q_k351 445 = some (.iconst 0, 0, 0) from rfl) ?_
        cases h
        exact zt_zret zy_351 (show q_ins q_k351 446 = some (.ireturn, 0, 0) from rfl) (by decide)
    · rw [if_neg hc] at h
      exact zt_wk (zt_cov_cons rfl (zt_cov_cons rfl (zt_cov_cons rfl (zt_cov_cons rfl (zt_cov_cons rfl (zt_cov_cons rfl (zt_cov_nil))))))) (S_L_law_447 hX  hr28 _ _ _ h)
  · rw [if_neg hc] at h
    refine zt_iconst zy_351 (show q_ins q_k351 428 = some (.iconst 0, 0, 0) from rfl) ?_
    cases h
    exact zt_zret zy_351 (show q_ins q_k351 429 = some (.ireturn, 0, 0) from rfl) (by decide)
set_option maxRecDepth 100000 in
theorem S_L_law_503 {X : q_X} (hX : X.1 ≤ 1000000)   {r28 : Int → zt_S → Option (Int × zt_S)} (hr28 : ∀ (v5 : Int) (σ : zt_S) (o : (Int × zt_S)), r28 v5 σ = some o → zt_Ex X 54 351 28 [(0, .ref q_big), (1, .ref 0), (2, .ref 163), (3, .ref 184), (4, .ref 185), (5, .int (Int32.ofInt v5))] [] (zt_M σ) (zo_I o)) : ∀ (v5 : Int) (σ : zt_S) (o : (Int × zt_S)), F_L_law_503 X  r28 v5 σ = some o → zt_Ex X 54 351 503 [(0, .ref q_big), (1, .ref 0), (2, .ref 163), (3, .ref 184), (4, .ref 185), (5, .int (Int32.ofInt v5))] [] (zt_M σ) (zo_I o) := by
  intro v5 σ o  h
  unfold F_L_law_503 at h
  refine zt_goto zy_351 (show q_ins q_k351 503 = some (.goto 2095, 2598, 0) from rfl) ?_
  exact zt_wk (zt_cov_cons rfl (zt_cov_cons rfl (zt_cov_cons rfl (zt_cov_cons rfl (zt_cov_cons rfl (zt_cov_cons rfl (zt_cov_nil))))))) (S_L_law_2598 hX  hr28 _ _ _ h)
set_option maxRecDepth 100000 in
theorem S_L_law_450 {X : q_X} (hX : X.1 ≤ 1000000)   {r28 : Int → zt_S → Option (Int × zt_S)} (hr28 : ∀ (v5 : Int) (σ : zt_S) (o : (Int × zt_S)), r28 v5 σ = some o → zt_Ex X 54 351 28 [(0, .ref q_big), (1, .ref 0), (2, .ref 163), (3, .ref 184), (4, .ref 185), (5, .int (Int32.ofInt v5))] [] (zt_M σ) (zo_I o)) : ∀ (v5 : Int) (σ : zt_S) (o : (Int × zt_S)), F_L_law_450 X  r28 v5 σ = some o → zt_Ex X 54 351 450 [(0, .ref q_big), (1, .ref 0), (2, .ref 163), (3, .ref 184), (4, .ref 185), (5, .int (Int32.ofInt v5))] [] (zt_M σ) (zo_I o) := by
  intro v5 σ o  h
  unfold F_L_law_450 at h
  refine zt_aload_n zy_351 (show q_ins q_k351 450 = some (.aload_n 1, 0, 0) from rfl) (v := 0) rfl ?_
  refine zt_aload_n zy_351 (show q_ins q_k351 451 = some (.aload_n 0, 0, 0) from rfl) (v := q_big) rfl ?_
  refine zt_iload zy_351 (show q_ins q_k351 452 = some (.iload 5, 0, 0) from rfl) (v := Int32.ofInt v5) rfl ?_
  refine zt_iconst zy_351 (show q_ins q_k351 454 = some (.iconst 1, 0, 0) from rfl) ?_
  refine zt_iadd zy_351 (show q_ins q_k351 455 = some (.iadd, 0, 0) from rfl) ?_
  obtain ⟨hg, h⟩ := zt_ckE h
  refine zt_sld zy_351 (show q_ins q_k351 456 = some (.iaload, 0, 0) from rfl) hg hX ?_
  refine zt_aload_n zy_351 (show q_ins q_k351 457 = some (.aload_n 3, 0, 0) from rfl) (v := 184) rfl ?_
  obtain ⟨a21, s22, hca21, h⟩ := zt_bdE h
  refine zt_callS (d := 53) zy_351 (show q_ins q_k351 458 = some (.invokestatic 147, 319, 3) from rfl) zy_319 (by decide) ⟨zq_lt (by decide), by decide⟩ rfl (by simp [Value.category]) (by simp [lg_sl, Value.category]) rfl (zt_dm (by decide) (S_L_suit hca21)) ?_
  refine zt_istore zy_351 (show q_ins q_k351 461 = some (.istore 6, 0, 0) from rfl) (by decide) ?_
  refine zt_aload_n zy_351 (show q_ins q_k351 463 = some (.aload_n 2, 0, 0) from rfl) (v := 163) rfl ?_
  refine zt_aload_n zy_351 (show q_ins q_k351 464 = some (.aload_n 0, 0, 0) from rfl) (v := q_big) rfl ?_
  refine zt_iload zy_351 (show q_ins q_k351 465 = some (.iload 5, 0, 0) from rfl) (v := Int32.ofInt v5) rfl ?_
  refine zt_iconst zy_351 (show q_ins q_k351 467 = some (.iconst 1, 0, 0) from rfl) ?_
  refine zt_iadd zy_351 (show q_ins q_k351 468 = some (.iadd, 0, 0) from rfl) ?_
  obtain ⟨hg, h⟩ := zt_ckE h
  refine zt_sld zy_351 (show q_ins q_k351 469 = some (.iaload, 0, 0) from rfl) hg hX ?_
  obtain ⟨a23, s24, hca23, h⟩ := zt_bdE h
  refine zt_callV (d := 53) zy_351 (show q_ins q_k351 470 = some (.invokevirtual 149, 233, 1) from rfl) zy_233 (by decide) ⟨zq_lt (by decide), by decide⟩ rfl (by simp [Value.category]) (by simp [lg_sl, Value.category]) (zt_rcv zc_163) (zt_dm (by decide) (S_M_suit hca23)) ?_
  refine zt_istore zy_351 (show q_ins q_k351 473 = some (.istore 7, 0, 0) from rfl) (by decide) ?_
  refine zt_aload_n zy_351 (show q_ins q_k351 475 = some (.aload_n 2, 0, 0) from rfl) (v := 163) rfl ?_
  obtain ⟨a25, s26, hca25, h⟩ := zt_bdE h
  refine zt_callV (d := 53) zy_351 (show q_ins q_k351 476 = some (.invokevirtual 136, 170, 0) from rfl) zy_170 (by decide) ⟨zq_lt (by decide), by decide⟩ rfl (by simp [Value.category]) (by simp [lg_sl, Value.category]) (zt_rcv zc_163) (zt_dm (by decide) (S_M_thrown hca25)) ?_
  refine zt_iload zy_351 (show q_ins q_k351 479 = some (.iload 6, 0, 0) from rfl) (v := Int32.ofInt a21) rfl ?_
  obtain ⟨hg, h⟩ := zt_ckE h
  refine zt_icmp_eq zy_351 (show q_ins q_k351 481 = some (.if_icmp .eq 5, 486, 0) from rfl) (⟨hg.1, hg.2⟩) (fun hc => ?_) (fun hc => ?_)
  · rw [if_pos hc] at h
    refine zt_iload zy_351 (show q_ins q_k351 486 = some (.iload 6, 0, 0) from rfl) (v := Int32.ofInt a21) rfl ?_
    obtain ⟨hg, h⟩ := zt_ckE h
    refine zt_if_ne zy_351 (show q_ins q_k351 488 = some (.ifCond .ne 15, 503, 0) from rfl) (hg) (fun hc => ?_) (fun hc => ?_)
    · rw [if_pos hc] at h
      refine zt_aload_n zy_351 (show q_ins q_k351 491 = some (.aload_n 3, 0, 0) from rfl) (v := 184) rfl ?_
      refine zt_iconst zy_351 (show q_ins q_k351 492 = some (.iconst 0, 0, 0) from rfl) ?_
      refine zt_lld zy_351 (show q_ins q_k351 493 = some (.laload, 0, 0) from rfl) za_184 (by decide) (by decide) ?_
      refine zt_iload zy_351 (show q_ins q_k351 494 = some (.iload 7, 0, 0) from rfl) (v := Int32.ofInt a23) rfl ?_
      refine zt_i2l zy_351 (show q_ins q_k351 496 = some (.i2l, 0, 0) from rfl) ?_
      refine zt_lcmp zy_351 (show q_ins q_k351 497 = some (.lcmp, 0, 0) from rfl) ?_
      refine zt_if_eq zy_351 (show q_ins q_k351 498 = some (.ifCond .eq 5, 503, 0) from rfl) (zt_inT _) (fun hc => ?_) (fun hc => ?_)
      · rw [if_pos hc] at h
        exact zt_wk (zt_cov_cons rfl (zt_cov_cons rfl (zt_cov_cons rfl (zt_cov_cons rfl (zt_cov_cons rfl (zt_cov_cons rfl (zt_cov_nil))))))) (S_L_law_503 hX  hr28 _ _ _ h)
      · rw [if_neg hc] at h
        refine zt_iconst zy_351 (show q_ins q_k351 501 = some (.iconst 0, 0, 0) from rfl) ?_
        cases h
        exact zt_zret zy_351 (show q_ins q_k351 502 = some (.ireturn, 0, 0) from rfl) (by decide)
    · rw [if_neg hc] at h
      exact zt_wk (zt_cov_cons rfl (zt_cov_cons rfl (zt_cov_cons rfl (zt_cov_cons rfl (zt_cov_cons rfl (zt_cov_cons rfl (zt_cov_nil))))))) (S_L_law_503 hX  hr28 _ _ _ h)
  · rw [if_neg hc] at h
    refine zt_iconst zy_351 (show q_ins q_k351 484 = some (.iconst 0, 0, 0) from rfl) ?_
    cases h
    exact zt_zret zy_351 (show q_ins q_k351 485 = some (.ireturn, 0, 0) from rfl) (by decide)
set_option maxRecDepth 100000 in
theorem S_L_law_559 {X : q_X} (hX : X.1 ≤ 1000000)   {r28 : Int → zt_S → Option (Int × zt_S)} (hr28 : ∀ (v5 : Int) (σ : zt_S) (o : (Int × zt_S)), r28 v5 σ = some o → zt_Ex X 54 351 28 [(0, .ref q_big), (1, .ref 0), (2, .ref 163), (3, .ref 184), (4, .ref 185), (5, .int (Int32.ofInt v5))] [] (zt_M σ) (zo_I o)) : ∀ (v5 : Int) (σ : zt_S) (o : (Int × zt_S)), F_L_law_559 X  r28 v5 σ = some o → zt_Ex X 54 351 559 [(0, .ref q_big), (1, .ref 0), (2, .ref 163), (3, .ref 184), (4, .ref 185), (5, .int (Int32.ofInt v5))] [] (zt_M σ) (zo_I o) := by
  intro v5 σ o  h
  unfold F_L_law_559 at h
  refine zt_goto zy_351 (show q_ins q_k351 559 = some (.goto 2039, 2598, 0) from rfl) ?_
  exact zt_wk (zt_cov_cons rfl (zt_cov_cons rfl (zt_cov_cons rfl (zt_cov_cons rfl (zt_cov_cons rfl (zt_cov_cons rfl (zt_cov_nil))))))) (S_L_law_2598 hX  hr28 _ _ _ h)
set_option maxRecDepth 100000 in
theorem S_L_law_506 {X : q_X} (hX : X.1 ≤ 1000000)   {r28 : Int → zt_S → Option (Int × zt_S)} (hr28 : ∀ (v5 : Int) (σ : zt_S) (o : (Int × zt_S)), r28 v5 σ = some o → zt_Ex X 54 351 28 [(0, .ref q_big), (1, .ref 0), (2, .ref 163), (3, .ref 184), (4, .ref 185), (5, .int (Int32.ofInt v5))] [] (zt_M σ) (zo_I o)) : ∀ (v5 : Int) (σ : zt_S) (o : (Int × zt_S)), F_L_law_506 X  r28 v5 σ = some o → zt_Ex X 54 351 506 [(0, .ref q_big), (1, .ref 0), (2, .ref 163), (3, .ref 184), (4, .ref 185), (5, .int (Int32.ofInt v5))] [] (zt_M σ) (zo_I o) := by
  intro v5 σ o  h
  unfold F_L_law_506 at h
  refine zt_aload_n zy_351 (show q_ins q_k351 506 = some (.aload_n 1, 0, 0) from rfl) (v := 0) rfl ?_
  refine zt_aload_n zy_351 (show q_ins q_k351 507 = some (.aload_n 0, 0, 0) from rfl) (v := q_big) rfl ?_
  refine zt_iload zy_351 (show q_ins q_k351 508 = some (.iload 5, 0, 0) from rfl) (v := Int32.ofInt v5) rfl ?_
  refine zt_iconst zy_351 (show q_ins q_k351 510 = some (.iconst 1, 0, 0) from rfl) ?_
  refine zt_iadd zy_351 (show q_ins q_k351 511 = some (.iadd, 0, 0) from rfl) ?_
  obtain ⟨hg, h⟩ := zt_ckE h
  refine zt_sld zy_351 (show q_ins q_k351 512 = some (.iaload, 0, 0) from rfl) hg hX ?_
  refine zt_aload_n zy_351 (show q_ins q_k351 513 = some (.aload_n 3, 0, 0) from rfl) (v := 184) rfl ?_
  obtain ⟨a27, s28, hca27, h⟩ := zt_bdE h
  refine zt_callS (d := 53) zy_351 (show q_ins q_k351 514 = some (.invokestatic 150, 320, 3) from rfl) zy_320 (by decide) ⟨zq_lt (by decide), by decide⟩ rfl (by simp [Value.category]) (by simp [lg_sl, Value.category]) rfl (zt_dm (by decide) (S_L_rank hca27)) ?_
  refine zt_istore zy_351 (show q_ins q_k351 517 = some (.istore 6, 0, 0) from rfl) (by decide) ?_
  refine zt_aload_n zy_351 (show q_ins q_k351 519 = some (.aload_n 2, 0, 0) from rfl) (v := 163) rfl ?_
  refine zt_aload_n zy_351 (show q_ins q_k351 520 = some (.aload_n 0, 0, 0) from rfl) (v := q_big) rfl ?_
  refine zt_iload zy_351 (show q_ins q_k351 521 = some (.iload 5, 0, 0) from rfl) (v := Int32.ofInt v5) rfl ?_
  refine zt_iconst zy_351 (show q_ins q_k351 523 = some (.iconst 1, 0, 0) from rfl) ?_
  refine zt_iadd zy_351 (show q_ins q_k351 524 = some (.iadd, 0, 0) from rfl) ?_
  obtain ⟨hg, h⟩ := zt_ckE h
  refine zt_sld zy_351 (show q_ins q_k351 525 = some (.iaload, 0, 0) from rfl) hg hX ?_
  obtain ⟨a29, s30, hca29, h⟩ := zt_bdE h
  refine zt_callV (d := 53) zy_351 (show q_ins q_k351 526 = some (.invokevirtual 152, 234, 1) from rfl) zy_234 (by decide) ⟨zq_lt (by decide), by decide⟩ rfl (by simp [Value.category]) (by simp [lg_sl, Value.category]) (zt_rcv zc_163) (zt_dm (by decide) (S_M_rank hca29)) ?_
  refine zt_istore zy_351 (show q_ins q_k351 529 = some (.istore 7, 0, 0) from rfl) (by decide) ?_
  refine zt_aload_n zy_351 (show q_ins q_k351 531 = some (.aload_n 2, 0, 0) from rfl) (v := 163) rfl ?_
  obtain ⟨a31, s32, hca31, h⟩ := zt_bdE h
  refine zt_callV (d := 53) zy_351 (show q_ins q_k351 532 = some (.invokevirtual 136, 170, 0) from rfl) zy_170 (by decide) ⟨zq_lt (by decide), by decide⟩ rfl (by simp [Value.category]) (by simp [lg_sl, Value.category]) (zt_rcv zc_163) (zt_dm (by decide) (S_M_thrown hca31)) ?_
  refine zt_iload zy_351 (show q_ins q_k351 535 = some (.iload 6, 0, 0) from rfl) (v := Int32.ofInt a27) rfl ?_
  obtain ⟨hg, h⟩ := zt_ckE h
  refine zt_icmp_eq zy_351 (show q_ins q_k351 537 = some (.if_icmp .eq 5, 542, 0) from rfl) (⟨hg.1, hg.2⟩) (fun hc => ?_) (fun hc => ?_)
  · rw [if_pos hc] at h
    refine zt_iload zy_351 (show q_ins q_k351 542 = some (.iload 6, 0, 0) from rfl) (v := Int32.ofInt a27) rfl ?_
    obtain ⟨hg, h⟩ := zt_ckE h
    refine zt_if_ne zy_351 (show q_ins q_k351 544 = some (.ifCond .ne 15, 559, 0) from rfl) (hg) (fun hc => ?_) (fun hc => ?_)
    · rw [if_pos hc] at h
      refine zt_aload_n zy_351 (show q_ins q_k351 547 = some (.aload_n 3, 0, 0) from rfl) (v := 184) rfl ?_
      refine zt_iconst zy_351 (show q_ins q_k351 548 = some (.iconst 0, 0, 0) from rfl) ?_
      refine zt_lld zy_351 (show q_ins q_k351 549 = some (.laload, 0, 0) from rfl) za_184 (by decide) (by decide) ?_
      refine zt_iload zy_351 (show q_ins q_k351 550 = some (.iload 7, 0, 0) from rfl) (v := Int32.ofInt a29) rfl ?_
      refine zt_i2l zy_351 (show q_ins q_k351 552 = some (.i2l, 0, 0) from rfl) ?_
      refine zt_lcmp zy_351 (show q_ins q_k351 553 = some (.lcmp, 0, 0) from rfl) ?_
      refine zt_if_eq zy_351 (show q_ins q_k351 554 = some (.ifCond .eq 5, 559, 0) from rfl) (zt_inT _) (fun hc => ?_) (fun hc => ?_)
      · rw [if_pos hc] at h
        exact zt_wk (zt_cov_cons rfl (zt_cov_cons rfl (zt_cov_cons rfl (zt_cov_cons rfl (zt_cov_cons rfl (zt_cov_cons rfl (zt_cov_nil))))))) (S_L_law_559 hX  hr28 _ _ _ h)
      · rw [if_neg hc] at h
        refine zt_iconst zy_351 (show q_ins q_k351 557 = some (.iconst 0, 0, 0) from rfl) ?_
        cases h
        exact zt_zret zy_351 (show q_ins q_k351 558 = some (.ireturn, 0, 0) from rfl) (by decide)
    · rw [if_neg hc] at h
      exact zt_wk (zt_cov_cons rfl (zt_cov_cons rfl (zt_cov_cons rfl (zt_cov_cons rfl (zt_cov_cons rfl (zt_cov_cons rfl (zt_cov_nil))))))) (S_L_law_559 hX  hr28 _ _ _ h)
  · rw [if_neg hc] at h
    refine zt_iconst zy_351 (show q_ins q_k351 540 = some (.iconst 0, 0, 0) from rfl) ?_
    cases h
    exact zt_zret zy_351 (show q_ins q_k351 541 = some (.ireturn, 0, 0) from rfl) (by decide)
set_option maxRecDepth 100000 in
theorem S_L_law_615 {X : q_X} (hX : X.1 ≤ 1000000)   {r28 : Int → zt_S → Option (Int × zt_S)} (hr28 : ∀ (v5 : Int) (σ : zt_S) (o : (Int × zt_S)), r28 v5 σ = some o → zt_Ex X 54 351 28 [(0, .ref q_big), (1, .ref 0), (2, .ref 163), (3, .ref 184), (4, .ref 185), (5, .int (Int32.ofInt v5))] [] (zt_M σ) (zo_I o)) : ∀ (v5 : Int) (σ : zt_S) (o : (Int × zt_S)), F_L_law_615 X  r28 v5 σ = some o → zt_Ex X 54 351 615 [(0, .ref q_big), (1, .ref 0), (2, .ref 163), (3, .ref 184), (4, .ref 185), (5, .int (Int32.ofInt v5))] [] (zt_M σ) (zo_I o) := by
  intro v5 σ o  h
  unfold F_L_law_615 at h
  refine zt_goto zy_351 (show q_ins q_k351 615 = some (.goto 1983, 2598, 0) from rfl) ?_
  exact zt_wk (zt_cov_cons rfl (zt_cov_cons rfl (zt_cov_cons rfl (zt_cov_cons rfl (zt_cov_cons rfl (zt_cov_cons rfl (zt_cov_nil))))))) (S_L_law_2598 hX  hr28 _ _ _ h)
set_option maxRecDepth 100000 in
theorem S_L_law_562 {X : q_X} (hX : X.1 ≤ 1000000)   {r28 : Int → zt_S → Option (Int × zt_S)} (hr28 : ∀ (v5 : Int) (σ : zt_S) (o : (Int × zt_S)), r28 v5 σ = some o → zt_Ex X 54 351 28 [(0, .ref q_big), (1, .ref 0), (2, .ref 163), (3, .ref 184), (4, .ref 185), (5, .int (Int32.ofInt v5))] [] (zt_M σ) (zo_I o)) : ∀ (v5 : Int) (σ : zt_S) (o : (Int × zt_S)), F_L_law_562 X  r28 v5 σ = some o → zt_Ex X 54 351 562 [(0, .ref q_big), (1, .ref 0), (2, .ref 163), (3, .ref 184), (4, .ref 185), (5, .int (Int32.ofInt v5))] [] (zt_M σ) (zo_I o) := by
  intro v5 σ o  h
  unfold F_L_law_562 at h
  refine zt_aload_n zy_351 (show q_ins q_k351 562 = some (.aload_n 1, 0, 0) from rfl) (v := 0) rfl ?_
  refine zt_aload_n zy_351 (show q_ins q_k351 563 = some (.aload_n 0, 0, 0) from rfl) (v := q_big) rfl ?_
  refine zt_iload zy_351 (show q_ins q_k351 564 = some (.iload 5, 0, 0) from rfl) (v := Int32.ofInt v5) rfl ?_
  refine zt_iconst zy_351 (show q_ins q_k351 566 = some (.iconst 1, 0, 0) from rfl) ?_
  refine zt_iadd zy_351 (show q_ins q_k351 567 = some (.iadd, 0, 0) from rfl) ?_
  obtain ⟨hg, h⟩ := zt_ckE h
  refine zt_sld zy_351 (show q_ins q_k351 568 = some (.iaload, 0, 0) from rfl) hg hX ?_
  refine zt_aload_n zy_351 (show q_ins q_k351 569 = some (.aload_n 3, 0, 0) from rfl) (v := 184) rfl ?_
  obtain ⟨a33, s34, hca33, h⟩ := zt_bdE h
  refine zt_callS (d := 53) zy_351 (show q_ins q_k351 570 = some (.invokestatic 153, 321, 3) from rfl) zy_321 (by decide) ⟨zq_lt (by decide), by decide⟩ rfl (by simp [Value.category]) (by simp [lg_sl, Value.category]) rfl (zt_dm (by decide) (S_L_holder hca33)) ?_
  refine zt_istore zy_351 (show q_ins q_k351 573 = some (.istore 6, 0, 0) from rfl) (by decide) ?_
  refine zt_aload_n zy_351 (show q_ins q_k351 575 = some (.aload_n 2, 0, 0) from rfl) (v := 163) rfl ?_
  refine zt_aload_n zy_351 (show q_ins q_k351 576 = some (.aload_n 0, 0, 0) from rfl) (v := q_big) rfl ?_
  refine zt_iload zy_351 (show q_ins q_k351 577 = some (.iload 5, 0, 0) from rfl) (v := Int32.ofInt v5) rfl ?_
  refine zt_iconst zy_351 (show q_ins q_k351 579 = some (.iconst 1, 0, 0) from rfl) ?_
  refine zt_iadd zy_351 (show q_ins q_k351 580 = some (.iadd, 0, 0) from rfl) ?_
  obtain ⟨hg, h⟩ := zt_ckE h
  refine zt_sld zy_351 (show q_ins q_k351 581 = some (.iaload, 0, 0) from rfl) hg hX ?_
  obtain ⟨a35, s36, hca35, h⟩ := zt_bdE h
  refine zt_callV (d := 53) zy_351 (show q_ins q_k351 582 = some (.invokevirtual 155, 235, 1) from rfl) zy_235 (by decide) ⟨zq_lt (by decide), by decide⟩ rfl (by simp [Value.category]) (by simp [lg_sl, Value.category]) (zt_rcv zc_163) (zt_dm (by decide) (S_M_holder hca35)) ?_
  refine zt_istore zy_351 (show q_ins q_k351 585 = some (.istore 7, 0, 0) from rfl) (by decide) ?_
  refine zt_aload_n zy_351 (show q_ins q_k351 587 = some (.aload_n 2, 0, 0) from rfl) (v := 163) rfl ?_
  obtain ⟨a37, s38, hca37, h⟩ := zt_bdE h
  refine zt_callV (d := 53) zy_351 (show q_ins q_k351 588 = some (.invokevirtual 136, 170, 0) from rfl) zy_170 (by decide) ⟨zq_lt (by decide), by decide⟩ rfl (by simp [Value.category]) (by simp [lg_sl, Value.category]) (zt_rcv zc_163) (zt_dm (by decide) (S_M_thrown hca37)) ?_
  refine zt_iload zy_351 (show q_ins q_k351 591 = some (.iload 6, 0, 0) from rfl) (v := Int32.ofInt a33) rfl ?_
  obtain ⟨hg, h⟩ := zt_ckE h
  refine zt_icmp_eq zy_351 (show q_ins q_k351 593 = some (.if_icmp .eq 5, 598, 0) from rfl) (⟨hg.1, hg.2⟩) (fun hc => ?_) (fun hc => ?_)
  · rw [if_pos hc] at h
    refine zt_iload zy_351 (show q_ins q_k351 598 = some (.iload 6, 0, 0) from rfl) (v := Int32.ofInt a33) rfl ?_
    obtain ⟨hg, h⟩ := zt_ckE h
    refine zt_if_ne zy_351 (show q_ins q_k351 600 = some (.ifCond .ne 15, 615, 0) from rfl) (hg) (fun hc => ?_) (fun hc => ?_)
    · rw [if_pos hc] at h
      refine zt_aload_n zy_351 (show q_ins q_k351 603 = some (.aload_n 3, 0, 0) from rfl) (v := 184) rfl ?_
      refine zt_iconst zy_351 (show q_ins q_k351 604 = some (.iconst 0, 0, 0) from rfl) ?_
      refine zt_lld zy_351 (show q_ins q_k351 605 = some (.laload, 0, 0) from rfl) za_184 (by decide) (by decide) ?_
      refine zt_iload zy_351 (show q_ins q_k351 606 = some (.iload 7, 0, 0) from rfl) (v := Int32.ofInt a35) rfl ?_
      refine zt_i2l zy_351 (show q_ins q_k351 608 = some (.i2l, 0, 0) from rfl) ?_
      refine zt_lcmp zy_351 (show q_ins q_k351 609 = some (.lcmp, 0, 0) from rfl) ?_
      refine zt_if_eq zy_351 (show q_ins q_k351 610 = some (.ifCond .eq 5, 615, 0) from rfl) (zt_inT _) (fun hc => ?_) (fun hc => ?_)
      · rw [if_pos hc] at h
        exact zt_wk (zt_cov_cons rfl (zt_cov_cons rfl (zt_cov_cons rfl (zt_cov_cons rfl (zt_cov_cons rfl (zt_cov_cons rfl (zt_cov_nil))))))) (S_L_law_615 hX  hr28 _ _ _ h)
      · rw [if_neg hc] at h
        refine zt_iconst zy_351 (show q_ins q_k351 613 = some (.iconst 0, 0, 0) from rfl) ?_
        cases h
        exact zt_zret zy_351 (show q_ins q_k351 614 = some (.ireturn, 0, 0) from rfl) (by decide)
    · rw [if_neg hc] at h
      exact zt_wk (zt_cov_cons rfl (zt_cov_cons rfl (zt_cov_cons rfl (zt_cov_cons rfl (zt_cov_cons rfl (zt_cov_cons rfl (zt_cov_nil))))))) (S_L_law_615 hX  hr28 _ _ _ h)
  · rw [if_neg hc] at h
    refine zt_iconst zy_351 (show q_ins q_k351 596 = some (.iconst 0, 0, 0) from rfl) ?_
    cases h
    exact zt_zret zy_351 (show q_ins q_k351 597 = some (.ireturn, 0, 0) from rfl) (by decide)
set_option maxRecDepth 100000 in
theorem S_L_law_671 {X : q_X} (hX : X.1 ≤ 1000000)   {r28 : Int → zt_S → Option (Int × zt_S)} (hr28 : ∀ (v5 : Int) (σ : zt_S) (o : (Int × zt_S)), r28 v5 σ = some o → zt_Ex X 54 351 28 [(0, .ref q_big), (1, .ref 0), (2, .ref 163), (3, .ref 184), (4, .ref 185), (5, .int (Int32.ofInt v5))] [] (zt_M σ) (zo_I o)) : ∀ (v5 : Int) (σ : zt_S) (o : (Int × zt_S)), F_L_law_671 X  r28 v5 σ = some o → zt_Ex X 54 351 671 [(0, .ref q_big), (1, .ref 0), (2, .ref 163), (3, .ref 184), (4, .ref 185), (5, .int (Int32.ofInt v5))] [] (zt_M σ) (zo_I o) := by
  intro v5 σ o  h
  unfold F_L_law_671 at h
  refine zt_goto zy_351 (show q_ins q_k351 671 = some (.goto 1927, 2598, 0) from rfl) ?_
  exact zt_wk (zt_cov_cons rfl (zt_cov_cons rfl (zt_cov_cons rfl (zt_cov_cons rfl (zt_cov_cons rfl (zt_cov_cons rfl (zt_cov_nil))))))) (S_L_law_2598 hX  hr28 _ _ _ h)
set_option maxRecDepth 100000 in
theorem S_L_law_618 {X : q_X} (hX : X.1 ≤ 1000000)   {r28 : Int → zt_S → Option (Int × zt_S)} (hr28 : ∀ (v5 : Int) (σ : zt_S) (o : (Int × zt_S)), r28 v5 σ = some o → zt_Ex X 54 351 28 [(0, .ref q_big), (1, .ref 0), (2, .ref 163), (3, .ref 184), (4, .ref 185), (5, .int (Int32.ofInt v5))] [] (zt_M σ) (zo_I o)) : ∀ (v5 : Int) (σ : zt_S) (o : (Int × zt_S)), F_L_law_618 X  r28 v5 σ = some o → zt_Ex X 54 351 618 [(0, .ref q_big), (1, .ref 0), (2, .ref 163), (3, .ref 184), (4, .ref 185), (5, .int (Int32.ofInt v5))] [] (zt_M σ) (zo_I o) := by
  intro v5 σ o  h
  unfold F_L_law_618 at h
  refine zt_aload_n zy_351 (show q_ins q_k351 618 = some (.aload_n 1, 0, 0) from rfl) (v := 0) rfl ?_
  refine zt_aload_n zy_351 (show q_ins q_k351 619 = some (.aload_n 0, 0, 0) from rfl) (v := q_big) rfl ?_
  refine zt_iload zy_351 (show q_ins q_k351 620 = some (.iload 5, 0, 0) from rfl) (v := Int32.ofInt v5) rfl ?_
  refine zt_iconst zy_351 (show q_ins q_k351 622 = some (.iconst 1, 0, 0) from rfl) ?_
  refine zt_iadd zy_351 (show q_ins q_k351 623 = some (.iadd, 0, 0) from rfl) ?_
  obtain ⟨hg, h⟩ := zt_ckE h
  refine zt_sld zy_351 (show q_ins q_k351 624 = some (.iaload, 0, 0) from rfl) hg hX ?_
  refine zt_aload_n zy_351 (show q_ins q_k351 625 = some (.aload_n 3, 0, 0) from rfl) (v := 184) rfl ?_
  obtain ⟨a39, s40, hca39, h⟩ := zt_bdE h
  refine zt_callS (d := 53) zy_351 (show q_ins q_k351 626 = some (.invokestatic 156, 322, 3) from rfl) zy_322 (by decide) ⟨zq_lt (by decide), by decide⟩ rfl (by simp [Value.category]) (by simp [lg_sl, Value.category]) rfl (zt_dm (by decide) (S_L_held hca39)) ?_
  refine zt_istore zy_351 (show q_ins q_k351 629 = some (.istore 6, 0, 0) from rfl) (by decide) ?_
  refine zt_aload_n zy_351 (show q_ins q_k351 631 = some (.aload_n 2, 0, 0) from rfl) (v := 163) rfl ?_
  refine zt_aload_n zy_351 (show q_ins q_k351 632 = some (.aload_n 0, 0, 0) from rfl) (v := q_big) rfl ?_
  refine zt_iload zy_351 (show q_ins q_k351 633 = some (.iload 5, 0, 0) from rfl) (v := Int32.ofInt v5) rfl ?_
  refine zt_iconst zy_351 (show q_ins q_k351 635 = some (.iconst 1, 0, 0) from rfl) ?_
  refine zt_iadd zy_351 (show q_ins q_k351 636 = some (.iadd, 0, 0) from rfl) ?_
  obtain ⟨hg, h⟩ := zt_ckE h
  refine zt_sld zy_351 (show q_ins q_k351 637 = some (.iaload, 0, 0) from rfl) hg hX ?_
  obtain ⟨a41, s42, hca41, h⟩ := zt_bdE h
  refine zt_callV (d := 53) zy_351 (show q_ins q_k351 638 = some (.invokevirtual 158, 238, 1) from rfl) zy_238 (by decide) ⟨zq_lt (by decide), by decide⟩ rfl (by simp [Value.category]) (by simp [lg_sl, Value.category]) (zt_rcv zc_163) (zt_dm (by decide) (S_M_held hca41)) ?_
  refine zt_istore zy_351 (show q_ins q_k351 641 = some (.istore 7, 0, 0) from rfl) (by decide) ?_
  refine zt_aload_n zy_351 (show q_ins q_k351 643 = some (.aload_n 2, 0, 0) from rfl) (v := 163) rfl ?_
  obtain ⟨a43, s44, hca43, h⟩ := zt_bdE h
  refine zt_callV (d := 53) zy_351 (show q_ins q_k351 644 = some (.invokevirtual 136, 170, 0) from rfl) zy_170 (by decide) ⟨zq_lt (by decide), by decide⟩ rfl (by simp [Value.category]) (by simp [lg_sl, Value.category]) (zt_rcv zc_163) (zt_dm (by decide) (S_M_thrown hca43)) ?_
  refine zt_iload zy_351 (show q_ins q_k351 647 = some (.iload 6, 0, 0) from rfl) (v := Int32.ofInt a39) rfl ?_
  obtain ⟨hg, h⟩ := zt_ckE h
  refine zt_icmp_eq zy_351 (show q_ins q_k351 649 = some (.if_icmp .eq 5, 654, 0) from rfl) (⟨hg.1, hg.2⟩) (fun hc => ?_) (fun hc => ?_)
  · rw [if_pos hc] at h
    refine zt_iload zy_351 (show q_ins q_k351 654 = some (.iload 6, 0, 0) from rfl) (v := Int32.ofInt a39) rfl ?_
    obtain ⟨hg, h⟩ := zt_ckE h
    refine zt_if_ne zy_351 (show q_ins q_k351 656 = some (.ifCond .ne 15, 671, 0) from rfl) (hg) (fun hc => ?_) (fun hc => ?_)
    · rw [if_pos hc] at h
      refine zt_aload_n zy_351 (show q_ins q_k351 659 = some (.aload_n 3, 0, 0) from rfl) (v := 184) rfl ?_
      refine zt_iconst zy_351 (show q_ins q_k351 660 = some (.iconst 0, 0, 0) from rfl) ?_
      refine zt_lld zy_351 (show q_ins q_k351 661 = some (.laload, 0, 0) from rfl) za_184 (by decide) (by decide) ?_
      refine zt_iload zy_351 (show q_ins q_k351 662 = some (.iload 7, 0, 0) from rfl) (v := Int32.ofInt a41) rfl ?_
      refine zt_i2l zy_351 (show q_ins q_k351 664 = some (.i2l, 0, 0) from rfl) ?_
      refine zt_lcmp zy_351 (show q_ins q_k351 665 = some (.lcmp, 0, 0) from rfl) ?_
      refine zt_if_eq zy_351 (show q_ins q_k351 666 = some (.ifCond .eq 5, 671, 0) from rfl) (zt_inT _) (fun hc => ?_) (fun hc => ?_)
      · rw [if_pos hc] at h
        exact zt_wk (zt_cov_cons rfl (zt_cov_cons rfl (zt_cov_cons rfl (zt_cov_cons rfl (zt_cov_cons rfl (zt_cov_cons rfl (zt_cov_nil))))))) (S_L_law_671 hX  hr28 _ _ _ h)
      · rw [if_neg hc] at h
        refine zt_iconst zy_351 (show q_ins q_k351 669 = some (.iconst 0, 0, 0) from rfl) ?_
        cases h
        exact zt_zret zy_351 (show q_ins q_k351 670 = some (.ireturn, 0, 0) from rfl) (by decide)
    · rw [if_neg hc] at h
      exact zt_wk (zt_cov_cons rfl (zt_cov_cons rfl (zt_cov_cons rfl (zt_cov_cons rfl (zt_cov_cons rfl (zt_cov_cons rfl (zt_cov_nil))))))) (S_L_law_671 hX  hr28 _ _ _ h)
  · rw [if_neg hc] at h
    refine zt_iconst zy_351 (show q_ins q_k351 652 = some (.iconst 0, 0, 0) from rfl) ?_
    cases h
    exact zt_zret zy_351 (show q_ins q_k351 653 = some (.ireturn, 0, 0) from rfl) (by decide)
set_option maxRecDepth 100000 in
theorem S_L_law_739 {X : q_X} (hX : X.1 ≤ 1000000)   {r28 : Int → zt_S → Option (Int × zt_S)} (hr28 : ∀ (v5 : Int) (σ : zt_S) (o : (Int × zt_S)), r28 v5 σ = some o → zt_Ex X 54 351 28 [(0, .ref q_big), (1, .ref 0), (2, .ref 163), (3, .ref 184), (4, .ref 185), (5, .int (Int32.ofInt v5))] [] (zt_M σ) (zo_I o)) : ∀ (v5 : Int) (σ : zt_S) (o : (Int × zt_S)), F_L_law_739 X  r28 v5 σ = some o → zt_Ex X 54 351 739 [(0, .ref q_big), (1, .ref 0), (2, .ref 163), (3, .ref 184), (4, .ref 185), (5, .int (Int32.ofInt v5))] [] (zt_M σ) (zo_I o) := by
  intro v5 σ o  h
  unfold F_L_law_739 at h
  refine zt_goto zy_351 (show q_ins q_k351 739 = some (.goto 1859, 2598, 0) from rfl) ?_
  exact zt_wk (zt_cov_cons rfl (zt_cov_cons rfl (zt_cov_cons rfl (zt_cov_cons rfl (zt_cov_cons rfl (zt_cov_cons rfl (zt_cov_nil))))))) (S_L_law_2598 hX  hr28 _ _ _ h)
set_option maxRecDepth 100000 in
theorem S_L_law_674 {X : q_X} (hX : X.1 ≤ 1000000)   {r28 : Int → zt_S → Option (Int × zt_S)} (hr28 : ∀ (v5 : Int) (σ : zt_S) (o : (Int × zt_S)), r28 v5 σ = some o → zt_Ex X 54 351 28 [(0, .ref q_big), (1, .ref 0), (2, .ref 163), (3, .ref 184), (4, .ref 185), (5, .int (Int32.ofInt v5))] [] (zt_M σ) (zo_I o)) : ∀ (v5 : Int) (σ : zt_S) (o : (Int × zt_S)), F_L_law_674 X  r28 v5 σ = some o → zt_Ex X 54 351 674 [(0, .ref q_big), (1, .ref 0), (2, .ref 163), (3, .ref 184), (4, .ref 185), (5, .int (Int32.ofInt v5))] [] (zt_M σ) (zo_I o) := by
  intro v5 σ o  h
  unfold F_L_law_674 at h
  refine zt_aload_n zy_351 (show q_ins q_k351 674 = some (.aload_n 1, 0, 0) from rfl) (v := 0) rfl ?_
  refine zt_aload_n zy_351 (show q_ins q_k351 675 = some (.aload_n 0, 0, 0) from rfl) (v := q_big) rfl ?_
  refine zt_iload zy_351 (show q_ins q_k351 676 = some (.iload 5, 0, 0) from rfl) (v := Int32.ofInt v5) rfl ?_
  refine zt_iconst zy_351 (show q_ins q_k351 678 = some (.iconst 1, 0, 0) from rfl) ?_
  refine zt_iadd zy_351 (show q_ins q_k351 679 = some (.iadd, 0, 0) from rfl) ?_
  obtain ⟨hg, h⟩ := zt_ckE h
  refine zt_sld zy_351 (show q_ins q_k351 680 = some (.iaload, 0, 0) from rfl) hg hX ?_
  refine zt_aload_n zy_351 (show q_ins q_k351 681 = some (.aload_n 0, 0, 0) from rfl) (v := q_big) rfl ?_
  refine zt_iload zy_351 (show q_ins q_k351 682 = some (.iload 5, 0, 0) from rfl) (v := Int32.ofInt v5) rfl ?_
  refine zt_iconst zy_351 (show q_ins q_k351 684 = some (.iconst 2, 0, 0) from rfl) ?_
  refine zt_iadd zy_351 (show q_ins q_k351 685 = some (.iadd, 0, 0) from rfl) ?_
  obtain ⟨hg, h⟩ := zt_ckE h
  refine zt_sld zy_351 (show q_ins q_k351 686 = some (.iaload, 0, 0) from rfl) hg hX ?_
  refine zt_aload_n zy_351 (show q_ins q_k351 687 = some (.aload_n 3, 0, 0) from rfl) (v := 184) rfl ?_
  obtain ⟨a45, s46, hca45, h⟩ := zt_bdE h
  refine zt_callS (d := 53) zy_351 (show q_ins q_k351 688 = some (.invokestatic 159, 323, 4) from rfl) zy_323 (by decide) ⟨zq_lt (by decide), by decide⟩ rfl (by simp [Value.category]) (by simp [lg_sl, Value.category]) rfl (zt_dm (by decide) (S_L_inHand hca45)) ?_
  refine zt_istore zy_351 (show q_ins q_k351 691 = some (.istore 6, 0, 0) from rfl) (by decide) ?_
  refine zt_aload_n zy_351 (show q_ins q_k351 693 = some (.aload_n 2, 0, 0) from rfl) (v := 163) rfl ?_
  refine zt_aload_n zy_351 (show q_ins q_k351 694 = some (.aload_n 0, 0, 0) from rfl) (v := q_big) rfl ?_
  refine zt_iload zy_351 (show q_ins q_k351 695 = some (.iload 5, 0, 0) from rfl) (v := Int32.ofInt v5) rfl ?_
  refine zt_iconst zy_351 (show q_ins q_k351 697 = some (.iconst 1, 0, 0) from rfl) ?_
  refine zt_iadd zy_351 (show q_ins q_k351 698 = some (.iadd, 0, 0) from rfl) ?_
  obtain ⟨hg, h⟩ := zt_ckE h
  refine zt_sld zy_351 (show q_ins q_k351 699 = some (.iaload, 0, 0) from rfl) hg hX ?_
  refine zt_aload_n zy_351 (show q_ins q_k351 700 = some (.aload_n 0, 0, 0) from rfl) (v := q_big) rfl ?_
  refine zt_iload zy_351 (show q_ins q_k351 701 = some (.iload 5, 0, 0) from rfl) (v := Int32.ofInt v5) rfl ?_
  refine zt_iconst zy_351 (show q_ins q_k351 703 = some (.iconst 2, 0, 0) from rfl) ?_
  refine zt_iadd zy_351 (show q_ins q_k351 704 = some (.iadd, 0, 0) from rfl) ?_
  obtain ⟨hg, h⟩ := zt_ckE h
  refine zt_sld zy_351 (show q_ins q_k351 705 = some (.iaload, 0, 0) from rfl) hg hX ?_
  obtain ⟨a47, s48, hca47, h⟩ := zt_bdE h
  refine zt_callV (d := 53) zy_351 (show q_ins q_k351 706 = some (.invokevirtual 162, 239, 2) from rfl) zy_239 (by decide) ⟨zq_lt (by decide), by decide⟩ rfl (by simp [Value.category]) (by simp [lg_sl, Value.category]) (zt_rcv zc_163) (zt_dm (by decide) (S_M_inHand hca47)) ?_
  refine zt_istore zy_351 (show q_ins q_k351 709 = some (.istore 7, 0, 0) from rfl) (by decide) ?_
  refine zt_aload_n zy_351 (show q_ins q_k351 711 = some (.aload_n 2, 0, 0) from rfl) (v := 163) rfl ?_
  obtain ⟨a49, s50, hca49, h⟩ := zt_bdE h
  refine zt_callV (d := 53) zy_351 (show q_ins q_k351 712 = some (.invokevirtual 136, 170, 0) from rfl) zy_170 (by decide) ⟨zq_lt (by decide), by decide⟩ rfl (by simp [Value.category]) (by simp [lg_sl, Value.category]) (zt_rcv zc_163) (zt_dm (by decide) (S_M_thrown hca49)) ?_
  refine zt_iload zy_351 (show q_ins q_k351 715 = some (.iload 6, 0, 0) from rfl) (v := Int32.ofInt a45) rfl ?_
  obtain ⟨hg, h⟩ := zt_ckE h
  refine zt_icmp_eq zy_351 (show q_ins q_k351 717 = some (.if_icmp .eq 5, 722, 0) from rfl) (⟨hg.1, hg.2⟩) (fun hc => ?_) (fun hc => ?_)
  · rw [if_pos hc] at h
    refine zt_iload zy_351 (show q_ins q_k351 722 = some (.iload 6, 0, 0) from rfl) (v := Int32.ofInt a45) rfl ?_
    obtain ⟨hg, h⟩ := zt_ckE h
    refine zt_if_ne zy_351 (show q_ins q_k351 724 = some (.ifCond .ne 15, 739, 0) from rfl) (hg) (fun hc => ?_) (fun hc => ?_)
    · rw [if_pos hc] at h
      refine zt_aload_n zy_351 (show q_ins q_k351 727 = some (.aload_n 3, 0, 0) from rfl) (v := 184) rfl ?_
      refine zt_iconst zy_351 (show q_ins q_k351 728 = some (.iconst 0, 0, 0) from rfl) ?_
      refine zt_lld zy_351 (show q_ins q_k351 729 = some (.laload, 0, 0) from rfl) za_184 (by decide) (by decide) ?_
      refine zt_iload zy_351 (show q_ins q_k351 730 = some (.iload 7, 0, 0) from rfl) (v := Int32.ofInt a47) rfl ?_
      refine zt_i2l zy_351 (show q_ins q_k351 732 = some (.i2l, 0, 0) from rfl) ?_
      refine zt_lcmp zy_351 (show q_ins q_k351 733 = some (.lcmp, 0, 0) from rfl) ?_
      refine zt_if_eq zy_351 (show q_ins q_k351 734 = some (.ifCond .eq 5, 739, 0) from rfl) (zt_inT _) (fun hc => ?_) (fun hc => ?_)
      · rw [if_pos hc] at h
        exact zt_wk (zt_cov_cons rfl (zt_cov_cons rfl (zt_cov_cons rfl (zt_cov_cons rfl (zt_cov_cons rfl (zt_cov_cons rfl (zt_cov_nil))))))) (S_L_law_739 hX  hr28 _ _ _ h)
      · rw [if_neg hc] at h
        refine zt_iconst zy_351 (show q_ins q_k351 737 = some (.iconst 0, 0, 0) from rfl) ?_
        cases h
        exact zt_zret zy_351 (show q_ins q_k351 738 = some (.ireturn, 0, 0) from rfl) (by decide)
    · rw [if_neg hc] at h
      exact zt_wk (zt_cov_cons rfl (zt_cov_cons rfl (zt_cov_cons rfl (zt_cov_cons rfl (zt_cov_cons rfl (zt_cov_cons rfl (zt_cov_nil))))))) (S_L_law_739 hX  hr28 _ _ _ h)
  · rw [if_neg hc] at h
    refine zt_iconst zy_351 (show q_ins q_k351 720 = some (.iconst 0, 0, 0) from rfl) ?_
    cases h
    exact zt_zret zy_351 (show q_ins q_k351 721 = some (.ireturn, 0, 0) from rfl) (by decide)
set_option maxRecDepth 100000 in
theorem S_L_law_807 {X : q_X} (hX : X.1 ≤ 1000000)   {r28 : Int → zt_S → Option (Int × zt_S)} (hr28 : ∀ (v5 : Int) (σ : zt_S) (o : (Int × zt_S)), r28 v5 σ = some o → zt_Ex X 54 351 28 [(0, .ref q_big), (1, .ref 0), (2, .ref 163), (3, .ref 184), (4, .ref 185), (5, .int (Int32.ofInt v5))] [] (zt_M σ) (zo_I o)) : ∀ (v5 : Int) (σ : zt_S) (o : (Int × zt_S)), F_L_law_807 X  r28 v5 σ = some o → zt_Ex X 54 351 807 [(0, .ref q_big), (1, .ref 0), (2, .ref 163), (3, .ref 184), (4, .ref 185), (5, .int (Int32.ofInt v5))] [] (zt_M σ) (zo_I o) := by
  intro v5 σ o  h
  unfold F_L_law_807 at h
  refine zt_goto zy_351 (show q_ins q_k351 807 = some (.goto 1791, 2598, 0) from rfl) ?_
  exact zt_wk (zt_cov_cons rfl (zt_cov_cons rfl (zt_cov_cons rfl (zt_cov_cons rfl (zt_cov_cons rfl (zt_cov_cons rfl (zt_cov_nil))))))) (S_L_law_2598 hX  hr28 _ _ _ h)
set_option maxRecDepth 100000 in
theorem S_L_law_742 {X : q_X} (hX : X.1 ≤ 1000000)   {r28 : Int → zt_S → Option (Int × zt_S)} (hr28 : ∀ (v5 : Int) (σ : zt_S) (o : (Int × zt_S)), r28 v5 σ = some o → zt_Ex X 54 351 28 [(0, .ref q_big), (1, .ref 0), (2, .ref 163), (3, .ref 184), (4, .ref 185), (5, .int (Int32.ofInt v5))] [] (zt_M σ) (zo_I o)) : ∀ (v5 : Int) (σ : zt_S) (o : (Int × zt_S)), F_L_law_742 X  r28 v5 σ = some o → zt_Ex X 54 351 742 [(0, .ref q_big), (1, .ref 0), (2, .ref 163), (3, .ref 184), (4, .ref 185), (5, .int (Int32.ofInt v5))] [] (zt_M σ) (zo_I o) := by
  intro v5 σ o  h
  unfold F_L_law_742 at h
  refine zt_aload_n zy_351 (show q_ins q_k351 742 = some (.aload_n 1, 0, 0) from rfl) (v := 0) rfl ?_
  refine zt_aload_n zy_351 (show q_ins q_k351 743 = some (.aload_n 0, 0, 0) from rfl) (v := q_big) rfl ?_
  refine zt_iload zy_351 (show q_ins q_k351 744 = some (.iload 5, 0, 0) from rfl) (v := Int32.ofInt v5) rfl ?_
  refine zt_iconst zy_351 (show q_ins q_k351 746 = some (.iconst 1, 0, 0) from rfl) ?_
  refine zt_iadd zy_351 (show q_ins q_k351 747 = some (.iadd, 0, 0) from rfl) ?_
  obtain ⟨hg, h⟩ := zt_ckE h
  refine zt_sld zy_351 (show q_ins q_k351 748 = some (.iaload, 0, 0) from rfl) hg hX ?_
  refine zt_aload_n zy_351 (show q_ins q_k351 749 = some (.aload_n 0, 0, 0) from rfl) (v := q_big) rfl ?_
  refine zt_iload zy_351 (show q_ins q_k351 750 = some (.iload 5, 0, 0) from rfl) (v := Int32.ofInt v5) rfl ?_
  refine zt_iconst zy_351 (show q_ins q_k351 752 = some (.iconst 2, 0, 0) from rfl) ?_
  refine zt_iadd zy_351 (show q_ins q_k351 753 = some (.iadd, 0, 0) from rfl) ?_
  obtain ⟨hg, h⟩ := zt_ckE h
  refine zt_sld zy_351 (show q_ins q_k351 754 = some (.iaload, 0, 0) from rfl) hg hX ?_
  refine zt_aload_n zy_351 (show q_ins q_k351 755 = some (.aload_n 3, 0, 0) from rfl) (v := 184) rfl ?_
  obtain ⟨a51, s52, hca51, h⟩ := zt_bdE h
  refine zt_callS (d := 53) zy_351 (show q_ins q_k351 756 = some (.invokestatic 163, 324, 4) from rfl) zy_324 (by decide) ⟨zq_lt (by decide), by decide⟩ rfl (by simp [Value.category]) (by simp [lg_sl, Value.category]) rfl (zt_dm (by decide) (S_L_ofSuit hca51)) ?_
  refine zt_istore zy_351 (show q_ins q_k351 759 = some (.istore 6, 0, 0) from rfl) (by decide) ?_
  refine zt_aload_n zy_351 (show q_ins q_k351 761 = some (.aload_n 2, 0, 0) from rfl) (v := 163) rfl ?_
  refine zt_aload_n zy_351 (show q_ins q_k351 762 = some (.aload_n 0, 0, 0) from rfl) (v := q_big) rfl ?_
  refine zt_iload zy_351 (show q_ins q_k351 763 = some (.iload 5, 0, 0) from rfl) (v := Int32.ofInt v5) rfl ?_
  refine zt_iconst zy_351 (show q_ins q_k351 765 = some (.iconst 1, 0, 0) from rfl) ?_
  refine zt_iadd zy_351 (show q_ins q_k351 766 = some (.iadd, 0, 0) from rfl) ?_
  obtain ⟨hg, h⟩ := zt_ckE h
  refine zt_sld zy_351 (show q_ins q_k351 767 = some (.iaload, 0, 0) from rfl) hg hX ?_
  refine zt_aload_n zy_351 (show q_ins q_k351 768 = some (.aload_n 0, 0, 0) from rfl) (v := q_big) rfl ?_
  refine zt_iload zy_351 (show q_ins q_k351 769 = some (.iload 5, 0, 0) from rfl) (v := Int32.ofInt v5) rfl ?_
  refine zt_iconst zy_351 (show q_ins q_k351 771 = some (.iconst 2, 0, 0) from rfl) ?_
  refine zt_iadd zy_351 (show q_ins q_k351 772 = some (.iadd, 0, 0) from rfl) ?_
  obtain ⟨hg, h⟩ := zt_ckE h
  refine zt_sld zy_351 (show q_ins q_k351 773 = some (.iaload, 0, 0) from rfl) hg hX ?_
  obtain ⟨a53, s54, hca53, h⟩ := zt_bdE h
  refine zt_callV (d := 53) zy_351 (show q_ins q_k351 774 = some (.invokevirtual 165, 240, 2) from rfl) zy_240 (by decide) ⟨zq_lt (by decide), by decide⟩ rfl (by simp [Value.category]) (by simp [lg_sl, Value.category]) (zt_rcv zc_163) (zt_dm (by decide) (S_M_ofSuit hca53)) ?_
  refine zt_istore zy_351 (show q_ins q_k351 777 = some (.istore 7, 0, 0) from rfl) (by decide) ?_
  refine zt_aload_n zy_351 (show q_ins q_k351 779 = some (.aload_n 2, 0, 0) from rfl) (v := 163) rfl ?_
  obtain ⟨a55, s56, hca55, h⟩ := zt_bdE h
  refine zt_callV (d := 53) zy_351 (show q_ins q_k351 780 = some (.invokevirtual 136, 170, 0) from rfl) zy_170 (by decide) ⟨zq_lt (by decide), by decide⟩ rfl (by simp [Value.category]) (by simp [lg_sl, Value.category]) (zt_rcv zc_163) (zt_dm (by decide) (S_M_thrown hca55)) ?_
  refine zt_iload zy_351 (show q_ins q_k351 783 = some (.iload 6, 0, 0) from rfl) (v := Int32.ofInt a51) rfl ?_
  obtain ⟨hg, h⟩ := zt_ckE h
  refine zt_icmp_eq zy_351 (show q_ins q_k351 785 = some (.if_icmp .eq 5, 790, 0) from rfl) (⟨hg.1, hg.2⟩) (fun hc => ?_) (fun hc => ?_)
  · rw [if_pos hc] at h
    refine zt_iload zy_351 (show q_ins q_k351 790 = some (.iload 6, 0, 0) from rfl) (v := Int32.ofInt a51) rfl ?_
    obtain ⟨hg, h⟩ := zt_ckE h
    refine zt_if_ne zy_351 (show q_ins q_k351 792 = some (.ifCond .ne 15, 807, 0) from rfl) (hg) (fun hc => ?_) (fun hc => ?_)
    · rw [if_pos hc] at h
      refine zt_aload_n zy_351 (show q_ins q_k351 795 = some (.aload_n 3, 0, 0) from rfl) (v := 184) rfl ?_
      refine zt_iconst zy_351 (show q_ins q_k351 796 = some (.iconst 0, 0, 0) from rfl) ?_
      refine zt_lld zy_351 (show q_ins q_k351 797 = some (.laload, 0, 0) from rfl) za_184 (by decide) (by decide) ?_
      refine zt_iload zy_351 (show q_ins q_k351 798 = some (.iload 7, 0, 0) from rfl) (v := Int32.ofInt a53) rfl ?_
      refine zt_i2l zy_351 (show q_ins q_k351 800 = some (.i2l, 0, 0) from rfl) ?_
      refine zt_lcmp zy_351 (show q_ins q_k351 801 = some (.lcmp, 0, 0) from rfl) ?_
      refine zt_if_eq zy_351 (show q_ins q_k351 802 = some (.ifCond .eq 5, 807, 0) from rfl) (zt_inT _) (fun hc => ?_) (fun hc => ?_)
      · rw [if_pos hc] at h
        exact zt_wk (zt_cov_cons rfl (zt_cov_cons rfl (zt_cov_cons rfl (zt_cov_cons rfl (zt_cov_cons rfl (zt_cov_cons rfl (zt_cov_nil))))))) (S_L_law_807 hX  hr28 _ _ _ h)
      · rw [if_neg hc] at h
        refine zt_iconst zy_351 (show q_ins q_k351 805 = some (.iconst 0, 0, 0) from rfl) ?_
        cases h
        exact zt_zret zy_351 (show q_ins q_k351 806 = some (.ireturn, 0, 0) from rfl) (by decide)
    · rw [if_neg hc] at h
      exact zt_wk (zt_cov_cons rfl (zt_cov_cons rfl (zt_cov_cons rfl (zt_cov_cons rfl (zt_cov_cons rfl (zt_cov_cons rfl (zt_cov_nil))))))) (S_L_law_807 hX  hr28 _ _ _ h)
  · rw [if_neg hc] at h
    refine zt_iconst zy_351 (show q_ins q_k351 788 = some (.iconst 0, 0, 0) from rfl) ?_
    cases h
    exact zt_zret zy_351 (show q_ins q_k351 789 = some (.ireturn, 0, 0) from rfl) (by decide)
set_option maxRecDepth 100000 in
theorem S_L_law_870 {X : q_X} (hX : X.1 ≤ 1000000)   {r28 : Int → zt_S → Option (Int × zt_S)} (hr28 : ∀ (v5 : Int) (σ : zt_S) (o : (Int × zt_S)), r28 v5 σ = some o → zt_Ex X 54 351 28 [(0, .ref q_big), (1, .ref 0), (2, .ref 163), (3, .ref 184), (4, .ref 185), (5, .int (Int32.ofInt v5))] [] (zt_M σ) (zo_I o)) : ∀ (v5 : Int) (σ : zt_S) (o : (Int × zt_S)), F_L_law_870 X  r28 v5 σ = some o → zt_Ex X 54 351 870 [(0, .ref q_big), (1, .ref 0), (2, .ref 163), (3, .ref 184), (4, .ref 185), (5, .int (Int32.ofInt v5))] [] (zt_M σ) (zo_I o) := by
  intro v5 σ o  h
  unfold F_L_law_870 at h
  refine zt_goto zy_351 (show q_ins q_k351 870 = some (.goto 1728, 2598, 0) from rfl) ?_
  exact zt_wk (zt_cov_cons rfl (zt_cov_cons rfl (zt_cov_cons rfl (zt_cov_cons rfl (zt_cov_cons rfl (zt_cov_cons rfl (zt_cov_nil))))))) (S_L_law_2598 hX  hr28 _ _ _ h)
set_option maxRecDepth 100000 in
theorem S_L_law_864 {X : q_X} (hX : X.1 ≤ 1000000)   {r28 : Int → zt_S → Option (Int × zt_S)} (hr28 : ∀ (v5 : Int) (σ : zt_S) (o : (Int × zt_S)), r28 v5 σ = some o → zt_Ex X 54 351 28 [(0, .ref q_big), (1, .ref 0), (2, .ref 163), (3, .ref 184), (4, .ref 185), (5, .int (Int32.ofInt v5))] [] (zt_M σ) (zo_I o)) : ∀ (v5 : Int) (x0 : Int64) (x1 : Int64) (σ : zt_S) (o : (Int × zt_S)), F_L_law_864 X  r28 v5 x0 x1 σ = some o → zt_Ex X 54 351 864 [(0, .ref q_big), (1, .ref 0), (2, .ref 163), (3, .ref 184), (4, .ref 185), (5, .int (Int32.ofInt v5))] [.long x0, .long x1] (zt_M σ) (zo_I o) := by
  intro v5 x0 x1 σ o  h
  unfold F_L_law_864 at h
  refine zt_lcmp zy_351 (show q_ins q_k351 864 = some (.lcmp, 0, 0) from rfl) ?_
  refine zt_if_eq zy_351 (show q_ins q_k351 865 = some (.ifCond .eq 5, 870, 0) from rfl) (zt_inT _) (fun hc => ?_) (fun hc => ?_)
  · rw [if_pos hc] at h
    exact zt_wk (zt_cov_cons rfl (zt_cov_cons rfl (zt_cov_cons rfl (zt_cov_cons rfl (zt_cov_cons rfl (zt_cov_cons rfl (zt_cov_nil))))))) (S_L_law_870 hX  hr28 _ _ _ h)
  · rw [if_neg hc] at h
    refine zt_iconst zy_351 (show q_ins q_k351 868 = some (.iconst 0, 0, 0) from rfl) ?_
    cases h
    exact zt_zret zy_351 (show q_ins q_k351 869 = some (.ireturn, 0, 0) from rfl) (by decide)
set_option maxRecDepth 100000 in
theorem S_L_law_810 {X : q_X} (hX : X.1 ≤ 1000000)   {r28 : Int → zt_S → Option (Int × zt_S)} (hr28 : ∀ (v5 : Int) (σ : zt_S) (o : (Int × zt_S)), r28 v5 σ = some o → zt_Ex X 54 351 28 [(0, .ref q_big), (1, .ref 0), (2, .ref 163), (3, .ref 184), (4, .ref 185), (5, .int (Int32.ofInt v5))] [] (zt_M σ) (zo_I o)) : ∀ (v5 : Int) (σ : zt_S) (o : (Int × zt_S)), F_L_law_810 X  r28 v5 σ = some o → zt_Ex X 54 351 810 [(0, .ref q_big), (1, .ref 0), (2, .ref 163), (3, .ref 184), (4, .ref 185), (5, .int (Int32.ofInt v5))] [] (zt_M σ) (zo_I o) := by
  intro v5 σ o  h
  unfold F_L_law_810 at h
  refine zt_aload_n zy_351 (show q_ins q_k351 810 = some (.aload_n 1, 0, 0) from rfl) (v := 0) rfl ?_
  refine zt_aload_n zy_351 (show q_ins q_k351 811 = some (.aload_n 0, 0, 0) from rfl) (v := q_big) rfl ?_
  refine zt_iload zy_351 (show q_ins q_k351 812 = some (.iload 5, 0, 0) from rfl) (v := Int32.ofInt v5) rfl ?_
  refine zt_iconst zy_351 (show q_ins q_k351 814 = some (.iconst 1, 0, 0) from rfl) ?_
  refine zt_iadd zy_351 (show q_ins q_k351 815 = some (.iadd, 0, 0) from rfl) ?_
  obtain ⟨hg, h⟩ := zt_ckE h
  refine zt_sld zy_351 (show q_ins q_k351 816 = some (.iaload, 0, 0) from rfl) hg hX ?_
  refine zt_aload_n zy_351 (show q_ins q_k351 817 = some (.aload_n 3, 0, 0) from rfl) (v := 184) rfl ?_
  obtain ⟨a57, s58, hca57, h⟩ := zt_bdE h
  refine zt_callS (d := 53) zy_351 (show q_ins q_k351 818 = some (.invokestatic 166, 325, 3) from rfl) zy_325 (by decide) ⟨zq_lt (by decide), by decide⟩ rfl (by simp [Value.category]) (by simp [lg_sl, Value.category]) rfl (zt_dm (by decide) (S_L_isLegal hca57)) ?_
  refine zt_istore zy_351 (show q_ins q_k351 821 = some (.istore 6, 0, 0) from rfl) (by decide) ?_
  refine zt_aload_n zy_351 (show q_ins q_k351 823 = some (.aload_n 2, 0, 0) from rfl) (v := 163) rfl ?_
  refine zt_aload_n zy_351 (show q_ins q_k351 824 = some (.aload_n 0, 0, 0) from rfl) (v := q_big) rfl ?_
  refine zt_iload zy_351 (show q_ins q_k351 825 = some (.iload 5, 0, 0) from rfl) (v := Int32.ofInt v5) rfl ?_
  refine zt_iconst zy_351 (show q_ins q_k351 827 = some (.iconst 1, 0, 0) from rfl) ?_
  refine zt_iadd zy_351 (show q_ins q_k351 828 = some (.iadd, 0, 0) from rfl) ?_
  obtain ⟨hg, h⟩ := zt_ckE h
  refine zt_sld zy_351 (show q_ins q_k351 829 = some (.iaload, 0, 0) from rfl) hg hX ?_
  obtain ⟨a59, s60, hca59, h⟩ := zt_bdE h
  refine zt_callV (d := 53) zy_351 (show q_ins q_k351 830 = some (.invokevirtual 168, 241, 1) from rfl) zy_241 (by decide) ⟨zq_lt (by decide), by decide⟩ rfl (by simp [Value.category]) (by simp [lg_sl, Value.category]) (zt_rcv zc_163) (zt_dm (by decide) (S_M_isLegal hca59)) ?_
  refine zt_istore zy_351 (show q_ins q_k351 833 = some (.istore 7, 0, 0) from rfl) (by decide) ?_
  refine zt_aload_n zy_351 (show q_ins q_k351 835 = some (.aload_n 2, 0, 0) from rfl) (v := 163) rfl ?_
  obtain ⟨a61, s62, hca61, h⟩ := zt_bdE h
  refine zt_callV (d := 53) zy_351 (show q_ins q_k351 836 = some (.invokevirtual 136, 170, 0) from rfl) zy_170 (by decide) ⟨zq_lt (by decide), by decide⟩ rfl (by simp [Value.category]) (by simp [lg_sl, Value.category]) (zt_rcv zc_163) (zt_dm (by decide) (S_M_thrown hca61)) ?_
  refine zt_iload zy_351 (show q_ins q_k351 839 = some (.iload 6, 0, 0) from rfl) (v := Int32.ofInt a57) rfl ?_
  obtain ⟨hg, h⟩ := zt_ckE h
  refine zt_icmp_eq zy_351 (show q_ins q_k351 841 = some (.if_icmp .eq 5, 846, 0) from rfl) (⟨hg.1, hg.2⟩) (fun hc => ?_) (fun hc => ?_)
  · rw [if_pos hc] at h
    refine zt_iload zy_351 (show q_ins q_k351 846 = some (.iload 6, 0, 0) from rfl) (v := Int32.ofInt a57) rfl ?_
    obtain ⟨hg, h⟩ := zt_ckE h
    refine zt_if_ne zy_351 (show q_ins q_k351 848 = some (.ifCond .ne 22, 870, 0) from rfl) (hg) (fun hc => ?_) (fun hc => ?_)
    · rw [if_pos hc] at h
      refine zt_aload_n zy_351 (show q_ins q_k351 851 = some (.aload_n 3, 0, 0) from rfl) (v := 184) rfl ?_
      refine zt_iconst zy_351 (show q_ins q_k351 852 = some (.iconst 0, 0, 0) from rfl) ?_
      refine zt_lld zy_351 (show q_ins q_k351 853 = some (.laload, 0, 0) from rfl) za_184 (by decide) (by decide) ?_
      refine zt_iload zy_351 (show q_ins q_k351 854 = some (.iload 7, 0, 0) from rfl) (v := Int32.ofInt a59) rfl ?_
      obtain ⟨hg, h⟩ := zt_ckE h
      refine zt_if_eq zy_351 (show q_ins q_k351 856 = some (.ifCond .eq 7, 863, 0) from rfl) (hg) (fun hc => ?_) (fun hc => ?_)
      · rw [if_pos hc] at h
        refine zt_lconst zy_351 (show q_ins q_k351 863 = some (.lconst 0, 0, 0) from rfl) (v := (0 : Int64)) (by decide) ?_
        exact zt_wk (zt_cov_cons rfl (zt_cov_cons rfl (zt_cov_cons rfl (zt_cov_cons rfl (zt_cov_cons rfl (zt_cov_cons rfl (zt_cov_nil))))))) (S_L_law_864 hX  hr28 _ _ _ _ _ h)
      · rw [if_neg hc] at h
        refine zt_lconst zy_351 (show q_ins q_k351 859 = some (.lconst 1, 0, 0) from rfl) (v := (1 : Int64)) (by decide) ?_
        refine zt_goto zy_351 (show q_ins q_k351 860 = some (.goto 4, 864, 0) from rfl) ?_
        exact zt_wk (zt_cov_cons rfl (zt_cov_cons rfl (zt_cov_cons rfl (zt_cov_cons rfl (zt_cov_cons rfl (zt_cov_cons rfl (zt_cov_nil))))))) (S_L_law_864 hX  hr28 _ _ _ _ _ h)
    · rw [if_neg hc] at h
      exact zt_wk (zt_cov_cons rfl (zt_cov_cons rfl (zt_cov_cons rfl (zt_cov_cons rfl (zt_cov_cons rfl (zt_cov_cons rfl (zt_cov_nil))))))) (S_L_law_870 hX  hr28 _ _ _ h)
  · rw [if_neg hc] at h
    refine zt_iconst zy_351 (show q_ins q_k351 844 = some (.iconst 0, 0, 0) from rfl) ?_
    cases h
    exact zt_zret zy_351 (show q_ins q_k351 845 = some (.ireturn, 0, 0) from rfl) (by decide)
set_option maxRecDepth 100000 in
theorem S_L_law_873 {X : q_X} (hX : X.1 ≤ 1000000)   {r28 : Int → zt_S → Option (Int × zt_S)} (hr28 : ∀ (v5 : Int) (σ : zt_S) (o : (Int × zt_S)), r28 v5 σ = some o → zt_Ex X 54 351 28 [(0, .ref q_big), (1, .ref 0), (2, .ref 163), (3, .ref 184), (4, .ref 185), (5, .int (Int32.ofInt v5))] [] (zt_M σ) (zo_I o)) : ∀ (v5 : Int) (σ : zt_S) (o : (Int × zt_S)), F_L_law_873 X  r28 v5 σ = some o → zt_Ex X 54 351 873 [(0, .ref q_big), (1, .ref 0), (2, .ref 163), (3, .ref 184), (4, .ref 185), (5, .int (Int32.ofInt v5))] [] (zt_M σ) (zo_I o) := by
  intro v5 σ o  h
  unfold F_L_law_873 at h
  refine zt_aload_n zy_351 (show q_ins q_k351 873 = some (.aload_n 1, 0, 0) from rfl) (v := 0) rfl ?_
  obtain ⟨a63, s64, hca63, h⟩ := zt_bdE h
  refine zt_callV (d := 53) zy_351 (show q_ins q_k351 874 = some (.invokevirtual 169, 130, 0) from rfl) zy_130 (by decide) ⟨zq_lt (by decide), by decide⟩ rfl (by simp [Value.category]) (by simp [lg_sl, Value.category]) (zt_rcv zc_0) (zt_dm (by decide) (S_C_legal hca63)) ?_
  refine zt_aload_n zy_351 (show q_ins q_k351 877 = some (.aload_n 2, 0, 0) from rfl) (v := 163) rfl ?_
  obtain ⟨a65, s66, hca65, h⟩ := zt_bdE h
  refine zt_callV (d := 53) zy_351 (show q_ins q_k351 878 = some (.invokevirtual 172, 242, 0) from rfl) zy_242 (by decide) ⟨zq_lt (by decide), by decide⟩ rfl (by simp [Value.category]) (by simp [lg_sl, Value.category]) (zt_rcv zc_163) (zt_dm (by decide) (S_M_legal hca65)) ?_
  obtain ⟨hg, h⟩ := zt_ckE h
  refine zt_icmp_eq zy_351 (show q_ins q_k351 881 = some (.if_icmp .eq 1717, 2598, 0) from rfl) (⟨hg.1, hg.2⟩) (fun hc => ?_) (fun hc => ?_)
  · rw [if_pos hc] at h
    exact zt_wk (zt_cov_cons rfl (zt_cov_cons rfl (zt_cov_cons rfl (zt_cov_cons rfl (zt_cov_cons rfl (zt_cov_cons rfl (zt_cov_nil))))))) (S_L_law_2598 hX  hr28 _ _ _ h)
  · rw [if_neg hc] at h
    refine zt_iconst zy_351 (show q_ins q_k351 884 = some (.iconst 0, 0, 0) from rfl) ?_
    cases h
    exact zt_zret zy_351 (show q_ins q_k351 885 = some (.ireturn, 0, 0) from rfl) (by decide)
set_option maxRecDepth 100000 in
theorem S_L_law_939 {X : q_X} (hX : X.1 ≤ 1000000)   {r28 : Int → zt_S → Option (Int × zt_S)} (hr28 : ∀ (v5 : Int) (σ : zt_S) (o : (Int × zt_S)), r28 v5 σ = some o → zt_Ex X 54 351 28 [(0, .ref q_big), (1, .ref 0), (2, .ref 163), (3, .ref 184), (4, .ref 185), (5, .int (Int32.ofInt v5))] [] (zt_M σ) (zo_I o)) : ∀ (v5 : Int) (σ : zt_S) (o : (Int × zt_S)), F_L_law_939 X  r28 v5 σ = some o → zt_Ex X 54 351 939 [(0, .ref q_big), (1, .ref 0), (2, .ref 163), (3, .ref 184), (4, .ref 185), (5, .int (Int32.ofInt v5))] [] (zt_M σ) (zo_I o) := by
  intro v5 σ o  h
  unfold F_L_law_939 at h
  refine zt_goto zy_351 (show q_ins q_k351 939 = some (.goto 1659, 2598, 0) from rfl) ?_
  exact zt_wk (zt_cov_cons rfl (zt_cov_cons rfl (zt_cov_cons rfl (zt_cov_cons rfl (zt_cov_cons rfl (zt_cov_cons rfl (zt_cov_nil))))))) (S_L_law_2598 hX  hr28 _ _ _ h)
set_option maxRecDepth 100000 in
theorem S_L_law_886 {X : q_X} (hX : X.1 ≤ 1000000)   {r28 : Int → zt_S → Option (Int × zt_S)} (hr28 : ∀ (v5 : Int) (σ : zt_S) (o : (Int × zt_S)), r28 v5 σ = some o → zt_Ex X 54 351 28 [(0, .ref q_big), (1, .ref 0), (2, .ref 163), (3, .ref 184), (4, .ref 185), (5, .int (Int32.ofInt v5))] [] (zt_M σ) (zo_I o)) : ∀ (v5 : Int) (σ : zt_S) (o : (Int × zt_S)), F_L_law_886 X  r28 v5 σ = some o → zt_Ex X 54 351 886 [(0, .ref q_big), (1, .ref 0), (2, .ref 163), (3, .ref 184), (4, .ref 185), (5, .int (Int32.ofInt v5))] [] (zt_M σ) (zo_I o) := by
  intro v5 σ o  h
  unfold F_L_law_886 at h
  refine zt_aload_n zy_351 (show q_ins q_k351 886 = some (.aload_n 1, 0, 0) from rfl) (v := 0) rfl ?_
  refine zt_aload_n zy_351 (show q_ins q_k351 887 = some (.aload_n 0, 0, 0) from rfl) (v := q_big) rfl ?_
  refine zt_iload zy_351 (show q_ins q_k351 888 = some (.iload 5, 0, 0) from rfl) (v := Int32.ofInt v5) rfl ?_
  refine zt_iconst zy_351 (show q_ins q_k351 890 = some (.iconst 1, 0, 0) from rfl) ?_
  refine zt_iadd zy_351 (show q_ins q_k351 891 = some (.iadd, 0, 0) from rfl) ?_
  obtain ⟨hg, h⟩ := zt_ckE h
  refine zt_sld zy_351 (show q_ins q_k351 892 = some (.iaload, 0, 0) from rfl) hg hX ?_
  refine zt_aload_n zy_351 (show q_ins q_k351 893 = some (.aload_n 3, 0, 0) from rfl) (v := 184) rfl ?_
  obtain ⟨a67, s68, hca67, h⟩ := zt_bdE h
  refine zt_callS (d := 53) zy_351 (show q_ins q_k351 894 = some (.invokestatic 173, 326, 3) from rfl) zy_326 (by decide) ⟨zq_lt (by decide), by decide⟩ rfl (by simp [Value.category]) (by simp [lg_sl, Value.category]) rfl (zt_dm (by decide) (S_L_power hca67)) ?_
  refine zt_istore zy_351 (show q_ins q_k351 897 = some (.istore 6, 0, 0) from rfl) (by decide) ?_
  refine zt_aload_n zy_351 (show q_ins q_k351 899 = some (.aload_n 2, 0, 0) from rfl) (v := 163) rfl ?_
  refine zt_aload_n zy_351 (show q_ins q_k351 900 = some (.aload_n 0, 0, 0) from rfl) (v := q_big) rfl ?_
  refine zt_iload zy_351 (show q_ins q_k351 901 = some (.iload 5, 0, 0) from rfl) (v := Int32.ofInt v5) rfl ?_
  refine zt_iconst zy_351 (show q_ins q_k351 903 = some (.iconst 1, 0, 0) from rfl) ?_
  refine zt_iadd zy_351 (show q_ins q_k351 904 = some (.iadd, 0, 0) from rfl) ?_
  obtain ⟨hg, h⟩ := zt_ckE h
  refine zt_sld zy_351 (show q_ins q_k351 905 = some (.iaload, 0, 0) from rfl) hg hX ?_
  obtain ⟨a69, s70, hca69, h⟩ := zt_bdE h
  refine zt_callV (d := 53) zy_351 (show q_ins q_k351 906 = some (.invokevirtual 175, 243, 1) from rfl) zy_243 (by decide) ⟨zq_lt (by decide), by decide⟩ rfl (by simp [Value.category]) (by simp [lg_sl, Value.category]) (zt_rcv zc_163) (zt_dm (by decide) (S_M_power hca69)) ?_
  refine zt_istore zy_351 (show q_ins q_k351 909 = some (.istore 7, 0, 0) from rfl) (by decide) ?_
  refine zt_aload_n zy_351 (show q_ins q_k351 911 = some (.aload_n 2, 0, 0) from rfl) (v := 163) rfl ?_
  obtain ⟨a71, s72, hca71, h⟩ := zt_bdE h
  refine zt_callV (d := 53) zy_351 (show q_ins q_k351 912 = some (.invokevirtual 136, 170, 0) from rfl) zy_170 (by decide) ⟨zq_lt (by decide), by decide⟩ rfl (by simp [Value.category]) (by simp [lg_sl, Value.category]) (zt_rcv zc_163) (zt_dm (by decide) (S_M_thrown hca71)) ?_
  refine zt_iload zy_351 (show q_ins q_k351 915 = some (.iload 6, 0, 0) from rfl) (v := Int32.ofInt a67) rfl ?_
  obtain ⟨hg, h⟩ := zt_ckE h
  refine zt_icmp_eq zy_351 (show q_ins q_k351 917 = some (.if_icmp .eq 5, 922, 0) from rfl) (⟨hg.1, hg.2⟩) (fun hc => ?_) (fun hc => ?_)
  · rw [if_pos hc] at h
    refine zt_iload zy_351 (show q_ins q_k351 922 = some (.iload 6, 0, 0) from rfl) (v := Int32.ofInt a67) rfl ?_
    obtain ⟨hg, h⟩ := zt_ckE h
    refine zt_if_ne zy_351 (show q_ins q_k351 924 = some (.ifCond .ne 15, 939, 0) from rfl) (hg) (fun hc => ?_) (fun hc => ?_)
    · rw [if_pos hc] at h
      refine zt_aload_n zy_351 (show q_ins q_k351 927 = some (.aload_n 3, 0, 0) from rfl) (v := 184) rfl ?_
      refine zt_iconst zy_351 (show q_ins q_k351 928 = some (.iconst 0, 0, 0) from rfl) ?_
      refine zt_lld zy_351 (show q_ins q_k351 929 = some (.laload, 0, 0) from rfl) za_184 (by decide) (by decide) ?_
      refine zt_iload zy_351 (show q_ins q_k351 930 = some (.iload 7, 0, 0) from rfl) (v := Int32.ofInt a69) rfl ?_
      refine zt_i2l zy_351 (show q_ins q_k351 932 = some (.i2l, 0, 0) from rfl) ?_
      refine zt_lcmp zy_351 (show q_ins q_k351 933 = some (.lcmp, 0, 0) from rfl) ?_
      refine zt_if_eq zy_351 (show q_ins q_k351 934 = some (.ifCond .eq 5, 939, 0) from rfl) (zt_inT _) (fun hc => ?_) (fun hc => ?_)
      · rw [if_pos hc] at h
        exact zt_wk (zt_cov_cons rfl (zt_cov_cons rfl (zt_cov_cons rfl (zt_cov_cons rfl (zt_cov_cons rfl (zt_cov_cons rfl (zt_cov_nil))))))) (S_L_law_939 hX  hr28 _ _ _ h)
      · rw [if_neg hc] at h
        refine zt_iconst zy_351 (show q_ins q_k351 937 = some (.iconst 0, 0, 0) from rfl) ?_
        cases h
        exact zt_zret zy_351 (show q_ins q_k351 938 = some (.ireturn, 0, 0) from rfl) (by decide)
    · rw [if_neg hc] at h
      exact zt_wk (zt_cov_cons rfl (zt_cov_cons rfl (zt_cov_cons rfl (zt_cov_cons rfl (zt_cov_cons rfl (zt_cov_cons rfl (zt_cov_nil))))))) (S_L_law_939 hX  hr28 _ _ _ h)
  · rw [if_neg hc] at h
    refine zt_iconst zy_351 (show q_ins q_k351 920 = some (.iconst 0, 0, 0) from rfl) ?_
    cases h
    exact zt_zret zy_351 (show q_ins q_k351 921 = some (.ireturn, 0, 0) from rfl) (by decide)
set_option maxRecDepth 100000 in
theorem S_L_law_942 {X : q_X} (hX : X.1 ≤ 1000000)   {r28 : Int → zt_S → Option (Int × zt_S)} (hr28 : ∀ (v5 : Int) (σ : zt_S) (o : (Int × zt_S)), r28 v5 σ = some o → zt_Ex X 54 351 28 [(0, .ref q_big), (1, .ref 0), (2, .ref 163), (3, .ref 184), (4, .ref 185), (5, .int (Int32.ofInt v5))] [] (zt_M σ) (zo_I o)) : ∀ (v5 : Int) (σ : zt_S) (o : (Int × zt_S)), F_L_law_942 X  r28 v5 σ = some o → zt_Ex X 54 351 942 [(0, .ref q_big), (1, .ref 0), (2, .ref 163), (3, .ref 184), (4, .ref 185), (5, .int (Int32.ofInt v5))] [] (zt_M σ) (zo_I o) := by
  intro v5 σ o  h
  unfold F_L_law_942 at h
  refine zt_aload_n zy_351 (show q_ins q_k351 942 = some (.aload_n 1, 0, 0) from rfl) (v := 0) rfl ?_
  obtain ⟨a73, s74, hca73, h⟩ := zt_bdE h
  refine zt_callV (d := 53) zy_351 (show q_ins q_k351 943 = some (.invokevirtual 176, 132, 0) from rfl) zy_132 (by decide) ⟨zq_lt (by decide), by decide⟩ rfl (by simp [Value.category]) (by simp [lg_sl, Value.category]) (zt_rcv zc_0) (zt_dm (by decide) (S_C_led hca73)) ?_
  refine zt_aload_n zy_351 (show q_ins q_k351 946 = some (.aload_n 2, 0, 0) from rfl) (v := 163) rfl ?_
  obtain ⟨a75, s76, hca75, h⟩ := zt_bdE h
  refine zt_callV (d := 53) zy_351 (show q_ins q_k351 947 = some (.invokevirtual 179, 244, 0) from rfl) zy_244 (by decide) ⟨zq_lt (by decide), by decide⟩ rfl (by simp [Value.category]) (by simp [lg_sl, Value.category]) (zt_rcv zc_163) (zt_dm (by decide) (S_M_led hca75)) ?_
  obtain ⟨hg, h⟩ := zt_ckE h
  refine zt_icmp_eq zy_351 (show q_ins q_k351 950 = some (.if_icmp .eq 1648, 2598, 0) from rfl) (⟨hg.1, hg.2⟩) (fun hc => ?_) (fun hc => ?_)
  · rw [if_pos hc] at h
    exact zt_wk (zt_cov_cons rfl (zt_cov_cons rfl (zt_cov_cons rfl (zt_cov_cons rfl (zt_cov_cons rfl (zt_cov_cons rfl (zt_cov_nil))))))) (S_L_law_2598 hX  hr28 _ _ _ h)
  · rw [if_neg hc] at h
    refine zt_iconst zy_351 (show q_ins q_k351 953 = some (.iconst 0, 0, 0) from rfl) ?_
    cases h
    exact zt_zret zy_351 (show q_ins q_k351 954 = some (.ireturn, 0, 0) from rfl) (by decide)
set_option maxRecDepth 100000 in
theorem S_L_law_955 {X : q_X} (hX : X.1 ≤ 1000000)   {r28 : Int → zt_S → Option (Int × zt_S)} (hr28 : ∀ (v5 : Int) (σ : zt_S) (o : (Int × zt_S)), r28 v5 σ = some o → zt_Ex X 54 351 28 [(0, .ref q_big), (1, .ref 0), (2, .ref 163), (3, .ref 184), (4, .ref 185), (5, .int (Int32.ofInt v5))] [] (zt_M σ) (zo_I o)) : ∀ (v5 : Int) (σ : zt_S) (o : (Int × zt_S)), F_L_law_955 X  r28 v5 σ = some o → zt_Ex X 54 351 955 [(0, .ref q_big), (1, .ref 0), (2, .ref 163), (3, .ref 184), (4, .ref 185), (5, .int (Int32.ofInt v5))] [] (zt_M σ) (zo_I o) := by
  intro v5 σ o  h
  unfold F_L_law_955 at h
  refine zt_aload_n zy_351 (show q_ins q_k351 955 = some (.aload_n 1, 0, 0) from rfl) (v := 0) rfl ?_
  obtain ⟨a77, s78, hca77, h⟩ := zt_bdE h
  refine zt_callV (d := 53) zy_351 (show q_ins q_k351 956 = some (.invokevirtual 180, 133, 0) from rfl) zy_133 (by decide) ⟨zq_lt (by decide), by decide⟩ rfl (by simp [Value.category]) (by simp [lg_sl, Value.category]) (zt_rcv zc_0) (zt_dm (by decide) (S_C_winning hca77)) ?_
  refine zt_aload_n zy_351 (show q_ins q_k351 959 = some (.aload_n 2, 0, 0) from rfl) (v := 163) rfl ?_
  obtain ⟨a79, s80, hca79, h⟩ := zt_bdE h
  refine zt_callV (d := 53) zy_351 (show q_ins q_k351 960 = some (.invokevirtual 183, 245, 0) from rfl) zy_245 (by decide) ⟨zq_lt (by decide), by decide⟩ rfl (by simp [Value.category]) (by simp [lg_sl, Value.category]) (zt_rcv zc_163) (zt_dm (by decide) (S_M_winning hca79)) ?_
  obtain ⟨hg, h⟩ := zt_ckE h
  refine zt_icmp_eq zy_351 (show q_ins q_k351 963 = some (.if_icmp .eq 1635, 2598, 0) from rfl) (⟨hg.1, hg.2⟩) (fun hc => ?_) (fun hc => ?_)
  · rw [if_pos hc] at h
    exact zt_wk (zt_cov_cons rfl (zt_cov_cons rfl (zt_cov_cons rfl (zt_cov_cons rfl (zt_cov_cons rfl (zt_cov_cons rfl (zt_cov_nil))))))) (S_L_law_2598 hX  hr28 _ _ _ h)
  · rw [if_neg hc] at h
    refine zt_iconst zy_351 (show q_ins q_k351 966 = some (.iconst 0, 0, 0) from rfl) ?_
    cases h
    exact zt_zret zy_351 (show q_ins q_k351 967 = some (.ireturn, 0, 0) from rfl) (by decide)
set_option maxRecDepth 100000 in
theorem S_L_law_1028 {X : q_X} (hX : X.1 ≤ 1000000)   {r28 : Int → zt_S → Option (Int × zt_S)} (hr28 : ∀ (v5 : Int) (σ : zt_S) (o : (Int × zt_S)), r28 v5 σ = some o → zt_Ex X 54 351 28 [(0, .ref q_big), (1, .ref 0), (2, .ref 163), (3, .ref 184), (4, .ref 185), (5, .int (Int32.ofInt v5))] [] (zt_M σ) (zo_I o)) : ∀ (v5 : Int) (σ : zt_S) (o : (Int × zt_S)), F_L_law_1028 X  r28 v5 σ = some o → zt_Ex X 54 351 1028 [(0, .ref q_big), (1, .ref 0), (2, .ref 163), (3, .ref 184), (4, .ref 185), (5, .int (Int32.ofInt v5))] [] (zt_M σ) (zo_I o) := by
  intro v5 σ o  h
  unfold F_L_law_1028 at h
  refine zt_goto zy_351 (show q_ins q_k351 1028 = some (.goto 1570, 2598, 0) from rfl) ?_
  exact zt_wk (zt_cov_cons rfl (zt_cov_cons rfl (zt_cov_cons rfl (zt_cov_cons rfl (zt_cov_cons rfl (zt_cov_cons rfl (zt_cov_nil))))))) (S_L_law_2598 hX  hr28 _ _ _ h)
set_option maxRecDepth 100000 in
theorem S_L_law_1022 {X : q_X} (hX : X.1 ≤ 1000000)   {r28 : Int → zt_S → Option (Int × zt_S)} (hr28 : ∀ (v5 : Int) (σ : zt_S) (o : (Int × zt_S)), r28 v5 σ = some o → zt_Ex X 54 351 28 [(0, .ref q_big), (1, .ref 0), (2, .ref 163), (3, .ref 184), (4, .ref 185), (5, .int (Int32.ofInt v5))] [] (zt_M σ) (zo_I o)) : ∀ (v5 : Int) (x0 : Int64) (x1 : Int64) (σ : zt_S) (o : (Int × zt_S)), F_L_law_1022 X  r28 v5 x0 x1 σ = some o → zt_Ex X 54 351 1022 [(0, .ref q_big), (1, .ref 0), (2, .ref 163), (3, .ref 184), (4, .ref 185), (5, .int (Int32.ofInt v5))] [.long x0, .long x1] (zt_M σ) (zo_I o) := by
  intro v5 x0 x1 σ o  h
  unfold F_L_law_1022 at h
  refine zt_lcmp zy_351 (show q_ins q_k351 1022 = some (.lcmp, 0, 0) from rfl) ?_
  refine zt_if_eq zy_351 (show q_ins q_k351 1023 = some (.ifCond .eq 5, 1028, 0) from rfl) (zt_inT _) (fun hc => ?_) (fun hc => ?_)
  · rw [if_pos hc] at h
    exact zt_wk (zt_cov_cons rfl (zt_cov_cons rfl (zt_cov_cons rfl (zt_cov_cons rfl (zt_cov_cons rfl (zt_cov_cons rfl (zt_cov_nil))))))) (S_L_law_1028 hX  hr28 _ _ _ h)
  · rw [if_neg hc] at h
    refine zt_iconst zy_351 (show q_ins q_k351 1026 = some (.iconst 0, 0, 0) from rfl) ?_
    cases h
    exact zt_zret zy_351 (show q_ins q_k351 1027 = some (.ireturn, 0, 0) from rfl) (by decide)
set_option maxRecDepth 100000 in
theorem S_L_law_968 {X : q_X} (hX : X.1 ≤ 1000000)   {r28 : Int → zt_S → Option (Int × zt_S)} (hr28 : ∀ (v5 : Int) (σ : zt_S) (o : (Int × zt_S)), r28 v5 σ = some o → zt_Ex X 54 351 28 [(0, .ref q_big), (1, .ref 0), (2, .ref 163), (3, .ref 184), (4, .ref 185), (5, .int (Int32.ofInt v5))] [] (zt_M σ) (zo_I o)) : ∀ (v5 : Int) (σ : zt_S) (o : (Int × zt_S)), F_L_law_968 X  r28 v5 σ = some o → zt_Ex X 54 351 968 [(0, .ref q_big), (1, .ref 0), (2, .ref 163), (3, .ref 184), (4, .ref 185), (5, .int (Int32.ofInt v5))] [] (zt_M σ) (zo_I o) := by
  intro v5 σ o  h
  unfold F_L_law_968 at h
  refine zt_aload_n zy_351 (show q_ins q_k351 968 = some (.aload_n 1, 0, 0) from rfl) (v := 0) rfl ?_
  refine zt_aload_n zy_351 (show q_ins q_k351 969 = some (.aload_n 0, 0, 0) from rfl) (v := q_big) rfl ?_
  refine zt_iload zy_351 (show q_ins q_k351 970 = some (.iload 5, 0, 0) from rfl) (v := Int32.ofInt v5) rfl ?_
  refine zt_iconst zy_351 (show q_ins q_k351 972 = some (.iconst 1, 0, 0) from rfl) ?_
  refine zt_iadd zy_351 (show q_ins q_k351 973 = some (.iadd, 0, 0) from rfl) ?_
  obtain ⟨hg, h⟩ := zt_ckE h
  refine zt_sld zy_351 (show q_ins q_k351 974 = some (.iaload, 0, 0) from rfl) hg hX ?_
  refine zt_aload_n zy_351 (show q_ins q_k351 975 = some (.aload_n 3, 0, 0) from rfl) (v := 184) rfl ?_
  obtain ⟨a81, s82, hca81, h⟩ := zt_bdE h
  refine zt_callS (d := 53) zy_351 (show q_ins q_k351 976 = some (.invokestatic 184, 327, 3) from rfl) zy_327 (by decide) ⟨zq_lt (by decide), by decide⟩ rfl (by simp [Value.category]) (by simp [lg_sl, Value.category]) rfl (zt_dm (by decide) (S_L_wouldLead hca81)) ?_
  refine zt_istore zy_351 (show q_ins q_k351 979 = some (.istore 6, 0, 0) from rfl) (by decide) ?_
  refine zt_aload_n zy_351 (show q_ins q_k351 981 = some (.aload_n 2, 0, 0) from rfl) (v := 163) rfl ?_
  refine zt_aload_n zy_351 (show q_ins q_k351 982 = some (.aload_n 0, 0, 0) from rfl) (v := q_big) rfl ?_
  refine zt_iload zy_351 (show q_ins q_k351 983 = some (.iload 5, 0, 0) from rfl) (v := Int32.ofInt v5) rfl ?_
  refine zt_iconst zy_351 (show q_ins q_k351 985 = some (.iconst 1, 0, 0) from rfl) ?_
  refine zt_iadd zy_351 (show q_ins q_k351 986 = some (.iadd, 0, 0) from rfl) ?_
  obtain ⟨hg, h⟩ := zt_ckE h
  refine zt_sld zy_351 (show q_ins q_k351 987 = some (.iaload, 0, 0) from rfl) hg hX ?_
  obtain ⟨a83, s84, hca83, h⟩ := zt_bdE h
  refine zt_callV (d := 53) zy_351 (show q_ins q_k351 988 = some (.invokevirtual 186, 246, 1) from rfl) zy_246 (by decide) ⟨zq_lt (by decide), by decide⟩ rfl (by simp [Value.category]) (by simp [lg_sl, Value.category]) (zt_rcv zc_163) (zt_dm (by decide) (S_M_wouldLead hca83)) ?_
  refine zt_istore zy_351 (show q_ins q_k351 991 = some (.istore 7, 0, 0) from rfl) (by decide) ?_
  refine zt_aload_n zy_351 (show q_ins q_k351 993 = some (.aload_n 2, 0, 0) from rfl) (v := 163) rfl ?_
  obtain ⟨a85, s86, hca85, h⟩ := zt_bdE h
  refine zt_callV (d := 53) zy_351 (show q_ins q_k351 994 = some (.invokevirtual 136, 170, 0) from rfl) zy_170 (by decide) ⟨zq_lt (by decide), by decide⟩ rfl (by simp [Value.category]) (by simp [lg_sl, Value.category]) (zt_rcv zc_163) (zt_dm (by decide) (S_M_thrown hca85)) ?_
  refine zt_iload zy_351 (show q_ins q_k351 997 = some (.iload 6, 0, 0) from rfl) (v := Int32.ofInt a81) rfl ?_
  obtain ⟨hg, h⟩ := zt_ckE h
  refine zt_icmp_eq zy_351 (show q_ins q_k351 999 = some (.if_icmp .eq 5, 1004, 0) from rfl) (⟨hg.1, hg.2⟩) (fun hc => ?_) (fun hc => ?_)
  · rw [if_pos hc] at h
    refine zt_iload zy_351 (show q_ins q_k351 1004 = some (.iload 6, 0, 0) from rfl) (v := Int32.ofInt a81) rfl ?_
    obtain ⟨hg, h⟩ := zt_ckE h
    refine zt_if_ne zy_351 (show q_ins q_k351 1006 = some (.ifCond .ne 22, 1028, 0) from rfl) (hg) (fun hc => ?_) (fun hc => ?_)
    · rw [if_pos hc] at h
      refine zt_aload_n zy_351 (show q_ins q_k351 1009 = some (.aload_n 3, 0, 0) from rfl) (v := 184) rfl ?_
      refine zt_iconst zy_351 (show q_ins q_k351 1010 = some (.iconst 0, 0, 0) from rfl) ?_
      refine zt_lld zy_351 (show q_ins q_k351 1011 = some (.laload, 0, 0) from rfl) za_184 (by decide) (by decide) ?_
      refine zt_iload zy_351 (show q_ins q_k351 1012 = some (.iload 7, 0, 0) from rfl) (v := Int32.ofInt a83) rfl ?_
      obtain ⟨hg, h⟩ := zt_ckE h
      refine zt_if_eq zy_351 (show q_ins q_k351 1014 = some (.ifCond .eq 7, 1021, 0) from rfl) (hg) (fun hc => ?_) (fun hc => ?_)
      · rw [if_pos hc] at h
        refine zt_lconst zy_351 (show q_ins q_k351 1021 = some (.lconst 0, 0, 0) from rfl) (v := (0 : Int64)) (by decide) ?_
        exact zt_wk (zt_cov_cons rfl (zt_cov_cons rfl (zt_cov_cons rfl (zt_cov_cons rfl (zt_cov_cons rfl (zt_cov_cons rfl (zt_cov_nil))))))) (S_L_law_1022 hX  hr28 _ _ _ _ _ h)
      · rw [if_neg hc] at h
        refine zt_lconst zy_351 (show q_ins q_k351 1017 = some (.lconst 1, 0, 0) from rfl) (v := (1 : Int64)) (by decide) ?_
        refine zt_goto zy_351 (show q_ins q_k351 1018 = some (.goto 4, 1022, 0) from rfl) ?_
        exact zt_wk (zt_cov_cons rfl (zt_cov_cons rfl (zt_cov_cons rfl (zt_cov_cons rfl (zt_cov_cons rfl (zt_cov_cons rfl (zt_cov_nil))))))) (S_L_law_1022 hX  hr28 _ _ _ _ _ h)
    · rw [if_neg hc] at h
      exact zt_wk (zt_cov_cons rfl (zt_cov_cons rfl (zt_cov_cons rfl (zt_cov_cons rfl (zt_cov_cons rfl (zt_cov_cons rfl (zt_cov_nil))))))) (S_L_law_1028 hX  hr28 _ _ _ h)
  · rw [if_neg hc] at h
    refine zt_iconst zy_351 (show q_ins q_k351 1002 = some (.iconst 0, 0, 0) from rfl) ?_
    cases h
    exact zt_zret zy_351 (show q_ins q_k351 1003 = some (.ireturn, 0, 0) from rfl) (by decide)
set_option maxRecDepth 100000 in
theorem S_L_law_1096 {X : q_X} (hX : X.1 ≤ 1000000)   {r28 : Int → zt_S → Option (Int × zt_S)} (hr28 : ∀ (v5 : Int) (σ : zt_S) (o : (Int × zt_S)), r28 v5 σ = some o → zt_Ex X 54 351 28 [(0, .ref q_big), (1, .ref 0), (2, .ref 163), (3, .ref 184), (4, .ref 185), (5, .int (Int32.ofInt v5))] [] (zt_M σ) (zo_I o)) : ∀ (v5 : Int) (σ : zt_S) (o : (Int × zt_S)), F_L_law_1096 X  r28 v5 σ = some o → zt_Ex X 54 351 1096 [(0, .ref q_big), (1, .ref 0), (2, .ref 163), (3, .ref 184), (4, .ref 185), (5, .int (Int32.ofInt v5))] [] (zt_M σ) (zo_I o) := by
  intro v5 σ o  h
  unfold F_L_law_1096 at h
  refine zt_goto zy_351 (show q_ins q_k351 1096 = some (.goto 1502, 2598, 0) from rfl) ?_
  exact zt_wk (zt_cov_cons rfl (zt_cov_cons rfl (zt_cov_cons rfl (zt_cov_cons rfl (zt_cov_cons rfl (zt_cov_cons rfl (zt_cov_nil))))))) (S_L_law_2598 hX  hr28 _ _ _ h)
set_option maxRecDepth 100000 in
theorem S_L_law_1031 {X : q_X} (hX : X.1 ≤ 1000000)   {r28 : Int → zt_S → Option (Int × zt_S)} (hr28 : ∀ (v5 : Int) (σ : zt_S) (o : (Int × zt_S)), r28 v5 σ = some o → zt_Ex X 54 351 28 [(0, .ref q_big), (1, .ref 0), (2, .ref 163), (3, .ref 184), (4, .ref 185), (5, .int (Int32.ofInt v5))] [] (zt_M σ) (zo_I o)) : ∀ (v5 : Int) (σ : zt_S) (o : (Int × zt_S)), F_L_law_1031 X  r28 v5 σ = some o → zt_Ex X 54 351 1031 [(0, .ref q_big), (1, .ref 0), (2, .ref 163), (3, .ref 184), (4, .ref 185), (5, .int (Int32.ofInt v5))] [] (zt_M σ) (zo_I o) := by
  intro v5 σ o  h
  unfold F_L_law_1031 at h
  refine zt_aload_n zy_351 (show q_ins q_k351 1031 = some (.aload_n 1, 0, 0) from rfl) (v := 0) rfl ?_
  refine zt_aload_n zy_351 (show q_ins q_k351 1032 = some (.aload_n 0, 0, 0) from rfl) (v := q_big) rfl ?_
  refine zt_iload zy_351 (show q_ins q_k351 1033 = some (.iload 5, 0, 0) from rfl) (v := Int32.ofInt v5) rfl ?_
  refine zt_iconst zy_351 (show q_ins q_k351 1035 = some (.iconst 1, 0, 0) from rfl) ?_
  refine zt_iadd zy_351 (show q_ins q_k351 1036 = some (.iadd, 0, 0) from rfl) ?_
  obtain ⟨hg, h⟩ := zt_ckE h
  refine zt_sld zy_351 (show q_ins q_k351 1037 = some (.iaload, 0, 0) from rfl) hg hX ?_
  refine zt_aload_n zy_351 (show q_ins q_k351 1038 = some (.aload_n 0, 0, 0) from rfl) (v := q_big) rfl ?_
  refine zt_iload zy_351 (show q_ins q_k351 1039 = some (.iload 5, 0, 0) from rfl) (v := Int32.ofInt v5) rfl ?_
  refine zt_iconst zy_351 (show q_ins q_k351 1041 = some (.iconst 2, 0, 0) from rfl) ?_
  refine zt_iadd zy_351 (show q_ins q_k351 1042 = some (.iadd, 0, 0) from rfl) ?_
  obtain ⟨hg, h⟩ := zt_ckE h
  refine zt_sld zy_351 (show q_ins q_k351 1043 = some (.iaload, 0, 0) from rfl) hg hX ?_
  refine zt_aload_n zy_351 (show q_ins q_k351 1044 = some (.aload_n 3, 0, 0) from rfl) (v := 184) rfl ?_
  obtain ⟨a87, s88, hca87, h⟩ := zt_bdE h
  refine zt_callS (d := 53) zy_351 (show q_ins q_k351 1045 = some (.invokestatic 187, 328, 4) from rfl) zy_328 (by decide) ⟨zq_lt (by decide), by decide⟩ rfl (by simp [Value.category]) (by simp [lg_sl, Value.category]) rfl (zt_dm (by decide) (S_L_played hca87)) ?_
  refine zt_istore zy_351 (show q_ins q_k351 1048 = some (.istore 6, 0, 0) from rfl) (by decide) ?_
  refine zt_aload_n zy_351 (show q_ins q_k351 1050 = some (.aload_n 2, 0, 0) from rfl) (v := 163) rfl ?_
  refine zt_aload_n zy_351 (show q_ins q_k351 1051 = some (.aload_n 0, 0, 0) from rfl) (v := q_big) rfl ?_
  refine zt_iload zy_351 (show q_ins q_k351 1052 = some (.iload 5, 0, 0) from rfl) (v := Int32.ofInt v5) rfl ?_
  refine zt_iconst zy_351 (show q_ins q_k351 1054 = some (.iconst 1, 0, 0) from rfl) ?_
  refine zt_iadd zy_351 (show q_ins q_k351 1055 = some (.iadd, 0, 0) from rfl) ?_
  obtain ⟨hg, h⟩ := zt_ckE h
  refine zt_sld zy_351 (show q_ins q_k351 1056 = some (.iaload, 0, 0) from rfl) hg hX ?_
  refine zt_aload_n zy_351 (show q_ins q_k351 1057 = some (.aload_n 0, 0, 0) from rfl) (v := q_big) rfl ?_
  refine zt_iload zy_351 (show q_ins q_k351 1058 = some (.iload 5, 0, 0) from rfl) (v := Int32.ofInt v5) rfl ?_
  refine zt_iconst zy_351 (show q_ins q_k351 1060 = some (.iconst 2, 0, 0) from rfl) ?_
  refine zt_iadd zy_351 (show q_ins q_k351 1061 = some (.iadd, 0, 0) from rfl) ?_
  obtain ⟨hg, h⟩ := zt_ckE h
  refine zt_sld zy_351 (show q_ins q_k351 1062 = some (.iaload, 0, 0) from rfl) hg hX ?_
  obtain ⟨a89, s90, hca89, h⟩ := zt_bdE h
  refine zt_callV (d := 53) zy_351 (show q_ins q_k351 1063 = some (.invokevirtual 189, 247, 2) from rfl) zy_247 (by decide) ⟨zq_lt (by decide), by decide⟩ rfl (by simp [Value.category]) (by simp [lg_sl, Value.category]) (zt_rcv zc_163) (zt_dm (by decide) (S_M_played hca89)) ?_
  refine zt_istore zy_351 (show q_ins q_k351 1066 = some (.istore 7, 0, 0) from rfl) (by decide) ?_
  refine zt_aload_n zy_351 (show q_ins q_k351 1068 = some (.aload_n 2, 0, 0) from rfl) (v := 163) rfl ?_
  obtain ⟨a91, s92, hca91, h⟩ := zt_bdE h
  refine zt_callV (d := 53) zy_351 (show q_ins q_k351 1069 = some (.invokevirtual 136, 170, 0) from rfl) zy_170 (by decide) ⟨zq_lt (by decide), by decide⟩ rfl (by simp [Value.category]) (by simp [lg_sl, Value.category]) (zt_rcv zc_163) (zt_dm (by decide) (S_M_thrown hca91)) ?_
  refine zt_iload zy_351 (show q_ins q_k351 1072 = some (.iload 6, 0, 0) from rfl) (v := Int32.ofInt a87) rfl ?_
  obtain ⟨hg, h⟩ := zt_ckE h
  refine zt_icmp_eq zy_351 (show q_ins q_k351 1074 = some (.if_icmp .eq 5, 1079, 0) from rfl) (⟨hg.1, hg.2⟩) (fun hc => ?_) (fun hc => ?_)
  · rw [if_pos hc] at h
    refine zt_iload zy_351 (show q_ins q_k351 1079 = some (.iload 6, 0, 0) from rfl) (v := Int32.ofInt a87) rfl ?_
    obtain ⟨hg, h⟩ := zt_ckE h
    refine zt_if_ne zy_351 (show q_ins q_k351 1081 = some (.ifCond .ne 15, 1096, 0) from rfl) (hg) (fun hc => ?_) (fun hc => ?_)
    · rw [if_pos hc] at h
      refine zt_aload_n zy_351 (show q_ins q_k351 1084 = some (.aload_n 3, 0, 0) from rfl) (v := 184) rfl ?_
      refine zt_iconst zy_351 (show q_ins q_k351 1085 = some (.iconst 0, 0, 0) from rfl) ?_
      refine zt_lld zy_351 (show q_ins q_k351 1086 = some (.laload, 0, 0) from rfl) za_184 (by decide) (by decide) ?_
      refine zt_iload zy_351 (show q_ins q_k351 1087 = some (.iload 7, 0, 0) from rfl) (v := Int32.ofInt a89) rfl ?_
      refine zt_i2l zy_351 (show q_ins q_k351 1089 = some (.i2l, 0, 0) from rfl) ?_
      refine zt_lcmp zy_351 (show q_ins q_k351 1090 = some (.lcmp, 0, 0) from rfl) ?_
      refine zt_if_eq zy_351 (show q_ins q_k351 1091 = some (.ifCond .eq 5, 1096, 0) from rfl) (zt_inT _) (fun hc => ?_) (fun hc => ?_)
      · rw [if_pos hc] at h
        exact zt_wk (zt_cov_cons rfl (zt_cov_cons rfl (zt_cov_cons rfl (zt_cov_cons rfl (zt_cov_cons rfl (zt_cov_cons rfl (zt_cov_nil))))))) (S_L_law_1096 hX  hr28 _ _ _ h)
      · rw [if_neg hc] at h
        refine zt_iconst zy_351 (show q_ins q_k351 1094 = some (.iconst 0, 0, 0) from rfl) ?_
        cases h
        exact zt_zret zy_351 (show q_ins q_k351 1095 = some (.ireturn, 0, 0) from rfl) (by decide)
    · rw [if_neg hc] at h
      exact zt_wk (zt_cov_cons rfl (zt_cov_cons rfl (zt_cov_cons rfl (zt_cov_cons rfl (zt_cov_cons rfl (zt_cov_cons rfl (zt_cov_nil))))))) (S_L_law_1096 hX  hr28 _ _ _ h)
  · rw [if_neg hc] at h
    refine zt_iconst zy_351 (show q_ins q_k351 1077 = some (.iconst 0, 0, 0) from rfl) ?_
    cases h
    exact zt_zret zy_351 (show q_ins q_k351 1078 = some (.ireturn, 0, 0) from rfl) (by decide)
set_option maxRecDepth 100000 in
theorem S_L_law_1164 {X : q_X} (hX : X.1 ≤ 1000000)   {r28 : Int → zt_S → Option (Int × zt_S)} (hr28 : ∀ (v5 : Int) (σ : zt_S) (o : (Int × zt_S)), r28 v5 σ = some o → zt_Ex X 54 351 28 [(0, .ref q_big), (1, .ref 0), (2, .ref 163), (3, .ref 184), (4, .ref 185), (5, .int (Int32.ofInt v5))] [] (zt_M σ) (zo_I o)) : ∀ (v5 : Int) (σ : zt_S) (o : (Int × zt_S)), F_L_law_1164 X  r28 v5 σ = some o → zt_Ex X 54 351 1164 [(0, .ref q_big), (1, .ref 0), (2, .ref 163), (3, .ref 184), (4, .ref 185), (5, .int (Int32.ofInt v5))] [] (zt_M σ) (zo_I o) := by
  intro v5 σ o  h
  unfold F_L_law_1164 at h
  refine zt_goto zy_351 (show q_ins q_k351 1164 = some (.goto 1434, 2598, 0) from rfl) ?_
  exact zt_wk (zt_cov_cons rfl (zt_cov_cons rfl (zt_cov_cons rfl (zt_cov_cons rfl (zt_cov_cons rfl (zt_cov_cons rfl (zt_cov_nil))))))) (S_L_law_2598 hX  hr28 _ _ _ h)
set_option maxRecDepth 100000 in
theorem S_L_law_1099 {X : q_X} (hX : X.1 ≤ 1000000)   {r28 : Int → zt_S → Option (Int × zt_S)} (hr28 : ∀ (v5 : Int) (σ : zt_S) (o : (Int × zt_S)), r28 v5 σ = some o → zt_Ex X 54 351 28 [(0, .ref q_big), (1, .ref 0), (2, .ref 163), (3, .ref 184), (4, .ref 185), (5, .int (Int32.ofInt v5))] [] (zt_M σ) (zo_I o)) : ∀ (v5 : Int) (σ : zt_S) (o : (Int × zt_S)), F_L_law_1099 X  r28 v5 σ = some o → zt_Ex X 54 351 1099 [(0, .ref q_big), (1, .ref 0), (2, .ref 163), (3, .ref 184), (4, .ref 185), (5, .int (Int32.ofInt v5))] [] (zt_M σ) (zo_I o) := by
  intro v5 σ o  h
  unfold F_L_law_1099 at h
  refine zt_aload_n zy_351 (show q_ins q_k351 1099 = some (.aload_n 1, 0, 0) from rfl) (v := 0) rfl ?_
  refine zt_aload_n zy_351 (show q_ins q_k351 1100 = some (.aload_n 0, 0, 0) from rfl) (v := q_big) rfl ?_
  refine zt_iload zy_351 (show q_ins q_k351 1101 = some (.iload 5, 0, 0) from rfl) (v := Int32.ofInt v5) rfl ?_
  refine zt_iconst zy_351 (show q_ins q_k351 1103 = some (.iconst 1, 0, 0) from rfl) ?_
  refine zt_iadd zy_351 (show q_ins q_k351 1104 = some (.iadd, 0, 0) from rfl) ?_
  obtain ⟨hg, h⟩ := zt_ckE h
  refine zt_sld zy_351 (show q_ins q_k351 1105 = some (.iaload, 0, 0) from rfl) hg hX ?_
  refine zt_aload_n zy_351 (show q_ins q_k351 1106 = some (.aload_n 0, 0, 0) from rfl) (v := q_big) rfl ?_
  refine zt_iload zy_351 (show q_ins q_k351 1107 = some (.iload 5, 0, 0) from rfl) (v := Int32.ofInt v5) rfl ?_
  refine zt_iconst zy_351 (show q_ins q_k351 1109 = some (.iconst 2, 0, 0) from rfl) ?_
  refine zt_iadd zy_351 (show q_ins q_k351 1110 = some (.iadd, 0, 0) from rfl) ?_
  obtain ⟨hg, h⟩ := zt_ckE h
  refine zt_sld zy_351 (show q_ins q_k351 1111 = some (.iaload, 0, 0) from rfl) hg hX ?_
  refine zt_aload_n zy_351 (show q_ins q_k351 1112 = some (.aload_n 3, 0, 0) from rfl) (v := 184) rfl ?_
  obtain ⟨a93, s94, hca93, h⟩ := zt_bdE h
  refine zt_callS (d := 53) zy_351 (show q_ins q_k351 1113 = some (.invokestatic 190, 329, 4) from rfl) zy_329 (by decide) ⟨zq_lt (by decide), by decide⟩ rfl (by simp [Value.category]) (by simp [lg_sl, Value.category]) rfl (zt_dm (by decide) (S_L_trick hca93)) ?_
  refine zt_istore zy_351 (show q_ins q_k351 1116 = some (.istore 6, 0, 0) from rfl) (by decide) ?_
  refine zt_aload_n zy_351 (show q_ins q_k351 1118 = some (.aload_n 2, 0, 0) from rfl) (v := 163) rfl ?_
  refine zt_aload_n zy_351 (show q_ins q_k351 1119 = some (.aload_n 0, 0, 0) from rfl) (v := q_big) rfl ?_
  refine zt_iload zy_351 (show q_ins q_k351 1120 = some (.iload 5, 0, 0) from rfl) (v := Int32.ofInt v5) rfl ?_
  refine zt_iconst zy_351 (show q_ins q_k351 1122 = some (.iconst 1, 0, 0) from rfl) ?_
  refine zt_iadd zy_351 (show q_ins q_k351 1123 = some (.iadd, 0, 0) from rfl) ?_
  obtain ⟨hg, h⟩ := zt_ckE h
  refine zt_sld zy_351 (show q_ins q_k351 1124 = some (.iaload, 0, 0) from rfl) hg hX ?_
  refine zt_aload_n zy_351 (show q_ins q_k351 1125 = some (.aload_n 0, 0, 0) from rfl) (v := q_big) rfl ?_
  refine zt_iload zy_351 (show q_ins q_k351 1126 = some (.iload 5, 0, 0) from rfl) (v := Int32.ofInt v5) rfl ?_
  refine zt_iconst zy_351 (show q_ins q_k351 1128 = some (.iconst 2, 0, 0) from rfl) ?_
  refine zt_iadd zy_351 (show q_ins q_k351 1129 = some (.iadd, 0, 0) from rfl) ?_
  obtain ⟨hg, h⟩ := zt_ckE h
  refine zt_sld zy_351 (show q_ins q_k351 1130 = some (.iaload, 0, 0) from rfl) hg hX ?_
  obtain ⟨a95, s96, hca95, h⟩ := zt_bdE h
  refine zt_callV (d := 53) zy_351 (show q_ins q_k351 1131 = some (.invokevirtual 192, 248, 2) from rfl) zy_248 (by decide) ⟨zq_lt (by decide), by decide⟩ rfl (by simp [Value.category]) (by simp [lg_sl, Value.category]) (zt_rcv zc_163) (zt_dm (by decide) (S_M_trick hca95)) ?_
  refine zt_istore zy_351 (show q_ins q_k351 1134 = some (.istore 7, 0, 0) from rfl) (by decide) ?_
  refine zt_aload_n zy_351 (show q_ins q_k351 1136 = some (.aload_n 2, 0, 0) from rfl) (v := 163) rfl ?_
  obtain ⟨a97, s98, hca97, h⟩ := zt_bdE h
  refine zt_callV (d := 53) zy_351 (show q_ins q_k351 1137 = some (.invokevirtual 136, 170, 0) from rfl) zy_170 (by decide) ⟨zq_lt (by decide), by decide⟩ rfl (by simp [Value.category]) (by simp [lg_sl, Value.category]) (zt_rcv zc_163) (zt_dm (by decide) (S_M_thrown hca97)) ?_
  refine zt_iload zy_351 (show q_ins q_k351 1140 = some (.iload 6, 0, 0) from rfl) (v := Int32.ofInt a93) rfl ?_
  obtain ⟨hg, h⟩ := zt_ckE h
  refine zt_icmp_eq zy_351 (show q_ins q_k351 1142 = some (.if_icmp .eq 5, 1147, 0) from rfl) (⟨hg.1, hg.2⟩) (fun hc => ?_) (fun hc => ?_)
  · rw [if_pos hc] at h
    refine zt_iload zy_351 (show q_ins q_k351 1147 = some (.iload 6, 0, 0) from rfl) (v := Int32.ofInt a93) rfl ?_
    obtain ⟨hg, h⟩ := zt_ckE h
    refine zt_if_ne zy_351 (show q_ins q_k351 1149 = some (.ifCond .ne 15, 1164, 0) from rfl) (hg) (fun hc => ?_) (fun hc => ?_)
    · rw [if_pos hc] at h
      refine zt_aload_n zy_351 (show q_ins q_k351 1152 = some (.aload_n 3, 0, 0) from rfl) (v := 184) rfl ?_
      refine zt_iconst zy_351 (show q_ins q_k351 1153 = some (.iconst 0, 0, 0) from rfl) ?_
      refine zt_lld zy_351 (show q_ins q_k351 1154 = some (.laload, 0, 0) from rfl) za_184 (by decide) (by decide) ?_
      refine zt_iload zy_351 (show q_ins q_k351 1155 = some (.iload 7, 0, 0) from rfl) (v := Int32.ofInt a95) rfl ?_
      refine zt_i2l zy_351 (show q_ins q_k351 1157 = some (.i2l, 0, 0) from rfl) ?_
      refine zt_lcmp zy_351 (show q_ins q_k351 1158 = some (.lcmp, 0, 0) from rfl) ?_
      refine zt_if_eq zy_351 (show q_ins q_k351 1159 = some (.ifCond .eq 5, 1164, 0) from rfl) (zt_inT _) (fun hc => ?_) (fun hc => ?_)
      · rw [if_pos hc] at h
        exact zt_wk (zt_cov_cons rfl (zt_cov_cons rfl (zt_cov_cons rfl (zt_cov_cons rfl (zt_cov_cons rfl (zt_cov_cons rfl (zt_cov_nil))))))) (S_L_law_1164 hX  hr28 _ _ _ h)
      · rw [if_neg hc] at h
        refine zt_iconst zy_351 (show q_ins q_k351 1162 = some (.iconst 0, 0, 0) from rfl) ?_
        cases h
        exact zt_zret zy_351 (show q_ins q_k351 1163 = some (.ireturn, 0, 0) from rfl) (by decide)
    · rw [if_neg hc] at h
      exact zt_wk (zt_cov_cons rfl (zt_cov_cons rfl (zt_cov_cons rfl (zt_cov_cons rfl (zt_cov_cons rfl (zt_cov_cons rfl (zt_cov_nil))))))) (S_L_law_1164 hX  hr28 _ _ _ h)
  · rw [if_neg hc] at h
    refine zt_iconst zy_351 (show q_ins q_k351 1145 = some (.iconst 0, 0, 0) from rfl) ?_
    cases h
    exact zt_zret zy_351 (show q_ins q_k351 1146 = some (.ireturn, 0, 0) from rfl) (by decide)
