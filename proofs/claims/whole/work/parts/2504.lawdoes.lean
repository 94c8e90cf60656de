/-! the mini-machine does what the law's function says (by program) -/
set_option maxRecDepth 100000 in
set_option maxHeartbeats 20000000 in
theorem S_L_law_28 {X : q_X} (hX : X.1 ≤ 1000000)   : ∀ (n : Nat) (v5 : Int) (σ : zt_S) (o : (Int × zt_S)), F_L_law_28 X  n v5 σ = some o → zt_Ex X 54 351 28 [(0, .ref q_big), (1, .ref 0), (2, .ref 163), (3, .ref 184), (4, .ref 185), (5, .int (Int32.ofInt v5))] [] (zt_M σ) (zo_I o) := by
  intro n
  induction n with
  | zero => intro v5 σ o  h; cases h
  | succ n ih =>
  intro v5 σ o  h
  rw [F_L_law_28] at h
  refine zt_iload zy_351 (show q_ins q_k351 28 = some (.iload 5, 0, 0) from rfl) (v := Int32.ofInt v5) rfl ?_
  refine zt_aload_n zy_351 (show q_ins q_k351 30 = some (.aload_n 0, 0, 0) from rfl) (v := q_big) rfl ?_
  refine zt_slen zy_351 (show q_ins q_k351 31 = some (.arraylength, 0, 0) from rfl) ?_
  refine zt_bipush zy_351 (show q_ins q_k351 32 = some (.bipush 6, 0, 0) from rfl) (by decide) ?_
  refine zt_isub zy_351 (show q_ins q_k351 34 = some (.isub, 0, 0) from rfl) ?_
  obtain ⟨hg, h⟩ := zt_ckE h
  refine zt_icmp_gt zy_351 (show q_ins q_k351 35 = some (.if_icmp .gt 2569, 2604, 0) from rfl) (⟨hg.1, hg.2⟩) (fun hc => ?_) (fun hc => ?_)
  · rw [if_pos hc] at h
    refine zt_iconst zy_351 (show q_ins q_k351 2604 = some (.iconst 1, 0, 0) from rfl) ?_
    cases h
    exact zt_zret zy_351 (show q_ins q_k351 2605 = some (.ireturn, 0, 0) from rfl) (by decide)
  · rw [if_neg hc] at h
    refine zt_aload_n zy_351 (show q_ins q_k351 38 = some (.aload_n 0, 0, 0) from rfl) (v := q_big) rfl ?_
    refine zt_iload zy_351 (show q_ins q_k351 39 = some (.iload 5, 0, 0) from rfl) (v := Int32.ofInt v5) rfl ?_
    obtain ⟨hg, h⟩ := zt_ckE h
    refine zt_sld zy_351 (show q_ins q_k351 41 = some (.iaload, 0, 0) from rfl) hg hX ?_
    refine zt_bipush zy_351 (show q_ins q_k351 42 = some (.bipush 63, 0, 0) from rfl) (by decide) ?_
    refine zt_iand zy_351 (show q_ins q_k351 44 = some (.iand, 0, 0) from rfl) ?_
    by_cases hc0 : (zt_and (zt_x X v5) (63 : Int)) = (0 : Int)
    · rw [if_pos hc0] at h
      refine zt_sw zy_351 (show q_ins q_k351 45 = some (.tableswitch 2553 0 47 #[207, 280, 336, 349, 405, 461, 517, 573, 629, 697, 765, 828, 841, 897, 910, 923, 986, 1054, 1122, 1178, 1234, 1290, 1346, 1402, 1477, 1552, 1608, 1671, 1727, 1740, 1753, 1766, 1843, 1921, 1977, 2033, 2101, 2157, 2213, 2269, 2325, 2366, 2422, 2447, 2460, 2473, 2484, 2497], 0, 207) from rfl) hc0 (t := 252) (by decide) ?_
      exact zt_wk (zt_cov_cons rfl (zt_cov_cons rfl (zt_cov_cons rfl (zt_cov_cons rfl (zt_cov_cons rfl (zt_cov_cons rfl (zt_cov_nil))))))) (S_L_law_252 hX  ih _ _ _ h)
    rw [if_neg hc0] at h
    by_cases hc1 : (zt_and (zt_x X v5) (63 : Int)) = (1 : Int)
    · rw [if_pos hc1] at h
      refine zt_sw zy_351 (show q_ins q_k351 45 = some (.tableswitch 2553 0 47 #[207, 280, 336, 349, 405, 461, 517, 573, 629, 697, 765, 828, 841, 897, 910, 923, 986, 1054, 1122, 1178, 1234, 1290, 1346, 1402, 1477, 1552, 1608, 1671, 1727, 1740, 1753, 1766, 1843, 1921, 1977, 2033, 2101, 2157, 2213, 2269, 2325, 2366, 2422, 2447, 2460, 2473, 2484, 2497], 0, 207) from rfl) hc1 (t := 325) (by decide) ?_
      exact zt_wk (zt_cov_cons rfl (zt_cov_cons rfl (zt_cov_cons rfl (zt_cov_cons rfl (zt_cov_cons rfl (zt_cov_cons rfl (zt_cov_nil))))))) (S_L_law_325 hX  ih _ _ _ h)
    rw [if_neg hc1] at h
    by_cases hc2 : (zt_and (zt_x X v5) (63 : Int)) = (2 : Int)
    · rw [if_pos hc2] at h
      refine zt_sw zy_351 (show q_ins q_k351 45 = some (.tableswitch 2553 0 47 #[207, 280, 336, 349, 405, 461, 517, 573, 629, 697, 765, 828, 841, 897, 910, 923, 986, 1054, 1122, 1178, 1234, 1290, 1346, 1402, 1477, 1552, 1608, 1671, 1727, 1740, 1753, 1766, 1843, 1921, 1977, 2033, 2101, 2157, 2213, 2269, 2325, 2366, 2422, 2447, 2460, 2473, 2484, 2497], 0, 207) from rfl) hc2 (t := 381) (by decide) ?_
      exact zt_wk (zt_cov_cons rfl (zt_cov_cons rfl (zt_cov_cons rfl (zt_cov_cons rfl (zt_cov_cons rfl (zt_cov_cons rfl (zt_cov_nil))))))) (S_L_law_381 hX  ih _ _ _ h)
    rw [if_neg hc2] at h
    by_cases hc3 : (zt_and (zt_x X v5) (63 : Int)) = (3 : Int)
    · rw [if_pos hc3] at h
      refine zt_sw zy_351 (show q_ins q_k351 45 = some (.tableswitch 2553 0 47 #[207, 280, 336, 349, 405, 461, 517, 573, 629, 697, 765, 828, 841, 897, 910, 923, 986, 1054, 1122, 1178, 1234, 1290, 1346, 1402, 1477, 1552, 1608, 1671, 1727, 1740, 1753, 1766, 1843, 1921, 1977, 2033, 2101, 2157, 2213, 2269, 2325, 2366, 2422, 2447, 2460, 2473, 2484, 2497], 0, 207) from rfl) hc3 (t := 394) (by decide) ?_
      exact zt_wk (zt_cov_cons rfl (zt_cov_cons rfl (zt_cov_cons rfl (zt_cov_cons rfl (zt_cov_cons rfl (zt_cov_cons rfl (zt_cov_nil))))))) (S_L_law_394 hX  ih _ _ _ h)
    rw [if_neg hc3] at h
    by_cases hc4 : (zt_and (zt_x X v5) (63 : Int)) = (4 : Int)
    · rw [if_pos hc4] at h
      refine zt_sw zy_351 (show q_ins q_k351 45 = some (.tableswitch 2553 0 47 #[207, 280, 336, 349, 405, 461, 517, 573, 629, 697, 765, 828, 841, 897, 910, 923, 986, 1054, 1122, 1178, 1234, 1290, 1346, 1402, 1477, 1552, 1608, 1671, 1727, 1740, 1753, 1766, 1843, 1921, 1977, 2033, 2101, 2157, 2213, 2269, 2325, 2366, 2422, 2447, 2460, 2473, 2484, 2497], 0, 207) from rfl) hc4 (t := 450) (by decide) ?_
      exact zt_wk (zt_cov_cons rfl (zt_cov_cons rfl (zt_cov_cons rfl (zt_cov_cons rfl (zt_cov_cons rfl (zt_cov_cons rfl (zt_cov_nil))))))) (S_L_law_450 hX  ih _ _ _ h)
    rw [if_neg hc4] at h
    by_cases hc5 : (zt_and (zt_x X v5) (63 : Int)) = (5 : Int)
    · rw [if_pos hc5] at h
      refine zt_sw zy_351 (show q_ins q_k351 45 = some (.tableswitch 2553 0 47 #[207, 280, 336, 349, 405, 461, 517, 573, 629, 697, 765, 828, 841, 897, 910, 923, 986, 1054, 1122, 1178, 1234, 1290, 1346, 1402, 1477, 1552, 1608, 1671, 1727, 1740, 1753, 1766, 1843, 1921, 1977, 2033, 2101, 2157, 2213, 2269, 2325, 2366, 2422, 2447, 2460, 2473, 2484, 2497], 0, 207) from rfl) hc5 (t := 506) (by decide) ?_
      exact zt_wk (zt_cov_cons rfl (zt_cov_cons rfl (zt_cov_cons rfl (zt_cov_cons rfl (zt_cov_cons rfl (zt_cov_cons rfl (zt_cov_nil))))))) (S_L_law_506 hX  ih _ _ _ h)
    rw [if_neg hc5] at h
    by_cases hc6 : (zt_and (zt_x X v5) (63 : Int)) = (6 : Int)
    · rw [if_pos hc6] at h
      refine zt_sw zy_351 (show q_ins q_k351 45 = some (.tableswitch 2553 0 47 #[207, 280, 336, 349, 405, 461, 517, 573, 629, 697, 765, 828, 841, 897, 910, 923, 986, 1054, 1122, 1178, 1234, 1290, 1346, 1402, 1477, 1552, 1608, 1671, 1727, 1740, 1753, 1766, 1843, 1921, 1977, 2033, 2101, 2157, 2213, 2269, 2325, 2366, 2422, 2447, 2460, 2473, 2484, 2497], 0, 207) from rfl) hc6 (t := 562) (by decide) ?_
      exact zt_wk (zt_cov_cons rfl (zt_cov_cons rfl (zt_cov_cons rfl (zt_cov_cons rfl (zt_cov_cons rfl (zt_cov_cons rfl (zt_cov_nil))))))) (S_L_law_562 hX  ih _ _ _ h)
    rw [if_neg hc6] at h
    by_cases hc7 : (zt_and (zt_x X v5) (63 : Int)) = (7 : Int)
    · rw [if_pos hc7] at h
      refine zt_sw zy_351 (show q_ins q_k351 45 = some (.tableswitch 2553 0 47 #[207, 280, 336, 349, 405, 461, 517, 573, 629, 697, 765, 828, 841, 897, 910, 923, 986, 1054, 1122, 1178, 1234, 1290, 1346, 1402, 1477, 1552, 1608, 1671, 1727, 1740, 1753, 1766, 1843, 1921, 1977, 2033, 2101, 2157, 2213, 2269, 2325, 2366, 2422, 2447, 2460, 2473, 2484, 2497], 0, 207) from rfl) hc7 (t := 618) (by decide) ?_
      exact zt_wk (zt_cov_cons rfl (zt_cov_cons rfl (zt_cov_cons rfl (zt_cov_cons rfl (zt_cov_cons rfl (zt_cov_cons rfl (zt_cov_nil))))))) (S_L_law_618 hX  ih _ _ _ h)
    rw [if_neg hc7] at h
    by_cases hc8 : (zt_and (zt_x X v5) (63 : Int)) = (8 : Int)
    · rw [if_pos hc8] at h
      refine zt_sw zy_351 (show q_ins q_k351 45 = some (.tableswitch 2553 0 47 #[207, 280, 336, 349, 405, 461, 517, 573, 629, 697, 765, 828, 841, 897, 910, 923, 986, 1054, 1122, 1178, 1234, 1290, 1346, 1402, 1477, 1552, 1608, 1671, 1727, 1740, 1753, 1766, 1843, 1921, 1977, 2033, 2101, 2157, 2213, 2269, 2325, 2366, 2422, 2447, 2460, 2473, 2484, 2497], 0, 207) from rfl) hc8 (t := 674) (by decide) ?_
      exact zt_wk (zt_cov_cons rfl (zt_cov_cons rfl (zt_cov_cons rfl (zt_cov_cons rfl (zt_cov_cons rfl (zt_cov_cons rfl (zt_cov_nil))))))) (S_L_law_674 hX  ih _ _ _ h)
    rw [if_neg hc8] at h
    by_cases hc9 : (zt_and (zt_x X v5) (63 : Int)) = (9 : Int)
    · rw [if_pos hc9] at h
      refine zt_sw zy_351 (show q_ins q_k351 45 = some (.tableswitch 2553 0 47 #[207, 280, 336, 349, 405, 461, 517, 573, 629, 697, 765, 828, 841, 897, 910, 923, 986, 1054, 1122, 1178, 1234, 1290, 1346, 1402, 1477, 1552, 1608, 1671, 1727, 1740, 1753, 1766, 1843, 1921, 1977, 2033, 2101, 2157, 2213, 2269, 2325, 2366, 2422, 2447, 2460, 2473, 2484, 2497], 0, 207) from rfl) hc9 (t := 742) (by decide) ?_
      exact zt_wk (zt_cov_cons rfl (zt_cov_cons rfl (zt_cov_cons rfl (zt_cov_cons rfl (zt_cov_cons rfl (zt_cov_cons rfl (zt_cov_nil))))))) (S_L_law_742 hX  ih _ _ _ h)
    rw [if_neg hc9] at h
    by_cases hc10 : (zt_and (zt_x X v5) (63 : Int)) = (10 : Int)
    · rw [if_pos hc10] at h
      refine zt_sw zy_351 (show q_ins q_k351 45 = some (.tableswitch 2553 0 47 #[207, 280, 336, 349, 405, 461, 517, 573, 629, 697, 765, 828, 841, 897, 910, 923, 986, 1054, 1122, 1178, 1234, 1290, 1346, 1402, 1477, 1552, 1608, 1671, 1727, 1740, 1753, 1766, 1843, 1921, 1977, 2033, 2101, 2157, 2213, 2269, 2325, 2366, 2422, 2447, 2460, 2473, 2484, 2497], 0, 207) from rfl) hc10 (t := 810) (by decide) ?_
      exact zt_wk (zt_cov_cons rfl (zt_cov_cons rfl (zt_cov_cons rfl (zt_cov_cons rfl (zt_cov_cons rfl (zt_cov_cons rfl (zt_cov_nil))))))) (S_L_law_810 hX  ih _ _ _ h)
    rw [if_neg hc10] at h
    by_cases hc11 : (zt_and (zt_x X v5) (63 : Int)) = (11 : Int)
    · rw [if_pos hc11] at h
      refine zt_sw zy_351 (show q_ins q_k351 45 = some (.tableswitch 2553 0 47 #[207, 280, 336, 349, 405, 461, 517, 573, 629, 697, 765, 828, 841, 897, 910, 923, 986, 1054, 1122, 1178, 1234, 1290, 1346, 1402, 1477, 1552, 1608, 1671, 1727, 1740, 1753, 1766, 1843, 1921, 1977, 2033, 2101, 2157, 2213, 2269, 2325, 2366, 2422, 2447, 2460, 2473, 2484, 2497], 0, 207) from rfl) hc11 (t := 873) (by decide) ?_
      exact zt_wk (zt_cov_cons rfl (zt_cov_cons rfl (zt_cov_cons rfl (zt_cov_cons rfl (zt_cov_cons rfl (zt_cov_cons rfl (zt_cov_nil))))))) (S_L_law_873 hX  ih _ _ _ h)
    rw [if_neg hc11] at h
    by_cases hc12 : (zt_and (zt_x X v5) (63 : Int)) = (12 : Int)
    · rw [if_pos hc12] at h
      refine zt_sw zy_351 (show q_ins q_k351 45 = some (.tableswitch 2553 0 47 #[207, 280, 336, 349, 405, 461, 517, 573, 629, 697, 765, 828, 841, 897, 910, 923, 986, 1054, 1122, 1178, 1234, 1290, 1346, 1402, 1477, 1552, 1608, 1671, 1727, 1740, 1753, 1766, 1843, 1921, 1977, 2033, 2101, 2157, 2213, 2269, 2325, 2366, 2422, 2447, 2460, 2473, 2484, 2497], 0, 207) from rfl) hc12 (t := 886) (by decide) ?_
      exact zt_wk (zt_cov_cons rfl (zt_cov_cons rfl (zt_cov_cons rfl (zt_cov_cons rfl (zt_cov_cons rfl (zt_cov_cons rfl (zt_cov_nil))))))) (S_L_law_886 hX  ih _ _ _ h)
    rw [if_neg hc12] at h
    by_cases hc13 : (zt_and (zt_x X v5) (63 : Int)) = (13 : Int)
    · rw [if_pos hc13] at h
      refine zt_sw zy_351 (show q_ins q_k351 45 = some (.tableswitch 2553 0 47 #[207, 280, 336, 349, 405, 461, 517, 573, 629, 697, 765, 828, 841, 897, 910, 923, 986, 1054, 1122, 1178, 1234, 1290, 1346, 1402, 1477, 1552, 1608, 1671, 1727, 1740, 1753, 1766, 1843, 1921, 1977, 2033, 2101, 2157, 2213, 2269, 2325, 2366, 2422, 2447, 2460, 2473, 2484, 2497], 0, 207) from rfl) hc13 (t := 942) (by decide) ?_
      exact zt_wk (zt_cov_cons rfl (zt_cov_cons rfl (zt_cov_cons rfl (zt_cov_cons rfl (zt_cov_cons rfl (zt_cov_cons rfl (zt_cov_nil))))))) (S_L_law_942 hX  ih _ _ _ h)
    rw [if_neg hc13] at h
    by_cases hc14 : (zt_and (zt_x X v5) (63 : Int)) = (14 : Int)
    · rw [if_pos hc14] at h
      refine zt_sw zy_351 (show q_ins q_k351 45 = some (.tableswitch 2553 0 47 #[207, 280, 336, 349, 405, 461, 517, 573, 629, 697, 765, 828, 841, 897, 910, 923, 986, 1054, 1122, 1178, 1234, 1290, 1346, 1402, 1477, 1552, 1608, 1671, 1727, 1740, 1753, 1766, 1843, 1921, 1977, 2033, 2101, 2157, 2213, 2269, 2325, 2366, 2422, 2447, 2460, 2473, 2484, 2497], 0, 207) from rfl) hc14 (t := 955) (by decide) ?_
      exact zt_wk (zt_cov_cons rfl (zt_cov_cons rfl (zt_cov_cons rfl (zt_cov_cons rfl (zt_cov_cons rfl (zt_cov_cons rfl (zt_cov_nil))))))) (S_L_law_955 hX  ih _ _ _ h)
    rw [if_neg hc14] at h
    by_cases hc15 : (zt_and (zt_x X v5) (63 : Int)) = (15 : Int)
    · rw [if_pos hc15] at h
      refine zt_sw zy_351 (show q_ins q_k351 45 = some (.tableswitch 2553 0 47 #[207, 280, 336, 349, 405, 461, 517, 573, 629, 697, 765, 828, 841, 897, 910, 923, 986, 1054, 1122, 1178, 1234, 1290, 1346, 1402, 1477, 1552, 1608, 1671, 1727, 1740, 1753, 1766, 1843, 1921, 1977, 2033, 2101, 2157, 2213, 2269, 2325, 2366, 2422, 2447, 2460, 2473, 2484, 2497], 0, 207) from rfl) hc15 (t := 968) (by decide) ?_
      exact zt_wk (zt_cov_cons rfl (zt_cov_cons rfl (zt_cov_cons rfl (zt_cov_cons rfl (zt_cov_cons rfl (zt_cov_cons rfl (zt_cov_nil))))))) (S_L_law_968 hX  ih _ _ _ h)
    rw [if_neg hc15] at h
    by_cases hc16 : (zt_and (zt_x X v5) (63 : Int)) = (16 : Int)
    · rw [if_pos hc16] at h
      refine zt_sw zy_351 (show q_ins q_k351 45 = some (.tableswitch 2553 0 47 #[207, 280, 336, 349, 405, 461, 517, 573, 629, 697, 765, 828, 841, 897, 910, 923, 986, 1054, 1122, 1178, 1234, 1290, 1346, 1402, 1477, 1552, 1608, 1671, 1727, 1740, 1753, 1766, 1843, 1921, 1977, 2033, 2101, 2157, 2213, 2269, 2325, 2366, 2422, 2447, 2460, 2473, 2484, 2497], 0, 207) from rfl) hc16 (t := 1031) (by decide) ?_
      exact zt_wk (zt_cov_cons rfl (zt_cov_cons rfl (zt_cov_cons rfl (zt_cov_cons rfl (zt_cov_cons rfl (zt_cov_cons rfl (zt_cov_nil))))))) (S_L_law_1031 hX  ih _ _ _ h)
    rw [if_neg hc16] at h
    by_cases hc17 : (zt_and (zt_x X v5) (63 : Int)) = (17 : Int)
    · rw [if_pos hc17] at h
      refine zt_sw zy_351 (show q_ins q_k351 45 = some (.tableswitch 2553 0 47 #[207, 280, 336, 349, 405, 461, 517, 573, 629, 697, 765, 828, 841, 897, 910, 923, 986, 1054, 1122, 1178, 1234, 1290, 1346, 1402, 1477, 1552, 1608, 1671, 1727, 1740, 1753, 1766, 1843, 1921, 1977, 2033, 2101, 2157, 2213, 2269, 2325, 2366, 2422, 2447, 2460, 2473, 2484, 2497], 0, 207) from rfl) hc17 (t := 1099) (by decide) ?_
      exact zt_wk (zt_cov_cons rfl (zt_cov_cons rfl (zt_cov_cons rfl (zt_cov_cons rfl (zt_cov_cons rfl (zt_cov_cons rfl (zt_cov_nil))))))) (S_L_law_1099 hX  ih _ _ _ h)
    rw [if_neg hc17] at h
    by_cases hc18 : (zt_and (zt_x X v5) (63 : Int)) = (18 : Int)
    · rw [if_pos hc18] at h
      refine zt_sw zy_351 (show q_ins q_k351 45 = some (.tableswitch 2553 0 47 #[207, 280, 336, 349, 405, 461, 517, 573, 629, 697, 765, 828, 841, 897, 910, 923, 986, 1054, 1122, 1178, 1234, 1290, 1346, 1402, 1477, 1552, 1608, 1671, 1727, 1740, 1753, 1766, 1843, 1921, 1977, 2033, 2101, 2157, 2213, 2269, 2325, 2366, 2422, 2447, 2460, 2473, 2484, 2497], 0, 207) from rfl) hc18 (t := 1167) (by decide) ?_
      exact zt_wk (zt_cov_cons rfl (zt_cov_cons rfl (zt_cov_cons rfl (zt_cov_cons rfl (zt_cov_cons rfl (zt_cov_cons rfl (zt_cov_nil))))))) (S_L_law_1167 hX  ih _ _ _ h)
    rw [if_neg hc18] at h
    by_cases hc19 : (zt_and (zt_x X v5) (63 : Int)) = (19 : Int)
    · rw [if_pos hc19] at h
      refine zt_sw zy_351 (show q_ins q_k351 45 = some (.tableswitch 2553 0 47 #[207, 280, 336, 349, 405, 461, 517, 573, 629, 697, 765, 828, 841, 897, 910, 923, 986, 1054, 1122, 1178, 1234, 1290, 1346, 1402, 1477, 1552, 1608, 1671, 1727, 1740, 1753, 1766, 1843, 1921, 1977, 2033, 2101, 2157, 2213, 2269, 2325, 2366, 2422, 2447, 2460, 2473, 2484, 2497], 0, 207) from rfl) hc19 (t := 1223) (by decide) ?_
      exact zt_wk (zt_cov_cons rfl (zt_cov_cons rfl (zt_cov_cons rfl (zt_cov_cons rfl (zt_cov_cons rfl (zt_cov_cons rfl (zt_cov_nil))))))) (S_L_law_1223 hX  ih _ _ _ h)
    rw [if_neg hc19] at h
    by_cases hc20 : (zt_and (zt_x X v5) (63 : Int)) = (20 : Int)
    · rw [if_pos hc20] at h
      refine zt_sw zy_351 (show q_ins q_k351 45 = some (.tableswitch 2553 0 47 #[207, 280, 336, 349, 405, 461, 517, 573, 629, 697, 765, 828, 841, 897, 910, 923, 986, 1054, 1122, 1178, 1234, 1290, 1346, 1402, 1477, 1552, 1608, 1671, 1727, 1740, 1753, 1766, 1843, 1921, 1977, 2033, 2101, 2157, 2213, 2269, 2325, 2366, 2422, 2447, 2460, 2473, 2484, 2497], 0, 207) from rfl) hc20 (t := 1279) (by decide) ?_
      exact zt_wk (zt_cov_cons rfl (zt_cov_cons rfl (zt_cov_cons rfl (zt_cov_cons rfl (zt_cov_cons rfl (zt_cov_cons rfl (zt_cov_nil))))))) (S_L_law_1279 hX  ih _ _ _ h)
    rw [if_neg hc20] at h
    by_cases hc21 : (zt_and (zt_x X v5) (63 : Int)) = (21 : Int)
    · rw [if_pos hc21] at h
      refine zt_sw zy_351 (show q_ins q_k351 45 = some (.tableswitch 2553 0 47 #[207, 280, 336, 349, 405, 461, 517, 573, 629, 697, 765, 828, 841, 897, 910, 923, 986, 1054, 1122, 1178, 1234, 1290, 1346, 1402, 1477, 1552, 1608, 1671, 1727, 1740, 1753, 1766, 1843, 1921, 1977, 2033, 2101, 2157, 2213, 2269, 2325, 2366, 2422, 2447, 2460, 2473, 2484, 2497], 0, 207) from rfl) hc21 (t := 1335) (by decide) ?_
      exact zt_wk (zt_cov_cons rfl (zt_cov_cons rfl (zt_cov_cons rfl (zt_cov_cons rfl (zt_cov_cons rfl (zt_cov_cons rfl (zt_cov_nil))))))) (S_L_law_1335 hX  ih _ _ _ h)
    rw [if_neg hc21] at h
    by_cases hc22 : (zt_and (zt_x X v5) (63 : Int)) = (22 : Int)
    · rw [if_pos hc22] at h
      refine zt_sw zy_351 (show q_ins q_k351 45 = some (.tableswitch 2553 0 47 #[207, 280, 336, 349, 405, 461, 517, 573, 629, 697, 765, 828, 841, 897, 910, 923, 986, 1054, 1122, 1178, 1234, 1290, 1346, 1402, 1477, 1552, 1608, 1671, 1727, 1740, 1753, 1766, 1843, 1921, 1977, 2033, 2101, 2157, 2213, 2269, 2325, 2366, 2422, 2447, 2460, 2473, 2484, 2497], 0, 207) from rfl) hc22 (t := 1391) (by decide) ?_
      exact zt_wk (zt_cov_cons rfl (zt_cov_cons rfl (zt_cov_cons rfl (zt_cov_cons rfl (zt_cov_cons rfl (zt_cov_cons rfl (zt_cov_nil))))))) (S_L_law_1391 hX  ih _ _ _ h)
    rw [if_neg hc22] at h
    by_cases hc23 : (zt_and (zt_x X v5) (63 : Int)) = (23 : Int)
    · rw [if_pos hc23] at h
      refine zt_sw zy_351 (show q_ins q_k351 45 = some (.tableswitch 2553 0 47 #[207, 280, 336, 349, 405, 461, 517, 573, 629, 697, 765, 828, 841, 897, 910, 923, 986, 1054, 1122, 1178, 1234, 1290, 1346, 1402, 1477, 1552, 1608, 1671, 1727, 1740, 1753, 1766, 1843, 1921, 1977, 2033, 2101, 2157, 2213, 2269, 2325, 2366, 2422, 2447, 2460, 2473, 2484, 2497], 0, 207) from rfl) hc23 (t := 1447) (by decide) ?_
      exact zt_wk (zt_cov_cons rfl (zt_cov_cons rfl (zt_cov_cons rfl (zt_cov_cons rfl (zt_cov_cons rfl (zt_cov_cons rfl (zt_cov_nil))))))) (S_L_law_1447 hX  ih _ _ _ h)
    rw [if_neg hc23] at h
    by_cases hc24 : (zt_and (zt_x X v5) (63 : Int)) = (24 : Int)
    · rw [if_pos hc24] at h
      refine zt_sw zy_351 (show q_ins q_k351 45 = some (.tableswitch 2553 0 47 #[207, 280, 336, 349, 405, 461, 517, 573, 629, 697, 765, 828, 841, 897, 910, 923, 986, 1054, 1122, 1178, 1234, 1290, 1346, 1402, 1477, 1552, 1608, 1671, 1727, 1740, 1753, 1766, 1843, 1921, 1977, 2033, 2101, 2157, 2213, 2269, 2325, 2366, 2422, 2447, 2460, 2473, 2484, 2497], 0, 207) from rfl) hc24 (t := 1522) (by decide) ?_
      exact zt_wk (zt_cov_cons rfl (zt_cov_cons rfl (zt_cov_cons rfl (zt_cov_cons rfl (zt_cov_cons rfl (zt_cov_cons rfl (zt_cov_nil))))))) (S_L_law_1522 hX  ih _ _ _ h)
    rw [if_neg hc24] at h
    by_cases hc25 : (zt_and (zt_x X v5) (63 : Int)) = (25 : Int)
    · rw [if_pos hc25] at h
      refine zt_sw zy_351 (show q_ins q_k351 45 = some (.tableswitch 2553 0 47 #[207, 280, 336, 349, 405, 461, 517, 573, 629, 697, 765, 828, 841, 897, 910, 923, 986, 1054, 1122, 1178, 1234, 1290, 1346, 1402, 1477, 1552, 1608, 1671, 1727, 1740, 1753, 1766, 1843, 1921, 1977, 2033, 2101, 2157, 2213, 2269, 2325, 2366, 2422, 2447, 2460, 2473, 2484, 2497], 0, 207) from rfl) hc25 (t := 1597) (by decide) ?_
      exact zt_wk (zt_cov_cons rfl (zt_cov_cons rfl (zt_cov_cons rfl (zt_cov_cons rfl (zt_cov_cons rfl (zt_cov_cons rfl (zt_cov_nil))))))) (S_L_law_1597 hX  ih _ _ _ h)
    rw [if_neg hc25] at h
    by_cases hc26 : (zt_and (zt_x X v5) (63 : Int)) = (26 : Int)
    · rw [if_pos hc26] at h
      refine zt_sw zy_351 (show q_ins q_k351 45 = some (.tableswitch 2553 0 47 #[207, 280, 336, 349, 405, 461, 517, 573, 629, 697, 765, 828, 841, 897, 910, 923, 986, 1054, 1122, 1178, 1234, 1290, 1346, 1402, 1477, 1552, 1608, 1671, 1727, 1740, 1753, 1766, 1843, 1921, 1977, 2033, 2101, 2157, 2213, 2269, 2325, 2366, 2422, 2447, 2460, 2473, 2484, 2497], 0, 207) from rfl) hc26 (t := 1653) (by decide) ?_
      exact zt_wk (zt_cov_cons rfl (zt_cov_cons rfl (zt_cov_cons rfl (zt_cov_cons rfl (zt_cov_cons rfl (zt_cov_cons rfl (zt_cov_nil))))))) (S_L_law_1653 hX  ih _ _ _ h)
    rw [if_neg hc26] at h
    by_cases hc27 : (zt_and (zt_x X v5) (63 : Int)) = (27 : Int)
    · rw [if_pos hc27] at h
      refine zt_sw zy_351 (show q_ins q_k351 45 = some (.tableswitch 2553 0 47 #[207, 280, 336, 349, 405, 461, 517, 573, 629, 697, 765, 828, 841, 897, 910, 923, 986, 1054, 1122, 1178, 1234, 1290, 1346, 1402, 1477, 1552, 1608, 1671, 1727, 1740, 1753, 1766, 1843, 1921, 1977, 2033, 2101, 2157, 2213, 2269, 2325, 2366, 2422, 2447, 2460, 2473, 2484, 2497], 0, 207) from rfl) hc27 (t := 1716) (by decide) ?_
      exact zt_wk (zt_cov_cons rfl (zt_cov_cons rfl (zt_cov_cons rfl (zt_cov_cons rfl (zt_cov_cons rfl (zt_cov_cons rfl (zt_cov_nil))))))) (S_L_law_1716 hX  ih _ _ _ h)
    rw [if_neg hc27] at h
    by_cases hc28 : (zt_and (zt_x X v5) (63 : Int)) = (28 : Int)
    · rw [if_pos hc28] at h
      refine zt_sw zy_351 (show q_ins q_k351 45 = some (.tableswitch 2553 0 47 #[207, 280, 336, 349, 405, 461, 517, 573, 629, 697, 765, 828, 841, 897, 910, 923, 986, 1054, 1122, 1178, 1234, 1290, 1346, 1402, 1477, 1552, 1608, 1671, 1727, 1740, 1753, 1766, 1843, 1921, 1977, 2033, 2101, 2157, 2213, 2269, 2325, 2366, 2422, 2447, 2460, 2473, 2484, 2497], 0, 207) from rfl) hc28 (t := 1772) (by decide) ?_
      exact zt_wk (zt_cov_cons rfl (zt_cov_cons rfl (zt_cov_cons rfl (zt_cov_cons rfl (zt_cov_cons rfl (zt_cov_cons rfl (zt_cov_nil))))))) (S_L_law_1772 hX  ih _ _ _ h)
    rw [if_neg hc28] at h
    by_cases hc29 : (zt_and (zt_x X v5) (63 : Int)) = (29 : Int)
    · rw [if_pos hc29] at h
      refine zt_sw zy_351 (show q_ins q_k351 45 = some (.tableswitch 2553 0 47 #[207, 280, 336, 349, 405, 461, 517, 573, 629, 697, 765, 828, 841, 897, 910, 923, 986, 1054, 1122, 1178, 1234, 1290, 1346, 1402, 1477, 1552, 1608, 1671, 1727, 1740, 1753, 1766, 1843, 1921, 1977, 2033, 2101, 2157, 2213, 2269, 2325, 2366, 2422, 2447, 2460, 2473, 2484, 2497], 0, 207) from rfl) hc29 (t := 1785) (by decide) ?_
      exact zt_wk (zt_cov_cons rfl (zt_cov_cons rfl (zt_cov_cons rfl (zt_cov_cons rfl (zt_cov_cons rfl (zt_cov_cons rfl (zt_cov_nil))))))) (S_L_law_1785 hX  ih _ _ _ h)
    rw [if_neg hc29] at h
    by_cases hc30 : (zt_and (zt_x X v5) (63 : Int)) = (30 : Int)
    · rw [if_pos hc30] at h
      refine zt_sw zy_351 (show q_ins q_k351 45 = some (.tableswitch 2553 0 47 #[207, 280, 336, 349, 405, 461, 517, 573, 629, 697, 765, 828, 841, 897, 910, 923, 986, 1054, 1122, 1178, 1234, 1290, 1346, 1402, 1477, 1552, 1608, 1671, 1727, 1740, 1753, 1766, 1843, 1921, 1977, 2033, 2101, 2157, 2213, 2269, 2325, 2366, 2422, 2447, 2460, 2473, 2484, 2497], 0, 207) from rfl) hc30 (t := 1798) (by decide) ?_
      exact zt_wk (zt_cov_cons rfl (zt_cov_cons rfl (zt_cov_cons rfl (zt_cov_cons rfl (zt_cov_cons rfl (zt_cov_cons rfl (zt_cov_nil))))))) (S_L_law_1798 hX  ih _ _ _ h)
    rw [if_neg hc30] at h
    by_cases hc31 : (zt_and (zt_x X v5) (63 : Int)) = (31 : Int)
    · rw [if_pos hc31] at h
      refine zt_sw zy_351 (show q_ins q_k351 45 = some (.tableswitch 2553 0 47 #[207, 280, 336, 349, 405, 461, 517, 573, 629, 697, 765, 828, 841, 897, 910, 923, 986, 1054, 1122, 1178, 1234, 1290, 1346, 1402, 1477, 1552, 1608, 1671, 1727, 1740, 1753, 1766, 1843, 1921, 1977, 2033, 2101, 2157, 2213, 2269, 2325, 2366, 2422, 2447, 2460, 2473, 2484, 2497], 0, 207) from rfl) hc31 (t := 1811) (by decide) ?_
      exact zt_wk (zt_cov_cons rfl (zt_cov_cons rfl (zt_cov_cons rfl (zt_cov_cons rfl (zt_cov_cons rfl (zt_cov_cons rfl (zt_cov_nil))))))) (S_L_law_1811 hX  ih _ _ _ h)
    rw [if_neg hc31] at h
    by_cases hc32 : (zt_and (zt_x X v5) (63 : Int)) = (32 : Int)
    · rw [if_pos hc32] at h
      refine zt_sw zy_351 (show q_ins q_k351 45 = some (.tableswitch 2553 0 47 #[207, 280, 336, 349, 405, 461, 517, 573, 629, 697, 765, 828, 841, 897, 910, 923, 986, 1054, 1122, 1178, 1234, 1290, 1346, 1402, 1477, 1552, 1608, 1671, 1727, 1740, 1753, 1766, 1843, 1921, 1977, 2033, 2101, 2157, 2213, 2269, 2325, 2366, 2422, 2447, 2460, 2473, 2484, 2497], 0, 207) from rfl) hc32 (t := 1888) (by decide) ?_
      exact zt_wk (zt_cov_cons rfl (zt_cov_cons rfl (zt_cov_cons rfl (zt_cov_cons rfl (zt_cov_cons rfl (zt_cov_cons rfl (zt_cov_nil))))))) (S_L_law_1888 hX  ih _ _ _ h)
    rw [if_neg hc32] at h
    by_cases hc33 : (zt_and (zt_x X v5) (63 : Int)) = (33 : Int)
    · rw [if_pos hc33] at h
      refine zt_sw zy_351 (show q_ins q_k351 45 = some (.tableswitch 2553 0 47 #[207, 280, 336, 349, 405, 461, 517, 573, 629, 697, 765, 828, 841, 897, 910, 923, 986, 1054, 1122, 1178, 1234, 1290, 1346, 1402, 1477, 1552, 1608, 1671, 1727, 1740, 1753, 1766, 1843, 1921, 1977, 2033, 2101, 2157, 2213, 2269, 2325, 2366, 2422, 2447, 2460, 2473, 2484, 2497], 0, 207) from rfl) hc33 (t := 1966) (by decide) ?_
      exact zt_wk (zt_cov_cons rfl (zt_cov_cons rfl (zt_cov_cons rfl (zt_cov_cons rfl (zt_cov_cons rfl (zt_cov_cons rfl (zt_cov_nil))))))) (S_L_law_1966 hX  ih _ _ _ h)
    rw [if_neg hc33] at h
    by_cases hc34 : (zt_and (zt_x X v5) (63 : Int)) = (34 : Int)
    · rw [if_pos hc34] at h
      refine zt_sw zy_351 (show q_ins q_k351 45 = some (.tableswitch 2553 0 47 #[207, 280, 336, 349, 405, 461, 517, 573, 629, 697, 765, 828, 841, 897, 910, 923, 986, 1054, 1122, 1178, 1234, 1290, 1346, 1402, 1477, 1552, 1608, 1671, 1727, 1740, 1753, 1766, 1843, 1921, 1977, 2033, 2101, 2157, 2213, 2269, 2325, 2366, 2422, 2447, 2460, 2473, 2484, 2497], 0, 207) from rfl) hc34 (t := 2022) (by decide) ?_
      exact zt_wk (zt_cov_cons rfl (zt_cov_cons rfl (zt_cov_cons rfl (zt_cov_cons rfl (zt_cov_cons rfl (zt_cov_cons rfl (zt_cov_nil))))))) (S_L_law_2022 hX  ih _ _ _ h)
    rw [if_neg hc34] at h
    by_cases hc35 : (zt_and (zt_x X v5) (63 : Int)) = (35 : Int)
    · rw [if_pos hc35] at h
      refine zt_sw zy_351 (show q_ins q_k351 45 = some (.tableswitch 2553 0 47 #[207, 280, 336, 349, 405, 461, 517, 573, 629, 697, 765, 828, 841, 897, 910, 923, 986, 1054, 1122, 1178, 1234, 1290, 1346, 1402, 1477, 1552, 1608, 1671, 1727, 1740, 1753, 1766, 1843, 1921, 1977, 2033, 2101, 2157, 2213, 2269, 2325, 2366, 2422, 2447, 2460, 2473, 2484, 2497], 0, 207) from rfl) hc35 (t := 2078) (by decide) ?_
      exact zt_wk (zt_cov_cons rfl (zt_cov_cons rfl (zt_cov_cons rfl (zt_cov_cons rfl (zt_cov_cons rfl (zt_cov_cons rfl (zt_cov_nil))))))) (S_L_law_2078 hX  ih _ _ _ h)
    rw [if_neg hc35] at h
    by_cases hc36 : (zt_and (zt_x X v5) (63 : Int)) = (36 : Int)
    · rw [if_pos hc36] at h
      refine zt_sw zy_351 (show q_ins q_k351 45 = some (.tableswitch 2553 0 47 #[207, 280, 336, 349, 405, 461, 517, 573, 629, 697, 765, 828, 841, 897, 910, 923, 986, 1054, 1122, 1178, 1234, 1290, 1346, 1402, 1477, 1552, 1608, 1671, 1727, 1740, 1753, 1766, 1843, 1921, 1977, 2033, 2101, 2157, 2213, 2269, 2325, 2366, 2422, 2447, 2460, 2473, 2484, 2497], 0, 207) from rfl) hc36 (t := 2146) (by decide) ?_
      exact zt_wk (zt_cov_cons rfl (zt_cov_cons rfl (zt_cov_cons rfl (zt_cov_cons rfl (zt_cov_cons rfl (zt_cov_cons rfl (zt_cov_nil))))))) (S_L_law_2146 hX  ih _ _ _ h)
    rw [if_neg hc36] at h
    by_cases hc37 : (zt_and (zt_x X v5) (63 : Int)) = (37 : Int)
    · rw [if_pos hc37] at h
      refine zt_sw zy_351 (show q_ins q_k351 45 = some (.tableswitch 2553 0 47 #[207, 280, 336, 349, 405, 461, 517, 573, 629, 697, 765, 828, 841, 897, 910, 923, 986, 1054, 1122, 1178, 1234, 1290, 1346, 1402, 1477, 1552, 1608, 1671, 1727, 1740, 1753, 1766, 1843, 1921, 1977, 2033, 2101, 2157, 2213, 2269, 2325, 2366, 2422, 2447, 2460, 2473, 2484, 2497], 0, 207) from rfl) hc37 (t := 2202) (by decide) ?_
      exact zt_wk (zt_cov_cons rfl (zt_cov_cons rfl (zt_cov_cons rfl (zt_cov_cons rfl (zt_cov_cons rfl (zt_cov_cons rfl (zt_cov_nil))))))) (S_L_law_2202 hX  ih _ _ _ h)
    rw [if_neg hc37] at h
    by_cases hc38 : (zt_and (zt_x X v5) (63 : Int)) = (38 : Int)
    · rw [if_pos hc38] at h
      refine zt_sw zy_351 (show q_ins q_k351 45 = some (.tableswitch 2553 0 47 #[207, 280, 336, 349, 405, 461, 517, 573, 629, 697, 765, 828, 841, 897, 910, 923, 986, 1054, 1122, 1178, 1234, 1290, 1346, 1402, 1477, 1552, 1608, 1671, 1727, 1740, 1753, 1766, 1843, 1921, 1977, 2033, 2101, 2157, 2213, 2269, 2325, 2366, 2422, 2447, 2460, 2473, 2484, 2497], 0, 207) from rfl) hc38 (t := 2258) (by decide) ?_
      exact zt_wk (zt_cov_cons rfl (zt_cov_cons rfl (zt_cov_cons rfl (zt_cov_cons rfl (zt_cov_cons rfl (zt_cov_cons rfl (zt_cov_nil))))))) (S_L_law_2258 hX  ih _ _ _ h)
    rw [if_neg hc38] at h
    by_cases hc39 : (zt_and (zt_x X v5) (63 : Int)) = (39 : Int)
    · rw [if_pos hc39] at h
      refine zt_sw zy_351 (show q_ins q_k351 45 = some (.tableswitch 2553 0 47 #[207, 280, 336, 349, 405, 461, 517, 573, 629, 697, 765, 828, 841, 897, 910, 923, 986, 1054, 1122, 1178, 1234, 1290, 1346, 1402, 1477, 1552, 1608, 1671, 1727, 1740, 1753, 1766, 1843, 1921, 1977, 2033, 2101, 2157, 2213, 2269, 2325, 2366, 2422, 2447, 2460, 2473, 2484, 2497], 0, 207) from rfl) hc39 (t := 2314) (by decide) ?_
      exact zt_wk (zt_cov_cons rfl (zt_cov_cons rfl (zt_cov_cons rfl (zt_cov_cons rfl (zt_cov_cons rfl (zt_cov_cons rfl (zt_cov_nil))))))) (S_L_law_2314 hX  ih _ _ _ h)
    rw [if_neg hc39] at h
    by_cases hc40 : (zt_and (zt_x X v5) (63 : Int)) = (40 : Int)
    · rw [if_pos hc40] at h
      refine zt_sw zy_351 (show q_ins q_k351 45 = some (.tableswitch 2553 0 47 #[207, 280, 336, 349, 405, 461, 517, 573, 629, 697, 765, 828, 841, 897, 910, 923, 986, 1054, 1122, 1178, 1234, 1290, 1346, 1402, 1477, 1552, 1608, 1671, 1727, 1740, 1753, 1766, 1843, 1921, 1977, 2033, 2101, 2157, 2213, 2269, 2325, 2366, 2422, 2447, 2460, 2473, 2484, 2497], 0, 207) from rfl) hc40 (t := 2370) (by decide) ?_
      exact zt_wk (zt_cov_cons rfl (zt_cov_cons rfl (zt_cov_cons rfl (zt_cov_cons rfl (zt_cov_cons rfl (zt_cov_cons rfl (zt_cov_nil))))))) (S_L_law_2370 hX  ih _ _ _ h)
    rw [if_neg hc40] at h
    by_cases hc41 : (zt_and (zt_x X v5) (63 : Int)) = (41 : Int)
    · rw [if_pos hc41] at h
      refine zt_sw zy_351 (show q_ins q_k351 45 = some (.tableswitch 2553 0 47 #[207, 280, 336, 349, 405, 461, 517, 573, 629, 697, 765, 828, 841, 897, 910, 923, 986, 1054, 1122, 1178, 1234, 1290, 1346, 1402, 1477, 1552, 1608, 1671, 1727, 1740, 1753, 1766, 1843, 1921, 1977, 2033, 2101, 2157, 2213, 2269, 2325, 2366, 2422, 2447, 2460, 2473, 2484, 2497], 0, 207) from rfl) hc41 (t := 2411) (by decide) ?_
      exact zt_wk (zt_cov_cons rfl (zt_cov_cons rfl (zt_cov_cons rfl (zt_cov_cons rfl (zt_cov_cons rfl (zt_cov_cons rfl (zt_cov_nil))))))) (S_L_law_2411 hX  ih _ _ _ h)
    rw [if_neg hc41] at h
    by_cases hc42 : (zt_and (zt_x X v5) (63 : Int)) = (42 : Int)
    · rw [if_pos hc42] at h
      refine zt_sw zy_351 (show q_ins q_k351 45 = some (.tableswitch 2553 0 47 #[207, 280, 336, 349, 405, 461, 517, 573, 629, 697, 765, 828, 841, 897, 910, 923, 986, 1054, 1122, 1178, 1234, 1290, 1346, 1402, 1477, 1552, 1608, 1671, 1727, 1740, 1753, 1766, 1843, 1921, 1977, 2033, 2101, 2157, 2213, 2269, 2325, 2366, 2422, 2447, 2460, 2473, 2484, 2497], 0, 207) from rfl) hc42 (t := 2467) (by decide) ?_
      exact zt_wk (zt_cov_cons rfl (zt_cov_cons rfl (zt_cov_cons rfl (zt_cov_cons rfl (zt_cov_cons rfl (zt_cov_cons rfl (zt_cov_nil))))))) (S_L_law_2467 hX  ih _ _ _ h)
    rw [if_neg hc42] at h
    by_cases hc43 : (zt_and (zt_x X v5) (63 : Int)) = (43 : Int)
    · rw [if_pos hc43] at h
      refine zt_sw zy_351 (show q_ins q_k351 45 = some (.tableswitch 2553 0 47 #[207, 280, 336, 349, 405, 461, 517, 573, 629, 697, 765, 828, 841, 897, 910, 923, 986, 1054, 1122, 1178, 1234, 1290, 1346, 1402, 1477, 1552, 1608, 1671, 1727, 1740, 1753, 1766, 1843, 1921, 1977, 2033, 2101, 2157, 2213, 2269, 2325, 2366, 2422, 2447, 2460, 2473, 2484, 2497], 0, 207) from rfl) hc43 (t := 2492) (by decide) ?_
      exact zt_wk (zt_cov_cons rfl (zt_cov_cons rfl (zt_cov_cons rfl (zt_cov_cons rfl (zt_cov_cons rfl (zt_cov_cons rfl (zt_cov_nil))))))) (S_L_law_2492 hX  ih _ _ _ h)
    rw [if_neg hc43] at h
    by_cases hc44 : (zt_and (zt_x X v5) (63 : Int)) = (44 : Int)
    · rw [if_pos hc44] at h
      refine zt_sw zy_351 (show q_ins q_k351 45 = some (.tableswitch 2553 0 47 #[207, 280, 336, 349, 405, 461, 517, 573, 629, 697, 765, 828, 841, 897, 910, 923, 986, 1054, 1122, 1178, 1234, 1290, 1346, 1402, 1477, 1552, 1608, 1671, 1727, 1740, 1753, 1766, 1843, 1921, 1977, 2033, 2101, 2157, 2213, 2269, 2325, 2366, 2422, 2447, 2460, 2473, 2484, 2497], 0, 207) from rfl) hc44 (t := 2505) (by decide) ?_
      exact zt_wk (zt_cov_cons rfl (zt_cov_cons rfl (zt_cov_cons rfl (zt_cov_cons rfl (zt_cov_cons rfl (zt_cov_cons rfl (zt_cov_nil))))))) (S_L_law_2505 hX  ih _ _ _ h)
    rw [if_neg hc44] at h
    by_cases hc45 : (zt_and (zt_x X v5) (63 : Int)) = (45 : Int)
    · rw [if_pos hc45] at h
      refine zt_sw zy_351 (show q_ins q_k351 45 = some (.tableswitch 2553 0 47 #[207, 280, 336, 349, 405, 461, 517, 573, 629, 697, 765, 828, 841, 897, 910, 923, 986, 1054, 1122, 1178, 1234, 1290, 1346, 1402, 1477, 1552, 1608, 1671, 1727, 1740, 1753, 1766, 1843, 1921, 1977, 2033, 2101, 2157, 2213, 2269, 2325, 2366, 2422, 2447, 2460, 2473, 2484, 2497], 0, 207) from rfl) hc45 (t := 2518) (by decide) ?_
      exact zt_wk (zt_cov_cons rfl (zt_cov_cons rfl (zt_cov_cons rfl (zt_cov_cons rfl (zt_cov_cons rfl (zt_cov_cons rfl (zt_cov_nil))))))) (S_L_law_2518 hX  ih _ _ _ h)
    rw [if_neg hc45] at h
    by_cases hc46 : (zt_and (zt_x X v5) (63 : Int)) = (46 : Int)
    · rw [if_pos hc46] at h
      refine zt_sw zy_351 (show q_ins q_k351 45 = some (.tableswitch 2553 0 47 #[207, 280, 336, 349, 405, 461, 517, 573, 629, 697, 765, 828, 841, 897, 910, 923, 986, 1054, 1122, 1178, 1234, 1290, 1346, 1402, 1477, 1552, 1608, 1671, 1727, 1740, 1753, 1766, 1843, 1921, 1977, 2033, 2101, 2157, 2213, 2269, 2325, 2366, 2422, 2447, 2460, 2473, 2484, 2497], 0, 207) from rfl) hc46 (t := 2529) (by decide) ?_
      exact zt_wk (zt_cov_cons rfl (zt_cov_cons rfl (zt_cov_cons rfl (zt_cov_cons rfl (zt_cov_cons rfl (zt_cov_cons rfl (zt_cov_nil))))))) (S_L_law_2529 hX  ih _ _ _ h)
    rw [if_neg hc46] at h
    by_cases hc47 : (zt_and (zt_x X v5) (63 : Int)) = (47 : Int)
    · rw [if_pos hc47] at h
      refine zt_sw zy_351 (show q_ins q_k351 45 = some (.tableswitch 2553 0 47 #[207, 280, 336, 349, 405, 461, 517, 573, 629, 697, 765, 828, 841, 897, 910, 923, 986, 1054, 1122, 1178, 1234, 1290, 1346, 1402, 1477, 1552, 1608, 1671, 1727, 1740, 1753, 1766, 1843, 1921, 1977, 2033, 2101, 2157, 2213, 2269, 2325, 2366, 2422, 2447, 2460, 2473, 2484, 2497], 0, 207) from rfl) hc47 (t := 2542) (by decide) ?_
      exact zt_wk (zt_cov_cons rfl (zt_cov_cons rfl (zt_cov_cons rfl (zt_cov_cons rfl (zt_cov_cons rfl (zt_cov_cons rfl (zt_cov_nil))))))) (S_L_law_2542 hX  ih _ _ _ h)
    rw [if_neg hc47] at h
    refine zt_sw0 zy_351 (show q_ins q_k351 45 = some (.tableswitch 2553 0 47 #[207, 280, 336, 349, 405, 461, 517, 573, 629, 697, 765, 828, 841, 897, 910, 923, 986, 1054, 1122, 1178, 1234, 1290, 1346, 1402, 1477, 1552, 1608, 1671, 1727, 1740, 1753, 1766, 1843, 1921, 1977, 2033, 2101, 2157, 2213, 2269, 2325, 2366, 2422, 2447, 2460, 2473, 2484, 2497], 0, 207) from rfl) (zt_inT _) (by omega) (t := 2598) (by decide) ?_
    exact zt_wk (zt_cov_cons rfl (zt_cov_cons rfl (zt_cov_cons rfl (zt_cov_cons rfl (zt_cov_cons rfl (zt_cov_cons rfl (zt_cov_nil))))))) (S_L_law_2598 hX  ih _ _ _ h)
