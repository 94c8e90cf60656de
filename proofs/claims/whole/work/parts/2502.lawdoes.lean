/-! the mini-machine does what the law's function says (by program) -/
set_option maxRecDepth 100000 in
theorem S_L_law_1220 {X : q_X} (hX : X.1 ≤ 1000000)   {r28 : Int → zt_S → Option (Int × zt_S)} (hr28 : ∀ (v5 : Int) (σ : zt_S) (o : (Int × zt_S)), r28 v5 σ = some o → zt_Ex X 54 351 28 [(0, .ref q_big), (1, .ref 0), (2, .ref 163), (3, .ref 184), (4, .ref 185), (5, .int (Int32.ofInt v5))] [] (zt_M σ) (zo_I o)) : ∀ (v5 : Int) (σ : zt_S) (o : (Int × zt_S)), F_L_law_1220 X  r28 v5 σ = some o → zt_Ex X 54 351 1220 [(0, .ref q_big), (1, .ref 0), (2, .ref 163), (3, .ref 184), (4, .ref 185), (5, .int (Int32.ofInt v5))] [] (zt_M σ) (zo_I o) := by
  intro v5 σ o  h
  unfold F_L_law_1220 at h
  refine zt_goto zy_351 (show q_ins q_k351 1220 = some (.goto 1378, 2598, 0) from rfl) ?_
  exact zt_wk (zt_cov_cons rfl (zt_cov_cons rfl (zt_cov_cons rfl (zt_cov_cons rfl (zt_cov_cons rfl (zt_cov_cons rfl (zt_cov_nil))))))) (S_L_law_2598 hX  hr28 _ _ _ h)
set_option maxRecDepth 100000 in
theorem S_L_law_1167 {X : q_X} (hX : X.1 ≤ 1000000)   {r28 : Int → zt_S → Option (Int × zt_S)} (hr28 : ∀ (v5 : Int) (σ : zt_S) (o : (Int × zt_S)), r28 v5 σ = some o → zt_Ex X 54 351 28 [(0, .ref q_big), (1, .ref 0), (2, .ref 163), (3, .ref 184), (4, .ref 185), (5, .int (Int32.ofInt v5))] [] (zt_M σ) (zo_I o)) : ∀ (v5 : Int) (σ : zt_S) (o : (Int × zt_S)), F_L_law_1167 X  r28 v5 σ = some o → zt_Ex X 54 351 1167 [(0, .ref q_big), (1, .ref 0), (2, .ref 163), (3, .ref 184), (4, .ref 185), (5, .int (Int32.ofInt v5))] [] (zt_M σ) (zo_I o) := by
  intro v5 σ o  h
  unfold F_L_law_1167 at h
  refine zt_aload_n zy_351 (show q_ins q_k351 1167 = some (.aload_n 1, 0, 0) from rfl) (v := 0) rfl ?_
  refine zt_aload_n zy_351 (show q_ins q_k351 1168 = some (.aload_n 0, 0, 0) from rfl) (v := q_big) rfl ?_
  refine zt_iload zy_351 (show q_ins q_k351 1169 = some (.iload 5, 0, 0) from rfl) (v := Int32.ofInt v5) rfl ?_
  refine zt_iconst zy_351 (show q_ins q_k351 1171 = some (.iconst 1, 0, 0) from rfl) ?_
  refine zt_iadd zy_351 (show q_ins q_k351 1172 = some (.iadd, 0, 0) from rfl) ?_
  obtain ⟨hg, h⟩ := zt_ckE h
  refine zt_sld zy_351 (show q_ins q_k351 1173 = some (.iaload, 0, 0) from rfl) hg hX ?_
  refine zt_aload_n zy_351 (show q_ins q_k351 1174 = some (.aload_n 3, 0, 0) from rfl) (v := 184) rfl ?_
  obtain ⟨a99, s100, hca99, h⟩ := zt_bdE h
  refine zt_callS (d := 53) zy_351 (show q_ins q_k351 1175 = some (.invokestatic 193, 330, 3) from rfl) zy_330 (by decide) ⟨zq_lt (by decide), by decide⟩ rfl (by simp [Value.category]) (by simp [lg_sl, Value.category]) rfl (zt_dm (by decide) (S_L_tricks hca99)) ?_
  refine zt_istore zy_351 (show q_ins q_k351 1178 = some (.istore 6, 0, 0) from rfl) (by decide) ?_
  refine zt_aload_n zy_351 (show q_ins q_k351 1180 = some (.aload_n 2, 0, 0) from rfl) (v := 163) rfl ?_
  refine zt_aload_n zy_351 (show q_ins q_k351 1181 = some (.aload_n 0, 0, 0) from rfl) (v := q_big) rfl ?_
  refine zt_iload zy_351 (show q_ins q_k351 1182 = some (.iload 5, 0, 0) from rfl) (v := Int32.ofInt v5) rfl ?_
  refine zt_iconst zy_351 (show q_ins q_k351 1184 = some (.iconst 1, 0, 0) from rfl) ?_
  refine zt_iadd zy_351 (show q_ins q_k351 1185 = some (.iadd, 0, 0) from rfl) ?_
  obtain ⟨hg, h⟩ := zt_ckE h
  refine zt_sld zy_351 (show q_ins q_k351 1186 = some (.iaload, 0, 0) from rfl) hg hX ?_
  obtain ⟨a101, s102, hca101, h⟩ := zt_bdE h
  refine zt_callV (d := 53) zy_351 (show q_ins q_k351 1187 = some (.invokevirtual 195, 249, 1) from rfl) zy_249 (by decide) ⟨zq_lt (by decide), by decide⟩ rfl (by simp [Value.category]) (by simp [lg_sl, Value.category]) (zt_rcv zc_163) (zt_dm (by decide) (S_M_tricks hca101)) ?_
  refine zt_istore zy_351 (show q_ins q_k351 1190 = some (.istore 7, 0, 0) from rfl) (by decide) ?_
  refine zt_aload_n zy_351 (show q_ins q_k351 1192 = some (.aload_n 2, 0, 0) from rfl) (v := 163) rfl ?_
  obtain ⟨a103, s104, hca103, h⟩ := zt_bdE h
  refine zt_callV (d := 53) zy_351 (show q_ins q_k351 1193 = some (.invokevirtual 136, 170, 0) from rfl) zy_170 (by decide) ⟨zq_lt (by decide), by decide⟩ rfl (by simp [Value.category]) (by simp [lg_sl, Value.category]) (zt_rcv zc_163) (zt_dm (by decide) (S_M_thrown hca103)) ?_
  refine zt_iload zy_351 (show q_ins q_k351 1196 = some (.iload 6, 0, 0) from rfl) (v := Int32.ofInt a99) rfl ?_
  obtain ⟨hg, h⟩ := zt_ckE h
  refine zt_icmp_eq zy_351 (show q_ins q_k351 1198 = some (.if_icmp .eq 5, 1203, 0) from rfl) (⟨hg.1, hg.2⟩) (fun hc => ?_) (fun hc => ?_)
  · rw [if_pos hc] at h
    refine zt_iload zy_351 (show q_ins q_k351 1203 = some (.iload 6, 0, 0) from rfl) (v := Int32.ofInt a99) rfl ?_
    obtain ⟨hg, h⟩ := zt_ckE h
    refine zt_if_ne zy_351 (show q_ins q_k351 1205 = some (.ifCond .ne 15, 1220, 0) from rfl) (hg) (fun hc => ?_) (fun hc => ?_)
    · rw [if_pos hc] at h
      refine zt_aload_n zy_351 (show q_ins q_k351 1208 = some (.aload_n 3, 0, 0) from rfl) (v := 184) rfl ?_
      refine zt_iconst zy_351 (show q_ins q_k351 1209 = some (.iconst 0, 0, 0) from rfl) ?_
      refine zt_lld zy_351 (show q_ins q_k351 1210 = some (.laload, 0, 0) from rfl) za_184 (by decide) (by decide) ?_
      refine zt_iload zy_351 (show q_ins q_k351 1211 = some (.iload 7, 0, 0) from rfl) (v := Int32.ofInt a101) rfl ?_
      refine zt_i2l zy_351 (show q_ins q_k351 1213 = some (.i2l, 0, 0) from rfl) ?_
      refine zt_lcmp zy_351 (show q_ins q_k351 1214 = some (.lcmp, 0, 0) from rfl) ?_
      refine zt_if_eq zy_351 (show q_ins q_k351 1215 = some (.ifCond .eq 5, 1220, 0) from rfl) (zt_inT _) (fun hc => ?_) (fun hc => ?_)
      · rw [if_pos hc] at h
        exact zt_wk (zt_cov_cons rfl (zt_cov_cons rfl (zt_cov_cons rfl (zt_cov_cons rfl (zt_cov_cons rfl (zt_cov_cons rfl (zt_cov_nil))))))) (S_L_law_1220 hX  hr28 _ _ _ h)
      · rw [if_neg hc] at h
        refine zt_iconst zy_351 (show q_ins q_k351 1218 = some (.iconst 0, 0, 0) from rfl) ?_
        cases h
        exact zt_zret zy_351 (show q_ins q_k351 1219 = some (.ireturn, 0, 0) from rfl) (by decide)
    · rw [if_neg hc] at h
      exact zt_wk (zt_cov_cons rfl (zt_cov_cons rfl (zt_cov_cons rfl (zt_cov_cons rfl (zt_cov_cons rfl (zt_cov_cons rfl (zt_cov_nil))))))) (S_L_law_1220 hX  hr28 _ _ _ h)
  · rw [if_neg hc] at h
    refine zt_iconst zy_351 (show q_ins q_k351 1201 = some (.iconst 0, 0, 0) from rfl) ?_
    cases h
    exact zt_zret zy_351 (show q_ins q_k351 1202 = some (.ireturn, 0, 0) from rfl) (by decide)
set_option maxRecDepth 100000 in
theorem S_L_law_1276 {X : q_X} (hX : X.1 ≤ 1000000)   {r28 : Int → zt_S → Option (Int × zt_S)} (hr28 : ∀ (v5 : Int) (σ : zt_S) (o : (Int × zt_S)), r28 v5 σ = some o → zt_Ex X 54 351 28 [(0, .ref q_big), (1, .ref 0), (2, .ref 163), (3, .ref 184), (4, .ref 185), (5, .int (Int32.ofInt v5))] [] (zt_M σ) (zo_I o)) : ∀ (v5 : Int) (σ : zt_S) (o : (Int × zt_S)), F_L_law_1276 X  r28 v5 σ = some o → zt_Ex X 54 351 1276 [(0, .ref q_big), (1, .ref 0), (2, .ref 163), (3, .ref 184), (4, .ref 185), (5, .int (Int32.ofInt v5))] [] (zt_M σ) (zo_I o) := by
  intro v5 σ o  h
  unfold F_L_law_1276 at h
  refine zt_goto zy_351 (show q_ins q_k351 1276 = some (.goto 1322, 2598, 0) from rfl) ?_
  exact zt_wk (zt_cov_cons rfl (zt_cov_cons rfl (zt_cov_cons rfl (zt_cov_cons rfl (zt_cov_cons rfl (zt_cov_cons rfl (zt_cov_nil))))))) (S_L_law_2598 hX  hr28 _ _ _ h)
set_option maxRecDepth 100000 in
theorem S_L_law_1223 {X : q_X} (hX : X.1 ≤ 1000000)   {r28 : Int → zt_S → Option (Int × zt_S)} (hr28 : ∀ (v5 : Int) (σ : zt_S) (o : (Int × zt_S)), r28 v5 σ = some o → zt_Ex X 54 351 28 [(0, .ref q_big), (1, .ref 0), (2, .ref 163), (3, .ref 184), (4, .ref 185), (5, .int (Int32.ofInt v5))] [] (zt_M σ) (zo_I o)) : ∀ (v5 : Int) (σ : zt_S) (o : (Int × zt_S)), F_L_law_1223 X  r28 v5 σ = some o → zt_Ex X 54 351 1223 [(0, .ref q_big), (1, .ref 0), (2, .ref 163), (3, .ref 184), (4, .ref 185), (5, .int (Int32.ofInt v5))] [] (zt_M σ) (zo_I o) := by
  intro v5 σ o  h
  unfold F_L_law_1223 at h
  refine zt_aload_n zy_351 (show q_ins q_k351 1223 = some (.aload_n 1, 0, 0) from rfl) (v := 0) rfl ?_
  refine zt_aload_n zy_351 (show q_ins q_k351 1224 = some (.aload_n 0, 0, 0) from rfl) (v := q_big) rfl ?_
  refine zt_iload zy_351 (show q_ins q_k351 1225 = some (.iload 5, 0, 0) from rfl) (v := Int32.ofInt v5) rfl ?_
  refine zt_iconst zy_351 (show q_ins q_k351 1227 = some (.iconst 1, 0, 0) from rfl) ?_
  refine zt_iadd zy_351 (show q_ins q_k351 1228 = some (.iadd, 0, 0) from rfl) ?_
  obtain ⟨hg, h⟩ := zt_ckE h
  refine zt_sld zy_351 (show q_ins q_k351 1229 = some (.iaload, 0, 0) from rfl) hg hX ?_
  refine zt_aload_n zy_351 (show q_ins q_k351 1230 = some (.aload_n 3, 0, 0) from rfl) (v := 184) rfl ?_
  obtain ⟨a105, s106, hca105, h⟩ := zt_bdE h
  refine zt_callS (d := 53) zy_351 (show q_ins q_k351 1231 = some (.invokestatic 196, 331, 3) from rfl) zy_331 (by decide) ⟨zq_lt (by decide), by decide⟩ rfl (by simp [Value.category]) (by simp [lg_sl, Value.category]) rfl (zt_dm (by decide) (S_L_told hca105)) ?_
  refine zt_istore zy_351 (show q_ins q_k351 1234 = some (.istore 6, 0, 0) from rfl) (by decide) ?_
  refine zt_aload_n zy_351 (show q_ins q_k351 1236 = some (.aload_n 2, 0, 0) from rfl) (v := 163) rfl ?_
  refine zt_aload_n zy_351 (show q_ins q_k351 1237 = some (.aload_n 0, 0, 0) from rfl) (v := q_big) rfl ?_
  refine zt_iload zy_351 (show q_ins q_k351 1238 = some (.iload 5, 0, 0) from rfl) (v := Int32.ofInt v5) rfl ?_
  refine zt_iconst zy_351 (show q_ins q_k351 1240 = some (.iconst 1, 0, 0) from rfl) ?_
  refine zt_iadd zy_351 (show q_ins q_k351 1241 = some (.iadd, 0, 0) from rfl) ?_
  obtain ⟨hg, h⟩ := zt_ckE h
  refine zt_sld zy_351 (show q_ins q_k351 1242 = some (.iaload, 0, 0) from rfl) hg hX ?_
  obtain ⟨a107, s108, hca107, h⟩ := zt_bdE h
  refine zt_callV (d := 53) zy_351 (show q_ins q_k351 1243 = some (.invokevirtual 198, 250, 1) from rfl) zy_250 (by decide) ⟨zq_lt (by decide), by decide⟩ rfl (by simp [Value.category]) (by simp [lg_sl, Value.category]) (zt_rcv zc_163) (zt_dm (by decide) (S_M_told hca107)) ?_
  refine zt_istore zy_351 (show q_ins q_k351 1246 = some (.istore 7, 0, 0) from rfl) (by decide) ?_
  refine zt_aload_n zy_351 (show q_ins q_k351 1248 = some (.aload_n 2, 0, 0) from rfl) (v := 163) rfl ?_
  obtain ⟨a109, s110, hca109, h⟩ := zt_bdE h
  refine zt_callV (d := 53) zy_351 (show q_ins q_k351 1249 = some (.invokevirtual 136, 170, 0) from rfl) zy_170 (by decide) ⟨zq_lt (by decide), by decide⟩ rfl (by simp [Value.category]) (by simp [lg_sl, Value.category]) (zt_rcv zc_163) (zt_dm (by decide) (S_M_thrown hca109)) ?_
  refine zt_iload zy_351 (show q_ins q_k351 1252 = some (.iload 6, 0, 0) from rfl) (v := Int32.ofInt a105) rfl ?_
  obtain ⟨hg, h⟩ := zt_ckE h
  refine zt_icmp_eq zy_351 (show q_ins q_k351 1254 = some (.if_icmp .eq 5, 1259, 0) from rfl) (⟨hg.1, hg.2⟩) (fun hc => ?_) (fun hc => ?_)
  · rw [if_pos hc] at h
    refine zt_iload zy_351 (show q_ins q_k351 1259 = some (.iload 6, 0, 0) from rfl) (v := Int32.ofInt a105) rfl ?_
    obtain ⟨hg, h⟩ := zt_ckE h
    refine zt_if_ne zy_351 (show q_ins q_k351 1261 = some (.ifCond .ne 15, 1276, 0) from rfl) (hg) (fun hc => ?_) (fun hc => ?_)
    · rw [if_pos hc] at h
      refine zt_aload_n zy_351 (show q_ins q_k351 1264 = some (.aload_n 3, 0, 0) from rfl) (v := 184) rfl ?_
      refine zt_iconst zy_351 (show q_ins q_k351 1265 = some (.iconst 0, 0, 0) from rfl) ?_
      refine zt_lld zy_351 (show q_ins q_k351 1266 = some (.laload, 0, 0) from rfl) za_184 (by decide) (by decide) ?_
      refine zt_iload zy_351 (show q_ins q_k351 1267 = some (.iload 7, 0, 0) from rfl) (v := Int32.ofInt a107) rfl ?_
      refine zt_i2l zy_351 (show q_ins q_k351 1269 = some (.i2l, 0, 0) from rfl) ?_
      refine zt_lcmp zy_351 (show q_ins q_k351 1270 = some (.lcmp, 0, 0) from rfl) ?_
      refine zt_if_eq zy_351 (show q_ins q_k351 1271 = some (.ifCond .eq 5, 1276, 0) from rfl) (zt_inT _) (fun hc => ?_) (fun hc => ?_)
      · rw [if_pos hc] at h
        exact zt_wk (zt_cov_cons rfl (zt_cov_cons rfl (zt_cov_cons rfl (zt_cov_cons rfl (zt_cov_cons rfl (zt_cov_cons rfl (zt_cov_nil))))))) (S_L_law_1276 hX  hr28 _ _ _ h)
      · rw [if_neg hc] at h
        refine zt_iconst zy_351 (show q_ins q_k351 1274 = some (.iconst 0, 0, 0) from rfl) ?_
        cases h
        exact zt_zret zy_351 (show q_ins q_k351 1275 = some (.ireturn, 0, 0) from rfl) (by decide)
    · rw [if_neg hc] at h
      exact zt_wk (zt_cov_cons rfl (zt_cov_cons rfl (zt_cov_cons rfl (zt_cov_cons rfl (zt_cov_cons rfl (zt_cov_cons rfl (zt_cov_nil))))))) (S_L_law_1276 hX  hr28 _ _ _ h)
  · rw [if_neg hc] at h
    refine zt_iconst zy_351 (show q_ins q_k351 1257 = some (.iconst 0, 0, 0) from rfl) ?_
    cases h
    exact zt_zret zy_351 (show q_ins q_k351 1258 = some (.ireturn, 0, 0) from rfl) (by decide)
set_option maxRecDepth 100000 in
theorem S_L_law_1332 {X : q_X} (hX : X.1 ≤ 1000000)   {r28 : Int → zt_S → Option (Int × zt_S)} (hr28 : ∀ (v5 : Int) (σ : zt_S) (o : (Int × zt_S)), r28 v5 σ = some o → zt_Ex X 54 351 28 [(0, .ref q_big), (1, .ref 0), (2, .ref 163), (3, .ref 184), (4, .ref 185), (5, .int (Int32.ofInt v5))] [] (zt_M σ) (zo_I o)) : ∀ (v5 : Int) (σ : zt_S) (o : (Int × zt_S)), F_L_law_1332 X  r28 v5 σ = some o → zt_Ex X 54 351 1332 [(0, .ref q_big), (1, .ref 0), (2, .ref 163), (3, .ref 184), (4, .ref 185), (5, .int (Int32.ofInt v5))] [] (zt_M σ) (zo_I o) := by
  intro v5 σ o  h
  unfold F_L_law_1332 at h
  refine zt_goto zy_351 (show q_ins q_k351 1332 = some (.goto 1266, 2598, 0) from rfl) ?_
  exact zt_wk (zt_cov_cons rfl (zt_cov_cons rfl (zt_cov_cons rfl (zt_cov_cons rfl (zt_cov_cons rfl (zt_cov_cons rfl (zt_cov_nil))))))) (S_L_law_2598 hX  hr28 _ _ _ h)
set_option maxRecDepth 100000 in
theorem S_L_law_1279 {X : q_X} (hX : X.1 ≤ 1000000)   {r28 : Int → zt_S → Option (Int × zt_S)} (hr28 : ∀ (v5 : Int) (σ : zt_S) (o : (Int × zt_S)), r28 v5 σ = some o → zt_Ex X 54 351 28 [(0, .ref q_big), (1, .ref 0), (2, .ref 163), (3, .ref 184), (4, .ref 185), (5, .int (Int32.ofInt v5))] [] (zt_M σ) (zo_I o)) : ∀ (v5 : Int) (σ : zt_S) (o : (Int × zt_S)), F_L_law_1279 X  r28 v5 σ = some o → zt_Ex X 54 351 1279 [(0, .ref q_big), (1, .ref 0), (2, .ref 163), (3, .ref 184), (4, .ref 185), (5, .int (Int32.ofInt v5))] [] (zt_M σ) (zo_I o) := by
  intro v5 σ o  h
  unfold F_L_law_1279 at h
  refine zt_aload_n zy_351 (show q_ins q_k351 1279 = some (.aload_n 1, 0, 0) from rfl) (v := 0) rfl ?_
  refine zt_aload_n zy_351 (show q_ins q_k351 1280 = some (.aload_n 0, 0, 0) from rfl) (v := q_big) rfl ?_
  refine zt_iload zy_351 (show q_ins q_k351 1281 = some (.iload 5, 0, 0) from rfl) (v := Int32.ofInt v5) rfl ?_
  refine zt_iconst zy_351 (show q_ins q_k351 1283 = some (.iconst 1, 0, 0) from rfl) ?_
  refine zt_iadd zy_351 (show q_ins q_k351 1284 = some (.iadd, 0, 0) from rfl) ?_
  obtain ⟨hg, h⟩ := zt_ckE h
  refine zt_sld zy_351 (show q_ins q_k351 1285 = some (.iaload, 0, 0) from rfl) hg hX ?_
  refine zt_aload_n zy_351 (show q_ins q_k351 1286 = some (.aload_n 3, 0, 0) from rfl) (v := 184) rfl ?_
  obtain ⟨a111, s112, hca111, h⟩ := zt_bdE h
  refine zt_callS (d := 53) zy_351 (show q_ins q_k351 1287 = some (.invokestatic 199, 332, 3) from rfl) zy_332 (by decide) ⟨zq_lt (by decide), by decide⟩ rfl (by simp [Value.category]) (by simp [lg_sl, Value.category]) rfl (zt_dm (by decide) (S_L_result hca111)) ?_
  refine zt_istore zy_351 (show q_ins q_k351 1290 = some (.istore 6, 0, 0) from rfl) (by decide) ?_
  refine zt_aload_n zy_351 (show q_ins q_k351 1292 = some (.aload_n 2, 0, 0) from rfl) (v := 163) rfl ?_
  refine zt_aload_n zy_351 (show q_ins q_k351 1293 = some (.aload_n 0, 0, 0) from rfl) (v := q_big) rfl ?_
  refine zt_iload zy_351 (show q_ins q_k351 1294 = some (.iload 5, 0, 0) from rfl) (v := Int32.ofInt v5) rfl ?_
  refine zt_iconst zy_351 (show q_ins q_k351 1296 = some (.iconst 1, 0, 0) from rfl) ?_
  refine zt_iadd zy_351 (show q_ins q_k351 1297 = some (.iadd, 0, 0) from rfl) ?_
  obtain ⟨hg, h⟩ := zt_ckE h
  refine zt_sld zy_351 (show q_ins q_k351 1298 = some (.iaload, 0, 0) from rfl) hg hX ?_
  obtain ⟨a113, s114, hca113, h⟩ := zt_bdE h
  refine zt_callV (d := 53) zy_351 (show q_ins q_k351 1299 = some (.invokevirtual 201, 251, 1) from rfl) zy_251 (by decide) ⟨zq_lt (by decide), by decide⟩ rfl (by simp [Value.category]) (by simp [lg_sl, Value.category]) (zt_rcv zc_163) (zt_dm (by decide) (S_M_result hca113)) ?_
  refine zt_istore zy_351 (show q_ins q_k351 1302 = some (.istore 7, 0, 0) from rfl) (by decide) ?_
  refine zt_aload_n zy_351 (show q_ins q_k351 1304 = some (.aload_n 2, 0, 0) from rfl) (v := 163) rfl ?_
  obtain ⟨a115, s116, hca115, h⟩ := zt_bdE h
  refine zt_callV (d := 53) zy_351 (show q_ins q_k351 1305 = some (.invokevirtual 136, 170, 0) from rfl) zy_170 (by decide) ⟨zq_lt (by decide), by decide⟩ rfl (by simp [Value.category]) (by simp [lg_sl, Value.category]) (zt_rcv zc_163) (zt_dm (by decide) (S_M_thrown hca115)) ?_
  refine zt_iload zy_351 (show q_ins q_k351 1308 = some (.iload 6, 0, 0) from rfl) (v := Int32.ofInt a111) rfl ?_
  obtain ⟨hg, h⟩ := zt_ckE h
  refine zt_icmp_eq zy_351 (show q_ins q_k351 1310 = some (.if_icmp .eq 5, 1315, 0) from rfl) (⟨hg.1, hg.2⟩) (fun hc => ?_) (fun hc => ?_)
  · rw [if_pos hc] at h
    refine zt_iload zy_351 (show q_ins q_k351 1315 = some (.iload 6, 0, 0) from rfl) (v := Int32.ofInt a111) rfl ?_
    obtain ⟨hg, h⟩ := zt_ckE h
    refine zt_if_ne zy_351 (show q_ins q_k351 1317 = some (.ifCond .ne 15, 1332, 0) from rfl) (hg) (fun hc => ?_) (fun hc => ?_)
    · rw [if_pos hc] at h
      refine zt_aload_n zy_351 (show q_ins q_k351 1320 = some (.aload_n 3, 0, 0) from rfl) (v := 184) rfl ?_
      refine zt_iconst zy_351 (show q_ins q_k351 1321 = some (.iconst 0, 0, 0) from rfl) ?_
      refine zt_lld zy_351 (show q_ins q_k351 1322 = some (.laload, 0, 0) from rfl) za_184 (by decide) (by decide) ?_
      refine zt_iload zy_351 (show q_ins q_k351 1323 = some (.iload 7, 0, 0) from rfl) (v := Int32.ofInt a113) rfl ?_
      refine zt_i2l zy_351 (show q_ins q_k351 1325 = some (.i2l, 0, 0) from rfl) ?_
      refine zt_lcmp zy_351 (show q_ins q_k351 1326 = some (.lcmp, 0, 0) from rfl) ?_
      refine zt_if_eq zy_351 (show q_ins q_k351 1327 = some (.ifCond .eq 5, 1332, 0) from rfl) (zt_inT _) (fun hc => ?_) (fun hc => ?_)
      · rw [if_pos hc] at h
        exact zt_wk (zt_cov_cons rfl (zt_cov_cons rfl (zt_cov_cons rfl (zt_cov_cons rfl (zt_cov_cons rfl (zt_cov_cons rfl (zt_cov_nil))))))) (S_L_law_1332 hX  hr28 _ _ _ h)
      · rw [if_neg hc] at h
        refine zt_iconst zy_351 (show q_ins q_k351 1330 = some (.iconst 0, 0, 0) from rfl) ?_
        cases h
        exact zt_zret zy_351 (show q_ins q_k351 1331 = some (.ireturn, 0, 0) from rfl) (by decide)
    · rw [if_neg hc] at h
      exact zt_wk (zt_cov_cons rfl (zt_cov_cons rfl (zt_cov_cons rfl (zt_cov_cons rfl (zt_cov_cons rfl (zt_cov_cons rfl (zt_cov_nil))))))) (S_L_law_1332 hX  hr28 _ _ _ h)
  · rw [if_neg hc] at h
    refine zt_iconst zy_351 (show q_ins q_k351 1313 = some (.iconst 0, 0, 0) from rfl) ?_
    cases h
    exact zt_zret zy_351 (show q_ins q_k351 1314 = some (.ireturn, 0, 0) from rfl) (by decide)
set_option maxRecDepth 100000 in
theorem S_L_law_1388 {X : q_X} (hX : X.1 ≤ 1000000)   {r28 : Int → zt_S → Option (Int × zt_S)} (hr28 : ∀ (v5 : Int) (σ : zt_S) (o : (Int × zt_S)), r28 v5 σ = some o → zt_Ex X 54 351 28 [(0, .ref q_big), (1, .ref 0), (2, .ref 163), (3, .ref 184), (4, .ref 185), (5, .int (Int32.ofInt v5))] [] (zt_M σ) (zo_I o)) : ∀ (v5 : Int) (σ : zt_S) (o : (Int × zt_S)), F_L_law_1388 X  r28 v5 σ = some o → zt_Ex X 54 351 1388 [(0, .ref q_big), (1, .ref 0), (2, .ref 163), (3, .ref 184), (4, .ref 185), (5, .int (Int32.ofInt v5))] [] (zt_M σ) (zo_I o) := by
  intro v5 σ o  h
  unfold F_L_law_1388 at h
  refine zt_goto zy_351 (show q_ins q_k351 1388 = some (.goto 1210, 2598, 0) from rfl) ?_
  exact zt_wk (zt_cov_cons rfl (zt_cov_cons rfl (zt_cov_cons rfl (zt_cov_cons rfl (zt_cov_cons rfl (zt_cov_cons rfl (zt_cov_nil))))))) (S_L_law_2598 hX  hr28 _ _ _ h)
set_option maxRecDepth 100000 in
theorem S_L_law_1335 {X : q_X} (hX : X.1 ≤ 1000000)   {r28 : Int → zt_S → Option (Int × zt_S)} (hr28 : ∀ (v5 : Int) (σ : zt_S) (o : (Int × zt_S)), r28 v5 σ = some o → zt_Ex X 54 351 28 [(0, .ref q_big), (1, .ref 0), (2, .ref 163), (3, .ref 184), (4, .ref 185), (5, .int (Int32.ofInt v5))] [] (zt_M σ) (zo_I o)) : ∀ (v5 : Int) (σ : zt_S) (o : (Int × zt_S)), F_L_law_1335 X  r28 v5 σ = some o → zt_Ex X 54 351 1335 [(0, .ref q_big), (1, .ref 0), (2, .ref 163), (3, .ref 184), (4, .ref 185), (5, .int (Int32.ofInt v5))] [] (zt_M σ) (zo_I o) := by
  intro v5 σ o  h
  unfold F_L_law_1335 at h
  refine zt_aload_n zy_351 (show q_ins q_k351 1335 = some (.aload_n 1, 0, 0) from rfl) (v := 0) rfl ?_
  refine zt_aload_n zy_351 (show q_ins q_k351 1336 = some (.aload_n 0, 0, 0) from rfl) (v := q_big) rfl ?_
  refine zt_iload zy_351 (show q_ins q_k351 1337 = some (.iload 5, 0, 0) from rfl) (v := Int32.ofInt v5) rfl ?_
  refine zt_iconst zy_351 (show q_ins q_k351 1339 = some (.iconst 1, 0, 0) from rfl) ?_
  refine zt_iadd zy_351 (show q_ins q_k351 1340 = some (.iadd, 0, 0) from rfl) ?_
  obtain ⟨hg, h⟩ := zt_ckE h
  refine zt_sld zy_351 (show q_ins q_k351 1341 = some (.iaload, 0, 0) from rfl) hg hX ?_
  refine zt_aload_n zy_351 (show q_ins q_k351 1342 = some (.aload_n 3, 0, 0) from rfl) (v := 184) rfl ?_
  obtain ⟨a117, s118, hca117, h⟩ := zt_bdE h
  refine zt_callS (d := 53) zy_351 (show q_ins q_k351 1343 = some (.invokestatic 202, 333, 3) from rfl) zy_333 (by decide) ⟨zq_lt (by decide), by decide⟩ rfl (by simp [Value.category]) (by simp [lg_sl, Value.category]) rfl (zt_dm (by decide) (S_L_points hca117)) ?_
  refine zt_istore zy_351 (show q_ins q_k351 1346 = some (.istore 6, 0, 0) from rfl) (by decide) ?_
  refine zt_aload_n zy_351 (show q_ins q_k351 1348 = some (.aload_n 2, 0, 0) from rfl) (v := 163) rfl ?_
  refine zt_aload_n zy_351 (show q_ins q_k351 1349 = some (.aload_n 0, 0, 0) from rfl) (v := q_big) rfl ?_
  refine zt_iload zy_351 (show q_ins q_k351 1350 = some (.iload 5, 0, 0) from rfl) (v := Int32.ofInt v5) rfl ?_
  refine zt_iconst zy_351 (show q_ins q_k351 1352 = some (.iconst 1, 0, 0) from rfl) ?_
  refine zt_iadd zy_351 (show q_ins q_k351 1353 = some (.iadd, 0, 0) from rfl) ?_
  obtain ⟨hg, h⟩ := zt_ckE h
  refine zt_sld zy_351 (show q_ins q_k351 1354 = some (.iaload, 0, 0) from rfl) hg hX ?_
  obtain ⟨a119, s120, hca119, h⟩ := zt_bdE h
  refine zt_callV (d := 53) zy_351 (show q_ins q_k351 1355 = some (.invokevirtual 204, 252, 1) from rfl) zy_252 (by decide) ⟨zq_lt (by decide), by decide⟩ rfl (by simp [Value.category]) (by simp [lg_sl, Value.category]) (zt_rcv zc_163) (zt_dm (by decide) (S_M_points hca119)) ?_
  refine zt_istore zy_351 (show q_ins q_k351 1358 = some (.istore 7, 0, 0) from rfl) (by decide) ?_
  refine zt_aload_n zy_351 (show q_ins q_k351 1360 = some (.aload_n 2, 0, 0) from rfl) (v := 163) rfl ?_
  obtain ⟨a121, s122, hca121, h⟩ := zt_bdE h
  refine zt_callV (d := 53) zy_351 (show q_ins q_k351 1361 = some (.invokevirtual 136, 170, 0) from rfl) zy_170 (by decide) ⟨zq_lt (by decide), by decide⟩ rfl (by simp [Value.category]) (by simp [lg_sl, Value.category]) (zt_rcv zc_163) (zt_dm (by decide) (S_M_thrown hca121)) ?_
  refine zt_iload zy_351 (show q_ins q_k351 1364 = some (.iload 6, 0, 0) from rfl) (v := Int32.ofInt a117) rfl ?_
  obtain ⟨hg, h⟩ := zt_ckE h
  refine zt_icmp_eq zy_351 (show q_ins q_k351 1366 = some (.if_icmp .eq 5, 1371, 0) from rfl) (⟨hg.1, hg.2⟩) (fun hc => ?_) (fun hc => ?_)
  · rw [if_pos hc] at h
    refine zt_iload zy_351 (show q_ins q_k351 1371 = some (.iload 6, 0, 0) from rfl) (v := Int32.ofInt a117) rfl ?_
    obtain ⟨hg, h⟩ := zt_ckE h
    refine zt_if_ne zy_351 (show q_ins q_k351 1373 = some (.ifCond .ne 15, 1388, 0) from rfl) (hg) (fun hc => ?_) (fun hc => ?_)
    · rw [if_pos hc] at h
      refine zt_aload_n zy_351 (show q_ins q_k351 1376 = some (.aload_n 3, 0, 0) from rfl) (v := 184) rfl ?_
      refine zt_iconst zy_351 (show q_ins q_k351 1377 = some (.iconst 0, 0, 0) from rfl) ?_
      refine zt_lld zy_351 (show q_ins q_k351 1378 = some (.laload, 0, 0) from rfl) za_184 (by decide) (by decide) ?_
      refine zt_iload zy_351 (show q_ins q_k351 1379 = some (.iload 7, 0, 0) from rfl) (v := Int32.ofInt a119) rfl ?_
      refine zt_i2l zy_351 (show q_ins q_k351 1381 = some (.i2l, 0, 0) from rfl) ?_
      refine zt_lcmp zy_351 (show q_ins q_k351 1382 = some (.lcmp, 0, 0) from rfl) ?_
      refine zt_if_eq zy_351 (show q_ins q_k351 1383 = some (.ifCond .eq 5, 1388, 0) from rfl) (zt_inT _) (fun hc => ?_) (fun hc => ?_)
      · rw [if_pos hc] at h
        exact zt_wk (zt_cov_cons rfl (zt_cov_cons rfl (zt_cov_cons rfl (zt_cov_cons rfl (zt_cov_cons rfl (zt_cov_cons rfl (zt_cov_nil))))))) (S_L_law_1388 hX  hr28 _ _ _ h)
      · rw [if_neg hc] at h
        refine zt_iconst zy_351 (show q_ins q_k351 1386 = some (.iconst 0, 0, 0) from rfl) ?_
        cases h
        exact zt_zret zy_351 (show q_ins q_k351 1387 = some (.ireturn, 0, 0) from rfl) (by decide)
    · rw [if_neg hc] at h
      exact zt_wk (zt_cov_cons rfl (zt_cov_cons rfl (zt_cov_cons rfl (zt_cov_cons rfl (zt_cov_cons rfl (zt_cov_cons rfl (zt_cov_nil))))))) (S_L_law_1388 hX  hr28 _ _ _ h)
  · rw [if_neg hc] at h
    refine zt_iconst zy_351 (show q_ins q_k351 1369 = some (.iconst 0, 0, 0) from rfl) ?_
    cases h
    exact zt_zret zy_351 (show q_ins q_k351 1370 = some (.ireturn, 0, 0) from rfl) (by decide)
set_option maxRecDepth 100000 in
theorem S_L_law_1444 {X : q_X} (hX : X.1 ≤ 1000000)   {r28 : Int → zt_S → Option (Int × zt_S)} (hr28 : ∀ (v5 : Int) (σ : zt_S) (o : (Int × zt_S)), r28 v5 σ = some o → zt_Ex X 54 351 28 [(0, .ref q_big), (1, .ref 0), (2, .ref 163), (3, .ref 184), (4, .ref 185), (5, .int (Int32.ofInt v5))] [] (zt_M σ) (zo_I o)) : ∀ (v5 : Int) (σ : zt_S) (o : (Int × zt_S)), F_L_law_1444 X  r28 v5 σ = some o → zt_Ex X 54 351 1444 [(0, .ref q_big), (1, .ref 0), (2, .ref 163), (3, .ref 184), (4, .ref 185), (5, .int (Int32.ofInt v5))] [] (zt_M σ) (zo_I o) := by
  intro v5 σ o  h
  unfold F_L_law_1444 at h
  refine zt_goto zy_351 (show q_ins q_k351 1444 = some (.goto 1154, 2598, 0) from rfl) ?_
  exact zt_wk (zt_cov_cons rfl (zt_cov_cons rfl (zt_cov_cons rfl (zt_cov_cons rfl (zt_cov_cons rfl (zt_cov_cons rfl (zt_cov_nil))))))) (S_L_law_2598 hX  hr28 _ _ _ h)
set_option maxRecDepth 100000 in
theorem S_L_law_1391 {X : q_X} (hX : X.1 ≤ 1000000)   {r28 : Int → zt_S → Option (Int × zt_S)} (hr28 : ∀ (v5 : Int) (σ : zt_S) (o : (Int × zt_S)), r28 v5 σ = some o → zt_Ex X 54 351 28 [(0, .ref q_big), (1, .ref 0), (2, .ref 163), (3, .ref 184), (4, .ref 185), (5, .int (Int32.ofInt v5))] [] (zt_M σ) (zo_I o)) : ∀ (v5 : Int) (σ : zt_S) (o : (Int × zt_S)), F_L_law_1391 X  r28 v5 σ = some o → zt_Ex X 54 351 1391 [(0, .ref q_big), (1, .ref 0), (2, .ref 163), (3, .ref 184), (4, .ref 185), (5, .int (Int32.ofInt v5))] [] (zt_M σ) (zo_I o) := by
  intro v5 σ o  h
  unfold F_L_law_1391 at h
  refine zt_aload_n zy_351 (show q_ins q_k351 1391 = some (.aload_n 1, 0, 0) from rfl) (v := 0) rfl ?_
  refine zt_aload_n zy_351 (show q_ins q_k351 1392 = some (.aload_n 0, 0, 0) from rfl) (v := q_big) rfl ?_
  refine zt_iload zy_351 (show q_ins q_k351 1393 = some (.iload 5, 0, 0) from rfl) (v := Int32.ofInt v5) rfl ?_
  refine zt_iconst zy_351 (show q_ins q_k351 1395 = some (.iconst 1, 0, 0) from rfl) ?_
  refine zt_iadd zy_351 (show q_ins q_k351 1396 = some (.iadd, 0, 0) from rfl) ?_
  obtain ⟨hg, h⟩ := zt_ckE h
  refine zt_sld zy_351 (show q_ins q_k351 1397 = some (.iaload, 0, 0) from rfl) hg hX ?_
  refine zt_aload_n zy_351 (show q_ins q_k351 1398 = some (.aload_n 3, 0, 0) from rfl) (v := 184) rfl ?_
  obtain ⟨a123, s124, hca123, h⟩ := zt_bdE h
  refine zt_callS (d := 53) zy_351 (show q_ins q_k351 1399 = some (.invokestatic 205, 334, 3) from rfl) zy_334 (by decide) ⟨zq_lt (by decide), by decide⟩ rfl (by simp [Value.category]) (by simp [lg_sl, Value.category]) rfl (zt_dm (by decide) (S_L_ranking hca123)) ?_
  refine zt_istore zy_351 (show q_ins q_k351 1402 = some (.istore 6, 0, 0) from rfl) (by decide) ?_
  refine zt_aload_n zy_351 (show q_ins q_k351 1404 = some (.aload_n 2, 0, 0) from rfl) (v := 163) rfl ?_
  refine zt_aload_n zy_351 (show q_ins q_k351 1405 = some (.aload_n 0, 0, 0) from rfl) (v := q_big) rfl ?_
  refine zt_iload zy_351 (show q_ins q_k351 1406 = some (.iload 5, 0, 0) from rfl) (v := Int32.ofInt v5) rfl ?_
  refine zt_iconst zy_351 (show q_ins q_k351 1408 = some (.iconst 1, 0, 0) from rfl) ?_
  refine zt_iadd zy_351 (show q_ins q_k351 1409 = some (.iadd, 0, 0) from rfl) ?_
  obtain ⟨hg, h⟩ := zt_ckE h
  refine zt_sld zy_351 (show q_ins q_k351 1410 = some (.iaload, 0, 0) from rfl) hg hX ?_
  obtain ⟨a125, s126, hca125, h⟩ := zt_bdE h
  refine zt_callV (d := 53) zy_351 (show q_ins q_k351 1411 = some (.invokevirtual 207, 253, 1) from rfl) zy_253 (by decide) ⟨zq_lt (by decide), by decide⟩ rfl (by simp [Value.category]) (by simp [lg_sl, Value.category]) (zt_rcv zc_163) (zt_dm (by decide) (S_M_ranking hca125)) ?_
  refine zt_istore zy_351 (show q_ins q_k351 1414 = some (.istore 7, 0, 0) from rfl) (by decide) ?_
  refine zt_aload_n zy_351 (show q_ins q_k351 1416 = some (.aload_n 2, 0, 0) from rfl) (v := 163) rfl ?_
  obtain ⟨a127, s128, hca127, h⟩ := zt_bdE h
  refine zt_callV (d := 53) zy_351 (show q_ins q_k351 1417 = some (.invokevirtual 136, 170, 0) from rfl) zy_170 (by decide) ⟨zq_lt (by decide), by decide⟩ rfl (by simp [Value.category]) (by simp [lg_sl, Value.category]) (zt_rcv zc_163) (zt_dm (by decide) (S_M_thrown hca127)) ?_
  refine zt_iload zy_351 (show q_ins q_k351 1420 = some (.iload 6, 0, 0) from rfl) (v := Int32.ofInt a123) rfl ?_
  obtain ⟨hg, h⟩ := zt_ckE h
  refine zt_icmp_eq zy_351 (show q_ins q_k351 1422 = some (.if_icmp .eq 5, 1427, 0) from rfl) (⟨hg.1, hg.2⟩) (fun hc => ?_) (fun hc => ?_)
  · rw [if_pos hc] at h
    refine zt_iload zy_351 (show q_ins q_k351 1427 = some (.iload 6, 0, 0) from rfl) (v := Int32.ofInt a123) rfl ?_
    obtain ⟨hg, h⟩ := zt_ckE h
    refine zt_if_ne zy_351 (show q_ins q_k351 1429 = some (.ifCond .ne 15, 1444, 0) from rfl) (hg) (fun hc => ?_) (fun hc => ?_)
    · rw [if_pos hc] at h
      refine zt_aload_n zy_351 (show q_ins q_k351 1432 = some (.aload_n 3, 0, 0) from rfl) (v := 184) rfl ?_
      refine zt_iconst zy_351 (show q_ins q_k351 1433 = some (.iconst 0, 0, 0) from rfl) ?_
      refine zt_lld zy_351 (show q_ins q_k351 1434 = some (.laload, 0, 0) from rfl) za_184 (by decide) (by decide) ?_
      refine zt_iload zy_351 (show q_ins q_k351 1435 = some (.iload 7, 0, 0) from rfl) (v := Int32.ofInt a125) rfl ?_
      refine zt_i2l zy_351 (show q_ins q_k351 1437 = some (.i2l, 0, 0) from rfl) ?_
      refine zt_lcmp zy_351 (show q_ins q_k351 1438 = some (.lcmp, 0, 0) from rfl) ?_
      refine zt_if_eq zy_351 (show q_ins q_k351 1439 = some (.ifCond .eq 5, 1444, 0) from rfl) (zt_inT _) (fun hc => ?_) (fun hc => ?_)
      · rw [if_pos hc] at h
        exact zt_wk (zt_cov_cons rfl (zt_cov_cons rfl (zt_cov_cons rfl (zt_cov_cons rfl (zt_cov_cons rfl (zt_cov_cons rfl (zt_cov_nil))))))) (S_L_law_1444 hX  hr28 _ _ _ h)
      · rw [if_neg hc] at h
        refine zt_iconst zy_351 (show q_ins q_k351 1442 = some (.iconst 0, 0, 0) from rfl) ?_
        cases h
        exact zt_zret zy_351 (show q_ins q_k351 1443 = some (.ireturn, 0, 0) from rfl) (by decide)
    · rw [if_neg hc] at h
      exact zt_wk (zt_cov_cons rfl (zt_cov_cons rfl (zt_cov_cons rfl (zt_cov_cons rfl (zt_cov_cons rfl (zt_cov_cons rfl (zt_cov_nil))))))) (S_L_law_1444 hX  hr28 _ _ _ h)
  · rw [if_neg hc] at h
    refine zt_iconst zy_351 (show q_ins q_k351 1425 = some (.iconst 0, 0, 0) from rfl) ?_
    cases h
    exact zt_zret zy_351 (show q_ins q_k351 1426 = some (.ireturn, 0, 0) from rfl) (by decide)
set_option maxRecDepth 100000 in
theorem S_L_law_1519 {X : q_X} (hX : X.1 ≤ 1000000)   {r28 : Int → zt_S → Option (Int × zt_S)} (hr28 : ∀ (v5 : Int) (σ : zt_S) (o : (Int × zt_S)), r28 v5 σ = some o → zt_Ex X 54 351 28 [(0, .ref q_big), (1, .ref 0), (2, .ref 163), (3, .ref 184), (4, .ref 185), (5, .int (Int32.ofInt v5))] [] (zt_M σ) (zo_I o)) : ∀ (v5 : Int) (σ : zt_S) (o : (Int × zt_S)), F_L_law_1519 X  r28 v5 σ = some o → zt_Ex X 54 351 1519 [(0, .ref q_big), (1, .ref 0), (2, .ref 163), (3, .ref 184), (4, .ref 185), (5, .int (Int32.ofInt v5))] [] (zt_M σ) (zo_I o) := by
  intro v5 σ o  h
  unfold F_L_law_1519 at h
  refine zt_goto zy_351 (show q_ins q_k351 1519 = some (.goto 1079, 2598, 0) from rfl) ?_
  exact zt_wk (zt_cov_cons rfl (zt_cov_cons rfl (zt_cov_cons rfl (zt_cov_cons rfl (zt_cov_cons rfl (zt_cov_cons rfl (zt_cov_nil))))))) (S_L_law_2598 hX  hr28 _ _ _ h)
set_option maxRecDepth 100000 in
theorem S_L_law_1513 {X : q_X} (hX : X.1 ≤ 1000000)   {r28 : Int → zt_S → Option (Int × zt_S)} (hr28 : ∀ (v5 : Int) (σ : zt_S) (o : (Int × zt_S)), r28 v5 σ = some o → zt_Ex X 54 351 28 [(0, .ref q_big), (1, .ref 0), (2, .ref 163), (3, .ref 184), (4, .ref 185), (5, .int (Int32.ofInt v5))] [] (zt_M σ) (zo_I o)) : ∀ (v5 : Int) (x0 : Int64) (x1 : Int64) (σ : zt_S) (o : (Int × zt_S)), F_L_law_1513 X  r28 v5 x0 x1 σ = some o → zt_Ex X 54 351 1513 [(0, .ref q_big), (1, .ref 0), (2, .ref 163), (3, .ref 184), (4, .ref 185), (5, .int (Int32.ofInt v5))] [.long x0, .long x1] (zt_M σ) (zo_I o) := by
  intro v5 x0 x1 σ o  h
  unfold F_L_law_1513 at h
  refine zt_lcmp zy_351 (show q_ins q_k351 1513 = some (.lcmp, 0, 0) from rfl) ?_
  refine zt_if_eq zy_351 (show q_ins q_k351 1514 = some (.ifCond .eq 5, 1519, 0) from rfl) (zt_inT _) (fun hc => ?_) (fun hc => ?_)
  · rw [if_pos hc] at h
    exact zt_wk (zt_cov_cons rfl (zt_cov_cons rfl (zt_cov_cons rfl (zt_cov_cons rfl (zt_cov_cons rfl (zt_cov_cons rfl (zt_cov_nil))))))) (S_L_law_1519 hX  hr28 _ _ _ h)
  · rw [if_neg hc] at h
    refine zt_iconst zy_351 (show q_ins q_k351 1517 = some (.iconst 0, 0, 0) from rfl) ?_
    cases h
    exact zt_zret zy_351 (show q_ins q_k351 1518 = some (.ireturn, 0, 0) from rfl) (by decide)
set_option maxRecDepth 100000 in
theorem S_L_law_1447 {X : q_X} (hX : X.1 ≤ 1000000)   {r28 : Int → zt_S → Option (Int × zt_S)} (hr28 : ∀ (v5 : Int) (σ : zt_S) (o : (Int × zt_S)), r28 v5 σ = some o → zt_Ex X 54 351 28 [(0, .ref q_big), (1, .ref 0), (2, .ref 163), (3, .ref 184), (4, .ref 185), (5, .int (Int32.ofInt v5))] [] (zt_M σ) (zo_I o)) : ∀ (v5 : Int) (σ : zt_S) (o : (Int × zt_S)), F_L_law_1447 X  r28 v5 σ = some o → zt_Ex X 54 351 1447 [(0, .ref q_big), (1, .ref 0), (2, .ref 163), (3, .ref 184), (4, .ref 185), (5, .int (Int32.ofInt v5))] [] (zt_M σ) (zo_I o) := by
  intro v5 σ o  h
  unfold F_L_law_1447 at h
  refine zt_aload_n zy_351 (show q_ins q_k351 1447 = some (.aload_n 1, 0, 0) from rfl) (v := 0) rfl ?_
  refine zt_aload_n zy_351 (show q_ins q_k351 1448 = some (.aload_n 0, 0, 0) from rfl) (v := q_big) rfl ?_
  refine zt_iload zy_351 (show q_ins q_k351 1449 = some (.iload 5, 0, 0) from rfl) (v := Int32.ofInt v5) rfl ?_
  refine zt_iconst zy_351 (show q_ins q_k351 1451 = some (.iconst 1, 0, 0) from rfl) ?_
  refine zt_iadd zy_351 (show q_ins q_k351 1452 = some (.iadd, 0, 0) from rfl) ?_
  obtain ⟨hg, h⟩ := zt_ckE h
  refine zt_sld zy_351 (show q_ins q_k351 1453 = some (.iaload, 0, 0) from rfl) hg hX ?_
  refine zt_aload_n zy_351 (show q_ins q_k351 1454 = some (.aload_n 0, 0, 0) from rfl) (v := q_big) rfl ?_
  refine zt_iload zy_351 (show q_ins q_k351 1455 = some (.iload 5, 0, 0) from rfl) (v := Int32.ofInt v5) rfl ?_
  refine zt_iconst zy_351 (show q_ins q_k351 1457 = some (.iconst 2, 0, 0) from rfl) ?_
  refine zt_iadd zy_351 (show q_ins q_k351 1458 = some (.iadd, 0, 0) from rfl) ?_
  obtain ⟨hg, h⟩ := zt_ckE h
  refine zt_sld zy_351 (show q_ins q_k351 1459 = some (.iaload, 0, 0) from rfl) hg hX ?_
  refine zt_aload_n zy_351 (show q_ins q_k351 1460 = some (.aload_n 3, 0, 0) from rfl) (v := 184) rfl ?_
  obtain ⟨a129, s130, hca129, h⟩ := zt_bdE h
  refine zt_callS (d := 53) zy_351 (show q_ins q_k351 1461 = some (.invokestatic 208, 335, 4) from rfl) zy_335 (by decide) ⟨zq_lt (by decide), by decide⟩ rfl (by simp [Value.category]) (by simp [lg_sl, Value.category]) rfl (zt_dm (by decide) (S_L_lacks hca129)) ?_
  refine zt_istore zy_351 (show q_ins q_k351 1464 = some (.istore 6, 0, 0) from rfl) (by decide) ?_
  refine zt_aload_n zy_351 (show q_ins q_k351 1466 = some (.aload_n 2, 0, 0) from rfl) (v := 163) rfl ?_
  refine zt_aload_n zy_351 (show q_ins q_k351 1467 = some (.aload_n 0, 0, 0) from rfl) (v := q_big) rfl ?_
  refine zt_iload zy_351 (show q_ins q_k351 1468 = some (.iload 5, 0, 0) from rfl) (v := Int32.ofInt v5) rfl ?_
  refine zt_iconst zy_351 (show q_ins q_k351 1470 = some (.iconst 1, 0, 0) from rfl) ?_
  refine zt_iadd zy_351 (show q_ins q_k351 1471 = some (.iadd, 0, 0) from rfl) ?_
  obtain ⟨hg, h⟩ := zt_ckE h
  refine zt_sld zy_351 (show q_ins q_k351 1472 = some (.iaload, 0, 0) from rfl) hg hX ?_
  refine zt_aload_n zy_351 (show q_ins q_k351 1473 = some (.aload_n 0, 0, 0) from rfl) (v := q_big) rfl ?_
  refine zt_iload zy_351 (show q_ins q_k351 1474 = some (.iload 5, 0, 0) from rfl) (v := Int32.ofInt v5) rfl ?_
  refine zt_iconst zy_351 (show q_ins q_k351 1476 = some (.iconst 2, 0, 0) from rfl) ?_
  refine zt_iadd zy_351 (show q_ins q_k351 1477 = some (.iadd, 0, 0) from rfl) ?_
  obtain ⟨hg, h⟩ := zt_ckE h
  refine zt_sld zy_351 (show q_ins q_k351 1478 = some (.iaload, 0, 0) from rfl) hg hX ?_
  obtain ⟨a131, s132, hca131, h⟩ := zt_bdE h
  refine zt_callV (d := 53) zy_351 (show q_ins q_k351 1479 = some (.invokevirtual 210, 254, 2) from rfl) zy_254 (by decide) ⟨zq_lt (by decide), by decide⟩ rfl (by simp [Value.category]) (by simp [lg_sl, Value.category]) (zt_rcv zc_163) (zt_dm (by decide) (S_M_lacks hca131)) ?_
  refine zt_istore zy_351 (show q_ins q_k351 1482 = some (.istore 7, 0, 0) from rfl) (by decide) ?_
  refine zt_aload_n zy_351 (show q_ins q_k351 1484 = some (.aload_n 2, 0, 0) from rfl) (v := 163) rfl ?_
  obtain ⟨a133, s134, hca133, h⟩ := zt_bdE h
  refine zt_callV (d := 53) zy_351 (show q_ins q_k351 1485 = some (.invokevirtual 136, 170, 0) from rfl) zy_170 (by decide) ⟨zq_lt (by decide), by decide⟩ rfl (by simp [Value.category]) (by simp [lg_sl, Value.category]) (zt_rcv zc_163) (zt_dm (by decide) (S_M_thrown hca133)) ?_
  refine zt_iload zy_351 (show q_ins q_k351 1488 = some (.iload 6, 0, 0) from rfl) (v := Int32.ofInt a129) rfl ?_
  obtain ⟨hg, h⟩ := zt_ckE h
  refine zt_icmp_eq zy_351 (show q_ins q_k351 1490 = some (.if_icmp .eq 5, 1495, 0) from rfl) (⟨hg.1, hg.2⟩) (fun hc => ?_) (fun hc => ?_)
  · rw [if_pos hc] at h
    refine zt_iload zy_351 (show q_ins q_k351 1495 = some (.iload 6, 0, 0) from rfl) (v := Int32.ofInt a129) rfl ?_
    obtain ⟨hg, h⟩ := zt_ckE h
    refine zt_if_ne zy_351 (show q_ins q_k351 1497 = some (.ifCond .ne 22, 1519, 0) from rfl) (hg) (fun hc => ?_) (fun hc => ?_)
    · rw [if_pos hc] at h
      refine zt_aload_n zy_351 (show q_ins q_k351 1500 = some (.aload_n 3, 0, 0) from rfl) (v := 184) rfl ?_
      refine zt_iconst zy_351 (show q_ins q_k351 1501 = some (.iconst 0, 0, 0) from rfl) ?_
      refine zt_lld zy_351 (show q_ins q_k351 1502 = some (.laload, 0, 0) from rfl) za_184 (by decide) (by decide) ?_
      refine zt_iload zy_351 (show q_ins q_k351 1503 = some (.iload 7, 0, 0) from rfl) (v := Int32.ofInt a131) rfl ?_
      obtain ⟨hg, h⟩ := zt_ckE h
      refine zt_if_eq zy_351 (show q_ins q_k351 1505 = some (.ifCond .eq 7, 1512, 0) from rfl) (hg) (fun hc => ?_) (fun hc => ?_)
      · rw [if_pos hc] at h
        refine zt_lconst zy_351 (show q_ins q_k351 1512 = some (.lconst 0, 0, 0) from rfl) (v := (0 : Int64)) (by decide) ?_
        exact zt_wk (zt_cov_cons rfl (zt_cov_cons rfl (zt_cov_cons rfl (zt_cov_cons rfl (zt_cov_cons rfl (zt_cov_cons rfl (zt_cov_nil))))))) (S_L_law_1513 hX  hr28 _ _ _ _ _ h)
      · rw [if_neg hc] at h
        refine zt_lconst zy_351 (show q_ins q_k351 1508 = some (.lconst 1, 0, 0) from rfl) (v := (1 : Int64)) (by decide) ?_
        refine zt_goto zy_351 (show q_ins q_k351 1509 = some (.goto 4, 1513, 0) from rfl) ?_
        exact zt_wk (zt_cov_cons rfl (zt_cov_cons rfl (zt_cov_cons rfl (zt_cov_cons rfl (zt_cov_cons rfl (zt_cov_cons rfl (zt_cov_nil))))))) (S_L_law_1513 hX  hr28 _ _ _ _ _ h)
    · rw [if_neg hc] at h
      exact zt_wk (zt_cov_cons rfl (zt_cov_cons rfl (zt_cov_cons rfl (zt_cov_cons rfl (zt_cov_cons rfl (zt_cov_cons rfl (zt_cov_nil))))))) (S_L_law_1519 hX  hr28 _ _ _ h)
  · rw [if_neg hc] at h
    refine zt_iconst zy_351 (show q_ins q_k351 1493 = some (.iconst 0, 0, 0) from rfl) ?_
    cases h
    exact zt_zret zy_351 (show q_ins q_k351 1494 = some (.ireturn, 0, 0) from rfl) (by decide)
set_option maxRecDepth 100000 in
theorem S_L_law_1594 {X : q_X} (hX : X.1 ≤ 1000000)   {r28 : Int → zt_S → Option (Int × zt_S)} (hr28 : ∀ (v5 : Int) (σ : zt_S) (o : (Int × zt_S)), r28 v5 σ = some o → zt_Ex X 54 351 28 [(0, .ref q_big), (1, .ref 0), (2, .ref 163), (3, .ref 184), (4, .ref 185), (5, .int (Int32.ofInt v5))] [] (zt_M σ) (zo_I o)) : ∀ (v5 : Int) (σ : zt_S) (o : (Int × zt_S)), F_L_law_1594 X  r28 v5 σ = some o → zt_Ex X 54 351 1594 [(0, .ref q_big), (1, .ref 0), (2, .ref 163), (3, .ref 184), (4, .ref 185), (5, .int (Int32.ofInt v5))] [] (zt_M σ) (zo_I o) := by
  intro v5 σ o  h
  unfold F_L_law_1594 at h
  refine zt_goto zy_351 (show q_ins q_k351 1594 = some (.goto 1004, 2598, 0) from rfl) ?_
  exact zt_wk (zt_cov_cons rfl (zt_cov_cons rfl (zt_cov_cons rfl (zt_cov_cons rfl (zt_cov_cons rfl (zt_cov_cons rfl (zt_cov_nil))))))) (S_L_law_2598 hX  hr28 _ _ _ h)
set_option maxRecDepth 100000 in
theorem S_L_law_1588 {X : q_X} (hX : X.1 ≤ 1000000)   {r28 : Int → zt_S → Option (Int × zt_S)} (hr28 : ∀ (v5 : Int) (σ : zt_S) (o : (Int × zt_S)), r28 v5 σ = some o → zt_Ex X 54 351 28 [(0, .ref q_big), (1, .ref 0), (2, .ref 163), (3, .ref 184), (4, .ref 185), (5, .int (Int32.ofInt v5))] [] (zt_M σ) (zo_I o)) : ∀ (v5 : Int) (x0 : Int64) (x1 : Int64) (σ : zt_S) (o : (Int × zt_S)), F_L_law_1588 X  r28 v5 x0 x1 σ = some o → zt_Ex X 54 351 1588 [(0, .ref q_big), (1, .ref 0), (2, .ref 163), (3, .ref 184), (4, .ref 185), (5, .int (Int32.ofInt v5))] [.long x0, .long x1] (zt_M σ) (zo_I o) := by
  intro v5 x0 x1 σ o  h
  unfold F_L_law_1588 at h
  refine zt_lcmp zy_351 (show q_ins q_k351 1588 = some (.lcmp, 0, 0) from rfl) ?_
  refine zt_if_eq zy_351 (show q_ins q_k351 1589 = some (.ifCond .eq 5, 1594, 0) from rfl) (zt_inT _) (fun hc => ?_) (fun hc => ?_)
  · rw [if_pos hc] at h
    exact zt_wk (zt_cov_cons rfl (zt_cov_cons rfl (zt_cov_cons rfl (zt_cov_cons rfl (zt_cov_cons rfl (zt_cov_cons rfl (zt_cov_nil))))))) (S_L_law_1594 hX  hr28 _ _ _ h)
  · rw [if_neg hc] at h
    refine zt_iconst zy_351 (show q_ins q_k351 1592 = some (.iconst 0, 0, 0) from rfl) ?_
    cases h
    exact zt_zret zy_351 (show q_ins q_k351 1593 = some (.ireturn, 0, 0) from rfl) (by decide)
set_option maxRecDepth 100000 in
theorem S_L_law_1522 {X : q_X} (hX : X.1 ≤ 1000000)   {r28 : Int → zt_S → Option (Int × zt_S)} (hr28 : ∀ (v5 : Int) (σ : zt_S) (o : (Int × zt_S)), r28 v5 σ = some o → zt_Ex X 54 351 28 [(0, .ref q_big), (1, .ref 0), (2, .ref 163), (3, .ref 184), (4, .ref 185), (5, .int (Int32.ofInt v5))] [] (zt_M σ) (zo_I o)) : ∀ (v5 : Int) (σ : zt_S) (o : (Int × zt_S)), F_L_law_1522 X  r28 v5 σ = some o → zt_Ex X 54 351 1522 [(0, .ref q_big), (1, .ref 0), (2, .ref 163), (3, .ref 184), (4, .ref 185), (5, .int (Int32.ofInt v5))] [] (zt_M σ) (zo_I o) := by
  intro v5 σ o  h
  unfold F_L_law_1522 at h
  refine zt_aload_n zy_351 (show q_ins q_k351 1522 = some (.aload_n 1, 0, 0) from rfl) (v := 0) rfl ?_
  refine zt_aload_n zy_351 (show q_ins q_k351 1523 = some (.aload_n 0, 0, 0) from rfl) (v := q_big) rfl ?_
  refine zt_iload zy_351 (show q_ins q_k351 1524 = some (.iload 5, 0, 0) from rfl) (v := Int32.ofInt v5) rfl ?_
  refine zt_iconst zy_351 (show q_ins q_k351 1526 = some (.iconst 1, 0, 0) from rfl) ?_
  refine zt_iadd zy_351 (show q_ins q_k351 1527 = some (.iadd, 0, 0) from rfl) ?_
  obtain ⟨hg, h⟩ := zt_ckE h
  refine zt_sld zy_351 (show q_ins q_k351 1528 = some (.iaload, 0, 0) from rfl) hg hX ?_
  refine zt_aload_n zy_351 (show q_ins q_k351 1529 = some (.aload_n 0, 0, 0) from rfl) (v := q_big) rfl ?_
  refine zt_iload zy_351 (show q_ins q_k351 1530 = some (.iload 5, 0, 0) from rfl) (v := Int32.ofInt v5) rfl ?_
  refine zt_iconst zy_351 (show q_ins q_k351 1532 = some (.iconst 2, 0, 0) from rfl) ?_
  refine zt_iadd zy_351 (show q_ins q_k351 1533 = some (.iadd, 0, 0) from rfl) ?_
  obtain ⟨hg, h⟩ := zt_ckE h
  refine zt_sld zy_351 (show q_ins q_k351 1534 = some (.iaload, 0, 0) from rfl) hg hX ?_
  refine zt_aload_n zy_351 (show q_ins q_k351 1535 = some (.aload_n 3, 0, 0) from rfl) (v := 184) rfl ?_
  obtain ⟨a135, s136, hca135, h⟩ := zt_bdE h
  refine zt_callS (d := 53) zy_351 (show q_ins q_k351 1536 = some (.invokestatic 211, 336, 4) from rfl) zy_336 (by decide) ⟨zq_lt (by decide), by decide⟩ rfl (by simp [Value.category]) (by simp [lg_sl, Value.category]) rfl (zt_dm (by decide) (S_L_could hca135)) ?_
  refine zt_istore zy_351 (show q_ins q_k351 1539 = some (.istore 6, 0, 0) from rfl) (by decide) ?_
  refine zt_aload_n zy_351 (show q_ins q_k351 1541 = some (.aload_n 2, 0, 0) from rfl) (v := 163) rfl ?_
  refine zt_aload_n zy_351 (show q_ins q_k351 1542 = some (.aload_n 0, 0, 0) from rfl) (v := q_big) rfl ?_
  refine zt_iload zy_351 (show q_ins q_k351 1543 = some (.iload 5, 0, 0) from rfl) (v := Int32.ofInt v5) rfl ?_
  refine zt_iconst zy_351 (show q_ins q_k351 1545 = some (.iconst 1, 0, 0) from rfl) ?_
  refine zt_iadd zy_351 (show q_ins q_k351 1546 = some (.iadd, 0, 0) from rfl) ?_
  obtain ⟨hg, h⟩ := zt_ckE h
  refine zt_sld zy_351 (show q_ins q_k351 1547 = some (.iaload, 0, 0) from rfl) hg hX ?_
  refine zt_aload_n zy_351 (show q_ins q_k351 1548 = some (.aload_n 0, 0, 0) from rfl) (v := q_big) rfl ?_
  refine zt_iload zy_351 (show q_ins q_k351 1549 = some (.iload 5, 0, 0) from rfl) (v := Int32.ofInt v5) rfl ?_
  refine zt_iconst zy_351 (show q_ins q_k351 1551 = some (.iconst 2, 0, 0) from rfl) ?_
  refine zt_iadd zy_351 (show q_ins q_k351 1552 = some (.iadd, 0, 0) from rfl) ?_
  obtain ⟨hg, h⟩ := zt_ckE h
  refine zt_sld zy_351 (show q_ins q_k351 1553 = some (.iaload, 0, 0) from rfl) hg hX ?_
  obtain ⟨a137, s138, hca137, h⟩ := zt_bdE h
  refine zt_callV (d := 53) zy_351 (show q_ins q_k351 1554 = some (.invokevirtual 213, 256, 2) from rfl) zy_256 (by decide) ⟨zq_lt (by decide), by decide⟩ rfl (by simp [Value.category]) (by simp [lg_sl, Value.category]) (zt_rcv zc_163) (zt_dm (by decide) (S_M_could hca137)) ?_
  refine zt_istore zy_351 (show q_ins q_k351 1557 = some (.istore 7, 0, 0) from rfl) (by decide) ?_
  refine zt_aload_n zy_351 (show q_ins q_k351 1559 = some (.aload_n 2, 0, 0) from rfl) (v := 163) rfl ?_
  obtain ⟨a139, s140, hca139, h⟩ := zt_bdE h
  refine zt_callV (d := 53) zy_351 (show q_ins q_k351 1560 = some (.invokevirtual 136, 170, 0) from rfl) zy_170 (by decide) ⟨zq_lt (by decide), by decide⟩ rfl (by simp [Value.category]) (by simp [lg_sl, Value.category]) (zt_rcv zc_163) (zt_dm (by decide) (S_M_thrown hca139)) ?_
  refine zt_iload zy_351 (show q_ins q_k351 1563 = some (.iload 6, 0, 0) from rfl) (v := Int32.ofInt a135) rfl ?_
  obtain ⟨hg, h⟩ := zt_ckE h
  refine zt_icmp_eq zy_351 (show q_ins q_k351 1565 = some (.if_icmp .eq 5, 1570, 0) from rfl) (⟨hg.1, hg.2⟩) (fun hc => ?_) (fun hc => ?_)
  · rw [if_pos hc] at h
    refine zt_iload zy_351 (show q_ins q_k351 1570 = some (.iload 6, 0, 0) from rfl) (v := Int32.ofInt a135) rfl ?_
    obtain ⟨hg, h⟩ := zt_ckE h
    refine zt_if_ne zy_351 (show q_ins q_k351 1572 = some (.ifCond .ne 22, 1594, 0) from rfl) (hg) (fun hc => ?_) (fun hc => ?_)
    · rw [if_pos hc] at h
      refine zt_aload_n zy_351 (show q_ins q_k351 1575 = some (.aload_n 3, 0, 0) from rfl) (v := 184) rfl ?_
      refine zt_iconst zy_351 (show q_ins q_k351 1576 = some (.iconst 0, 0, 0) from rfl) ?_
      refine zt_lld zy_351 (show q_ins q_k351 1577 = some (.laload, 0, 0) from rfl) za_184 (by decide) (by decide) ?_
      refine zt_iload zy_351 (show q_ins q_k351 1578 = some (.iload 7, 0, 0) from rfl) (v := Int32.ofInt a137) rfl ?_
      obtain ⟨hg, h⟩ := zt_ckE h
      refine zt_if_eq zy_351 (show q_ins q_k351 1580 = some (.ifCond .eq 7, 1587, 0) from rfl) (hg) (fun hc => ?_) (fun hc => ?_)
      · rw [if_pos hc] at h
        refine zt_lconst zy_351 (show q_ins q_k351 1587 = some (.lconst 0, 0, 0) from rfl) (v := (0 : Int64)) (by decide) ?_
        exact zt_wk (zt_cov_cons rfl (zt_cov_cons rfl (zt_cov_cons rfl (zt_cov_cons rfl (zt_cov_cons rfl (zt_cov_cons rfl (zt_cov_nil))))))) (S_L_law_1588 hX  hr28 _ _ _ _ _ h)
      · rw [if_neg hc] at h
        refine zt_lconst zy_351 (show q_ins q_k351 1583 = some (.lconst 1, 0, 0) from rfl) (v := (1 : Int64)) (by decide) ?_
        refine zt_goto zy_351 (show q_ins q_k351 1584 = some (.goto 4, 1588, 0) from rfl) ?_
        exact zt_wk (zt_cov_cons rfl (zt_cov_cons rfl (zt_cov_cons rfl (zt_cov_cons rfl (zt_cov_cons rfl (zt_cov_cons rfl (zt_cov_nil))))))) (S_L_law_1588 hX  hr28 _ _ _ _ _ h)
    · rw [if_neg hc] at h
      exact zt_wk (zt_cov_cons rfl (zt_cov_cons rfl (zt_cov_cons rfl (zt_cov_cons rfl (zt_cov_cons rfl (zt_cov_cons rfl (zt_cov_nil))))))) (S_L_law_1594 hX  hr28 _ _ _ h)
  · rw [if_neg hc] at h
    refine zt_iconst zy_351 (show q_ins q_k351 1568 = some (.iconst 0, 0, 0) from rfl) ?_
    cases h
    exact zt_zret zy_351 (show q_ins q_k351 1569 = some (.ireturn, 0, 0) from rfl) (by decide)
set_option maxRecDepth 100000 in
theorem S_L_law_1650 {X : q_X} (hX : X.1 ≤ 1000000)   {r28 : Int → zt_S → Option (Int × zt_S)} (hr28 : ∀ (v5 : Int) (σ : zt_S) (o : (Int × zt_S)), r28 v5 σ = some o → zt_Ex X 54 351 28 [(0, .ref q_big), (1, .ref 0), (2, .ref 163), (3, .ref 184), (4, .ref 185), (5, .int (Int32.ofInt v5))] [] (zt_M σ) (zo_I o)) : ∀ (v5 : Int) (σ : zt_S) (o : (Int × zt_S)), F_L_law_1650 X  r28 v5 σ = some o → zt_Ex X 54 351 1650 [(0, .ref q_big), (1, .ref 0), (2, .ref 163), (3, .ref 184), (4, .ref 185), (5, .int (Int32.ofInt v5))] [] (zt_M σ) (zo_I o) := by
  intro v5 σ o  h
  unfold F_L_law_1650 at h
  refine zt_goto zy_351 (show q_ins q_k351 1650 = some (.goto 948, 2598, 0) from rfl) ?_
  exact zt_wk (zt_cov_cons rfl (zt_cov_cons rfl (zt_cov_cons rfl (zt_cov_cons rfl (zt_cov_cons rfl (zt_cov_cons rfl (zt_cov_nil))))))) (S_L_law_2598 hX  hr28 _ _ _ h)
set_option maxRecDepth 100000 in
theorem S_L_law_1597 {X : q_X} (hX : X.1 ≤ 1000000)   {r28 : Int → zt_S → Option (Int × zt_S)} (hr28 : ∀ (v5 : Int) (σ : zt_S) (o : (Int × zt_S)), r28 v5 σ = some o → zt_Ex X 54 351 28 [(0, .ref q_big), (1, .ref 0), (2, .ref 163), (3, .ref 184), (4, .ref 185), (5, .int (Int32.ofInt v5))] [] (zt_M σ) (zo_I o)) : ∀ (v5 : Int) (σ : zt_S) (o : (Int × zt_S)), F_L_law_1597 X  r28 v5 σ = some o → zt_Ex X 54 351 1597 [(0, .ref q_big), (1, .ref 0), (2, .ref 163), (3, .ref 184), (4, .ref 185), (5, .int (Int32.ofInt v5))] [] (zt_M σ) (zo_I o) := by
  intro v5 σ o  h
  unfold F_L_law_1597 at h
  refine zt_aload_n zy_351 (show q_ins q_k351 1597 = some (.aload_n 1, 0, 0) from rfl) (v := 0) rfl ?_
  refine zt_aload_n zy_351 (show q_ins q_k351 1598 = some (.aload_n 0, 0, 0) from rfl) (v := q_big) rfl ?_
  refine zt_iload zy_351 (show q_ins q_k351 1599 = some (.iload 5, 0, 0) from rfl) (v := Int32.ofInt v5) rfl ?_
  refine zt_iconst zy_351 (show q_ins q_k351 1601 = some (.iconst 1, 0, 0) from rfl) ?_
  refine zt_iadd zy_351 (show q_ins q_k351 1602 = some (.iadd, 0, 0) from rfl) ?_
  obtain ⟨hg, h⟩ := zt_ckE h
  refine zt_sld zy_351 (show q_ins q_k351 1603 = some (.iaload, 0, 0) from rfl) hg hX ?_
  refine zt_aload_n zy_351 (show q_ins q_k351 1604 = some (.aload_n 3, 0, 0) from rfl) (v := 184) rfl ?_
  obtain ⟨a141, s142, hca141, h⟩ := zt_bdE h
  refine zt_callS (d := 53) zy_351 (show q_ins q_k351 1605 = some (.invokestatic 214, 337, 3) from rfl) zy_337 (by decide) ⟨zq_lt (by decide), by decide⟩ rfl (by simp [Value.category]) (by simp [lg_sl, Value.category]) rfl (zt_dm (by decide) (S_L_unseen hca141)) ?_
  refine zt_istore zy_351 (show q_ins q_k351 1608 = some (.istore 6, 0, 0) from rfl) (by decide) ?_
  refine zt_aload_n zy_351 (show q_ins q_k351 1610 = some (.aload_n 2, 0, 0) from rfl) (v := 163) rfl ?_
  refine zt_aload_n zy_351 (show q_ins q_k351 1611 = some (.aload_n 0, 0, 0) from rfl) (v := q_big) rfl ?_
  refine zt_iload zy_351 (show q_ins q_k351 1612 = some (.iload 5, 0, 0) from rfl) (v := Int32.ofInt v5) rfl ?_
  refine zt_iconst zy_351 (show q_ins q_k351 1614 = some (.iconst 1, 0, 0) from rfl) ?_
  refine zt_iadd zy_351 (show q_ins q_k351 1615 = some (.iadd, 0, 0) from rfl) ?_
  obtain ⟨hg, h⟩ := zt_ckE h
  refine zt_sld zy_351 (show q_ins q_k351 1616 = some (.iaload, 0, 0) from rfl) hg hX ?_
  obtain ⟨a143, s144, hca143, h⟩ := zt_bdE h
  refine zt_callV (d := 53) zy_351 (show q_ins q_k351 1617 = some (.invokevirtual 216, 257, 1) from rfl) zy_257 (by decide) ⟨zq_lt (by decide), by decide⟩ rfl (by simp [Value.category]) (by simp [lg_sl, Value.category]) (zt_rcv zc_163) (zt_dm (by decide) (S_M_unseen hca143)) ?_
  refine zt_istore zy_351 (show q_ins q_k351 1620 = some (.istore 7, 0, 0) from rfl) (by decide) ?_
  refine zt_aload_n zy_351 (show q_ins q_k351 1622 = some (.aload_n 2, 0, 0) from rfl) (v := 163) rfl ?_
  obtain ⟨a145, s146, hca145, h⟩ := zt_bdE h
  refine zt_callV (d := 53) zy_351 (show q_ins q_k351 1623 = some (.invokevirtual 136, 170, 0) from rfl) zy_170 (by decide) ⟨zq_lt (by decide), by decide⟩ rfl (by simp [Value.category]) (by simp [lg_sl, Value.category]) (zt_rcv zc_163) (zt_dm (by decide) (S_M_thrown hca145)) ?_
  refine zt_iload zy_351 (show q_ins q_k351 1626 = some (.iload 6, 0, 0) from rfl) (v := Int32.ofInt a141) rfl ?_
  obtain ⟨hg, h⟩ := zt_ckE h
  refine zt_icmp_eq zy_351 (show q_ins q_k351 1628 = some (.if_icmp .eq 5, 1633, 0) from rfl) (⟨hg.1, hg.2⟩) (fun hc => ?_) (fun hc => ?_)
  · rw [if_pos hc] at h
    refine zt_iload zy_351 (show q_ins q_k351 1633 = some (.iload 6, 0, 0) from rfl) (v := Int32.ofInt a141) rfl ?_
    obtain ⟨hg, h⟩ := zt_ckE h
    refine zt_if_ne zy_351 (show q_ins q_k351 1635 = some (.ifCond .ne 15, 1650, 0) from rfl) (hg) (fun hc => ?_) (fun hc => ?_)
    · rw [if_pos hc] at h
      refine zt_aload_n zy_351 (show q_ins q_k351 1638 = some (.aload_n 3, 0, 0) from rfl) (v := 184) rfl ?_
      refine zt_iconst zy_351 (show q_ins q_k351 1639 = some (.iconst 0, 0, 0) from rfl) ?_
      refine zt_lld zy_351 (show q_ins q_k351 1640 = some (.laload, 0, 0) from rfl) za_184 (by decide) (by decide) ?_
      refine zt_iload zy_351 (show q_ins q_k351 1641 = some (.iload 7, 0, 0) from rfl) (v := Int32.ofInt a143) rfl ?_
      refine zt_i2l zy_351 (show q_ins q_k351 1643 = some (.i2l, 0, 0) from rfl) ?_
      refine zt_lcmp zy_351 (show q_ins q_k351 1644 = some (.lcmp, 0, 0) from rfl) ?_
      refine zt_if_eq zy_351 (show q_ins q_k351 1645 = some (.ifCond .eq 5, 1650, 0) from rfl) (zt_inT _) (fun hc => ?_) (fun hc => ?_)
      · rw [if_pos hc] at h
        exact zt_wk (zt_cov_cons rfl (zt_cov_cons rfl (zt_cov_cons rfl (zt_cov_cons rfl (zt_cov_cons rfl (zt_cov_cons rfl (zt_cov_nil))))))) (S_L_law_1650 hX  hr28 _ _ _ h)
      · rw [if_neg hc] at h
        refine zt_iconst zy_351 (show q_ins q_k351 1648 = some (.iconst 0, 0, 0) from rfl) ?_
        cases h
        exact zt_zret zy_351 (show q_ins q_k351 1649 = some (.ireturn, 0, 0) from rfl) (by decide)
    · rw [if_neg hc] at h
      exact zt_wk (zt_cov_cons rfl (zt_cov_cons rfl (zt_cov_cons rfl (zt_cov_cons rfl (zt_cov_cons rfl (zt_cov_cons rfl (zt_cov_nil))))))) (S_L_law_1650 hX  hr28 _ _ _ h)
  · rw [if_neg hc] at h
    refine zt_iconst zy_351 (show q_ins q_k351 1631 = some (.iconst 0, 0, 0) from rfl) ?_
    cases h
    exact zt_zret zy_351 (show q_ins q_k351 1632 = some (.ireturn, 0, 0) from rfl) (by decide)
set_option maxRecDepth 100000 in
theorem S_L_law_1713 {X : q_X} (hX : X.1 ≤ 1000000)   {r28 : Int → zt_S → Option (Int × zt_S)} (hr28 : ∀ (v5 : Int) (σ : zt_S) (o : (Int × zt_S)), r28 v5 σ = some o → zt_Ex X 54 351 28 [(0, .ref q_big), (1, .ref 0), (2, .ref 163), (3, .ref 184), (4, .ref 185), (5, .int (Int32.ofInt v5))] [] (zt_M σ) (zo_I o)) : ∀ (v5 : Int) (σ : zt_S) (o : (Int × zt_S)), F_L_law_1713 X  r28 v5 σ = some o → zt_Ex X 54 351 1713 [(0, .ref q_big), (1, .ref 0), (2, .ref 163), (3, .ref 184), (4, .ref 185), (5, .int (Int32.ofInt v5))] [] (zt_M σ) (zo_I o) := by
  intro v5 σ o  h
  unfold F_L_law_1713 at h
  refine zt_goto zy_351 (show q_ins q_k351 1713 = some (.goto 885, 2598, 0) from rfl) ?_
  exact zt_wk (zt_cov_cons rfl (zt_cov_cons rfl (zt_cov_cons rfl (zt_cov_cons rfl (zt_cov_cons rfl (zt_cov_cons rfl (zt_cov_nil))))))) (S_L_law_2598 hX  hr28 _ _ _ h)
set_option maxRecDepth 100000 in
theorem S_L_law_1707 {X : q_X} (hX : X.1 ≤ 1000000)   {r28 : Int → zt_S → Option (Int × zt_S)} (hr28 : ∀ (v5 : Int) (σ : zt_S) (o : (Int × zt_S)), r28 v5 σ = some o → zt_Ex X 54 351 28 [(0, .ref q_big), (1, .ref 0), (2, .ref 163), (3, .ref 184), (4, .ref 185), (5, .int (Int32.ofInt v5))] [] (zt_M σ) (zo_I o)) : ∀ (v5 : Int) (x0 : Int64) (x1 : Int64) (σ : zt_S) (o : (Int × zt_S)), F_L_law_1707 X  r28 v5 x0 x1 σ = some o → zt_Ex X 54 351 1707 [(0, .ref q_big), (1, .ref 0), (2, .ref 163), (3, .ref 184), (4, .ref 185), (5, .int (Int32.ofInt v5))] [.long x0, .long x1] (zt_M σ) (zo_I o) := by
  intro v5 x0 x1 σ o  h
  unfold F_L_law_1707 at h
  refine zt_lcmp zy_351 (show q_ins q_k351 1707 = some (.lcmp, 0, 0) from rfl) ?_
  refine zt_if_eq zy_351 (show q_ins q_k351 1708 = some (.ifCond .eq 5, 1713, 0) from rfl) (zt_inT _) (fun hc => ?_) (fun hc => ?_)
  · rw [if_pos hc] at h
    exact zt_wk (zt_cov_cons rfl (zt_cov_cons rfl (zt_cov_cons rfl (zt_cov_cons rfl (zt_cov_cons rfl (zt_cov_cons rfl (zt_cov_nil))))))) (S_L_law_1713 hX  hr28 _ _ _ h)
  · rw [if_neg hc] at h
    refine zt_iconst zy_351 (show q_ins q_k351 1711 = some (.iconst 0, 0, 0) from rfl) ?_
    cases h
    exact zt_zret zy_351 (show q_ins q_k351 1712 = some (.ireturn, 0, 0) from rfl) (by decide)
set_option maxRecDepth 100000 in
theorem S_L_law_1653 {X : q_X} (hX : X.1 ≤ 1000000)   {r28 : Int → zt_S → Option (Int × zt_S)} (hr28 : ∀ (v5 : Int) (σ : zt_S) (o : (Int × zt_S)), r28 v5 σ = some o → zt_Ex X 54 351 28 [(0, .ref q_big), (1, .ref 0), (2, .ref 163), (3, .ref 184), (4, .ref 185), (5, .int (Int32.ofInt v5))] [] (zt_M σ) (zo_I o)) : ∀ (v5 : Int) (σ : zt_S) (o : (Int × zt_S)), F_L_law_1653 X  r28 v5 σ = some o → zt_Ex X 54 351 1653 [(0, .ref q_big), (1, .ref 0), (2, .ref 163), (3, .ref 184), (4, .ref 185), (5, .int (Int32.ofInt v5))] [] (zt_M σ) (zo_I o) := by
  intro v5 σ o  h
  unfold F_L_law_1653 at h
  refine zt_aload_n zy_351 (show q_ins q_k351 1653 = some (.aload_n 1, 0, 0) from rfl) (v := 0) rfl ?_
  refine zt_aload_n zy_351 (show q_ins q_k351 1654 = some (.aload_n 0, 0, 0) from rfl) (v := q_big) rfl ?_
  refine zt_iload zy_351 (show q_ins q_k351 1655 = some (.iload 5, 0, 0) from rfl) (v := Int32.ofInt v5) rfl ?_
  refine zt_iconst zy_351 (show q_ins q_k351 1657 = some (.iconst 1, 0, 0) from rfl) ?_
  refine zt_iadd zy_351 (show q_ins q_k351 1658 = some (.iadd, 0, 0) from rfl) ?_
  obtain ⟨hg, h⟩ := zt_ckE h
  refine zt_sld zy_351 (show q_ins q_k351 1659 = some (.iaload, 0, 0) from rfl) hg hX ?_
  refine zt_aload_n zy_351 (show q_ins q_k351 1660 = some (.aload_n 3, 0, 0) from rfl) (v := 184) rfl ?_
  obtain ⟨a147, s148, hca147, h⟩ := zt_bdE h
  refine zt_callS (d := 53) zy_351 (show q_ins q_k351 1661 = some (.invokestatic 217, 338, 3) from rfl) zy_338 (by decide) ⟨zq_lt (by decide), by decide⟩ rfl (by simp [Value.category]) (by simp [lg_sl, Value.category]) rfl (zt_dm (by decide) (S_L_isMaster hca147)) ?_
  refine zt_istore zy_351 (show q_ins q_k351 1664 = some (.istore 6, 0, 0) from rfl) (by decide) ?_
  refine zt_aload_n zy_351 (show q_ins q_k351 1666 = some (.aload_n 2, 0, 0) from rfl) (v := 163) rfl ?_
  refine zt_aload_n zy_351 (show q_ins q_k351 1667 = some (.aload_n 0, 0, 0) from rfl) (v := q_big) rfl ?_
  refine zt_iload zy_351 (show q_ins q_k351 1668 = some (.iload 5, 0, 0) from rfl) (v := Int32.ofInt v5) rfl ?_
  refine zt_iconst zy_351 (show q_ins q_k351 1670 = some (.iconst 1, 0, 0) from rfl) ?_
  refine zt_iadd zy_351 (show q_ins q_k351 1671 = some (.iadd, 0, 0) from rfl) ?_
  obtain ⟨hg, h⟩ := zt_ckE h
  refine zt_sld zy_351 (show q_ins q_k351 1672 = some (.iaload, 0, 0) from rfl) hg hX ?_
  obtain ⟨a149, s150, hca149, h⟩ := zt_bdE h
  refine zt_callV (d := 53) zy_351 (show q_ins q_k351 1673 = some (.invokevirtual 219, 259, 1) from rfl) zy_259 (by decide) ⟨zq_lt (by decide), by decide⟩ rfl (by simp [Value.category]) (by simp [lg_sl, Value.category]) (zt_rcv zc_163) (zt_dm (by decide) (S_M_isMaster hca149)) ?_
  refine zt_istore zy_351 (show q_ins q_k351 1676 = some (.istore 7, 0, 0) from rfl) (by decide) ?_
  refine zt_aload_n zy_351 (show q_ins q_k351 1678 = some (.aload_n 2, 0, 0) from rfl) (v := 163) rfl ?_
  obtain ⟨a151, s152, hca151, h⟩ := zt_bdE h
  refine zt_callV (d := 53) zy_351 (show q_ins q_k351 1679 = some (.invokevirtual 136, 170, 0) from rfl) zy_170 (by decide) ⟨zq_lt (by decide), by decide⟩ rfl (by simp [Value.category]) (by simp [lg_sl, Value.category]) (zt_rcv zc_163) (zt_dm (by decide) (S_M_thrown hca151)) ?_
  refine zt_iload zy_351 (show q_ins q_k351 1682 = some (.iload 6, 0, 0) from rfl) (v := Int32.ofInt a147) rfl ?_
  obtain ⟨hg, h⟩ := zt_ckE h
  refine zt_icmp_eq zy_351 (show q_ins q_k351 1684 = some (.if_icmp .eq 5, 1689, 0) from rfl) (⟨hg.1, hg.2⟩) (fun hc => ?_) (fun hc => ?_)
  · rw [if_pos hc] at h
    refine zt_iload zy_351 (show q_ins q_k351 1689 = some (.iload 6, 0, 0) from rfl) (v := Int32.ofInt a147) rfl ?_
    obtain ⟨hg, h⟩ := zt_ckE h
    refine zt_if_ne zy_351 (show q_ins q_k351 1691 = some (.ifCond .ne 22, 1713, 0) from rfl) (hg) (fun hc => ?_) (fun hc => ?_)
    · rw [if_pos hc] at h
      refine zt_aload_n zy_351 (show q_ins q_k351 1694 = some (.aload_n 3, 0, 0) from rfl) (v := 184) rfl ?_
      refine zt_iconst zy_351 (show q_ins q_k351 1695 = some (.iconst 0, 0, 0) from rfl) ?_
      refine zt_lld zy_351 (show q_ins q_k351 1696 = some (.laload, 0, 0) from rfl) za_184 (by decide) (by decide) ?_
      refine zt_iload zy_351 (show q_ins q_k351 1697 = some (.iload 7, 0, 0) from rfl) (v := Int32.ofInt a149) rfl ?_
      obtain ⟨hg, h⟩ := zt_ckE h
      refine zt_if_eq zy_351 (show q_ins q_k351 1699 = some (.ifCond .eq 7, 1706, 0) from rfl) (hg) (fun hc => ?_) (fun hc => ?_)
      · rw [if_pos hc] at h
        refine zt_lconst zy_351 (show q_ins q_k351 1706 = some (.lconst 0, 0, 0) from rfl) (v := (0 : Int64)) (by decide) ?_
        exact zt_wk (zt_cov_cons rfl (zt_cov_cons rfl (zt_cov_cons rfl (zt_cov_cons rfl (zt_cov_cons rfl (zt_cov_cons rfl (zt_cov_nil))))))) (S_L_law_1707 hX  hr28 _ _ _ _ _ h)
      · rw [if_neg hc] at h
        refine zt_lconst zy_351 (show q_ins q_k351 1702 = some (.lconst 1, 0, 0) from rfl) (v := (1 : Int64)) (by decide) ?_
        refine zt_goto zy_351 (show q_ins q_k351 1703 = some (.goto 4, 1707, 0) from rfl) ?_
        exact zt_wk (zt_cov_cons rfl (zt_cov_cons rfl (zt_cov_cons rfl (zt_cov_cons rfl (zt_cov_cons rfl (zt_cov_cons rfl (zt_cov_nil))))))) (S_L_law_1707 hX  hr28 _ _ _ _ _ h)
    · rw [if_neg hc] at h
      exact zt_wk (zt_cov_cons rfl (zt_cov_cons rfl (zt_cov_cons rfl (zt_cov_cons rfl (zt_cov_cons rfl (zt_cov_cons rfl (zt_cov_nil))))))) (S_L_law_1713 hX  hr28 _ _ _ h)
  · rw [if_neg hc] at h
    refine zt_iconst zy_351 (show q_ins q_k351 1687 = some (.iconst 0, 0, 0) from rfl) ?_
    cases h
    exact zt_zret zy_351 (show q_ins q_k351 1688 = some (.ireturn, 0, 0) from rfl) (by decide)
set_option maxRecDepth 100000 in
theorem S_L_law_1769 {X : q_X} (hX : X.1 ≤ 1000000)   {r28 : Int → zt_S → Option (Int × zt_S)} (hr28 : ∀ (v5 : Int) (σ : zt_S) (o : (Int × zt_S)), r28 v5 σ = some o → zt_Ex X 54 351 28 [(0, .ref q_big), (1, .ref 0), (2, .ref 163), (3, .ref 184), (4, .ref 185), (5, .int (Int32.ofInt v5))] [] (zt_M σ) (zo_I o)) : ∀ (v5 : Int) (σ : zt_S) (o : (Int × zt_S)), F_L_law_1769 X  r28 v5 σ = some o → zt_Ex X 54 351 1769 [(0, .ref q_big), (1, .ref 0), (2, .ref 163), (3, .ref 184), (4, .ref 185), (5, .int (Int32.ofInt v5))] [] (zt_M σ) (zo_I o) := by
  intro v5 σ o  h
  unfold F_L_law_1769 at h
  refine zt_goto zy_351 (show q_ins q_k351 1769 = some (.goto 829, 2598, 0) from rfl) ?_
  exact zt_wk (zt_cov_cons rfl (zt_cov_cons rfl (zt_cov_cons rfl (zt_cov_cons rfl (zt_cov_cons rfl (zt_cov_cons rfl (zt_cov_nil))))))) (S_L_law_2598 hX  hr28 _ _ _ h)
set_option maxRecDepth 100000 in
theorem S_L_law_1716 {X : q_X} (hX : X.1 ≤ 1000000)   {r28 : Int → zt_S → Option (Int × zt_S)} (hr28 : ∀ (v5 : Int) (σ : zt_S) (o : (Int × zt_S)), r28 v5 σ = some o → zt_Ex X 54 351 28 [(0, .ref q_big), (1, .ref 0), (2, .ref 163), (3, .ref 184), (4, .ref 185), (5, .int (Int32.ofInt v5))] [] (zt_M σ) (zo_I o)) : ∀ (v5 : Int) (σ : zt_S) (o : (Int × zt_S)), F_L_law_1716 X  r28 v5 σ = some o → zt_Ex X 54 351 1716 [(0, .ref q_big), (1, .ref 0), (2, .ref 163), (3, .ref 184), (4, .ref 185), (5, .int (Int32.ofInt v5))] [] (zt_M σ) (zo_I o) := by
  intro v5 σ o  h
  unfold F_L_law_1716 at h
  refine zt_aload_n zy_351 (show q_ins q_k351 1716 = some (.aload_n 1, 0, 0) from rfl) (v := 0) rfl ?_
  refine zt_aload_n zy_351 (show q_ins q_k351 1717 = some (.aload_n 0, 0, 0) from rfl) (v := q_big) rfl ?_
  refine zt_iload zy_351 (show q_ins q_k351 1718 = some (.iload 5, 0, 0) from rfl) (v := Int32.ofInt v5) rfl ?_
  refine zt_iconst zy_351 (show q_ins q_k351 1720 = some (.iconst 1, 0, 0) from rfl) ?_
  refine zt_iadd zy_351 (show q_ins q_k351 1721 = some (.iadd, 0, 0) from rfl) ?_
  obtain ⟨hg, h⟩ := zt_ckE h
  refine zt_sld zy_351 (show q_ins q_k351 1722 = some (.iaload, 0, 0) from rfl) hg hX ?_
  refine zt_aload_n zy_351 (show q_ins q_k351 1723 = some (.aload_n 3, 0, 0) from rfl) (v := 184) rfl ?_
  obtain ⟨a153, s154, hca153, h⟩ := zt_bdE h
  refine zt_callS (d := 53) zy_351 (show q_ins q_k351 1724 = some (.invokestatic 220, 339, 3) from rfl) zy_339 (by decide) ⟨zq_lt (by decide), by decide⟩ rfl (by simp [Value.category]) (by simp [lg_sl, Value.category]) rfl (zt_dm (by decide) (S_L_masters hca153)) ?_
  refine zt_istore zy_351 (show q_ins q_k351 1727 = some (.istore 6, 0, 0) from rfl) (by decide) ?_
  refine zt_aload_n zy_351 (show q_ins q_k351 1729 = some (.aload_n 2, 0, 0) from rfl) (v := 163) rfl ?_
  refine zt_aload_n zy_351 (show q_ins q_k351 1730 = some (.aload_n 0, 0, 0) from rfl) (v := q_big) rfl ?_
  refine zt_iload zy_351 (show q_ins q_k351 1731 = some (.iload 5, 0, 0) from rfl) (v := Int32.ofInt v5) rfl ?_
  refine zt_iconst zy_351 (show q_ins q_k351 1733 = some (.iconst 1, 0, 0) from rfl) ?_
  refine zt_iadd zy_351 (show q_ins q_k351 1734 = some (.iadd, 0, 0) from rfl) ?_
  obtain ⟨hg, h⟩ := zt_ckE h
  refine zt_sld zy_351 (show q_ins q_k351 1735 = some (.iaload, 0, 0) from rfl) hg hX ?_
  obtain ⟨a155, s156, hca155, h⟩ := zt_bdE h
  refine zt_callV (d := 53) zy_351 (show q_ins q_k351 1736 = some (.invokevirtual 222, 260, 1) from rfl) zy_260 (by decide) ⟨zq_lt (by decide), by decide⟩ rfl (by simp [Value.category]) (by simp [lg_sl, Value.category]) (zt_rcv zc_163) (zt_dm (by decide) (S_M_masters hca155)) ?_
  refine zt_istore zy_351 (show q_ins q_k351 1739 = some (.istore 7, 0, 0) from rfl) (by decide) ?_
  refine zt_aload_n zy_351 (show q_ins q_k351 1741 = some (.aload_n 2, 0, 0) from rfl) (v := 163) rfl ?_
  obtain ⟨a157, s158, hca157, h⟩ := zt_bdE h
  refine zt_callV (d := 53) zy_351 (show q_ins q_k351 1742 = some (.invokevirtual 136, 170, 0) from rfl) zy_170 (by decide) ⟨zq_lt (by decide), by decide⟩ rfl (by simp [Value.category]) (by simp [lg_sl, Value.category]) (zt_rcv zc_163) (zt_dm (by decide) (S_M_thrown hca157)) ?_
  refine zt_iload zy_351 (show q_ins q_k351 1745 = some (.iload 6, 0, 0) from rfl) (v := Int32.ofInt a153) rfl ?_
  obtain ⟨hg, h⟩ := zt_ckE h
  refine zt_icmp_eq zy_351 (show q_ins q_k351 1747 = some (.if_icmp .eq 5, 1752, 0) from rfl) (⟨hg.1, hg.2⟩) (fun hc => ?_) (fun hc => ?_)
  · rw [if_pos hc] at h
    refine zt_iload zy_351 (show q_ins q_k351 1752 = some (.iload 6, 0, 0) from rfl) (v := Int32.ofInt a153) rfl ?_
    obtain ⟨hg, h⟩ := zt_ckE h
    refine zt_if_ne zy_351 (show q_ins q_k351 1754 = some (.ifCond .ne 15, 1769, 0) from rfl) (hg) (fun hc => ?_) (fun hc => ?_)
    · rw [if_pos hc] at h
      refine zt_aload_n zy_351 (show q_ins q_k351 1757 = some (.aload_n 3, 0, 0) from rfl) (v := 184) rfl ?_
      refine zt_iconst zy_351 (show q_ins q_k351 1758 = some (.iconst 0, 0, 0) from rfl) ?_
      refine zt_lld zy_351 (show q_ins q_k351 1759 = some (.laload, 0, 0) from rfl) za_184 (by decide) (by decide) ?_
      refine zt_iload zy_351 (show q_ins q_k351 1760 = some (.iload 7, 0, 0) from rfl) (v := Int32.ofInt a155) rfl ?_
      refine zt_i2l zy_351 (show q_ins q_k351 1762 = some (.i2l, 0, 0) from rfl) ?_
      refine zt_lcmp zy_351 (show q_ins q_k351 1763 = some (.lcmp, 0, 0) from rfl) ?_
      refine zt_if_eq zy_351 (show q_ins q_k351 1764 = some (.ifCond .eq 5, 1769, 0) from rfl) (zt_inT _) (fun hc => ?_) (fun hc => ?_)
      · rw [if_pos hc] at h
        exact zt_wk (zt_cov_cons rfl (zt_cov_cons rfl (zt_cov_cons rfl (zt_cov_cons rfl (zt_cov_cons rfl (zt_cov_cons rfl (zt_cov_nil))))))) (S_L_law_1769 hX  hr28 _ _ _ h)
      · rw [if_neg hc] at h
        refine zt_iconst zy_351 (show q_ins q_k351 1767 = some (.iconst 0, 0, 0) from rfl) ?_
        cases h
        exact zt_zret zy_351 (show q_ins q_k351 1768 = some (.ireturn, 0, 0) from rfl) (by decide)
    · rw [if_neg hc] at h
      exact zt_wk (zt_cov_cons rfl (zt_cov_cons rfl (zt_cov_cons rfl (zt_cov_cons rfl (zt_cov_cons rfl (zt_cov_cons rfl (zt_cov_nil))))))) (S_L_law_1769 hX  hr28 _ _ _ h)
  · rw [if_neg hc] at h
    refine zt_iconst zy_351 (show q_ins q_k351 1750 = some (.iconst 0, 0, 0) from rfl) ?_
    cases h
    exact zt_zret zy_351 (show q_ins q_k351 1751 = some (.ireturn, 0, 0) from rfl) (by decide)
set_option maxRecDepth 100000 in
theorem S_L_law_1772 {X : q_X} (hX : X.1 ≤ 1000000)   {r28 : Int → zt_S → Option (Int × zt_S)} (hr28 : ∀ (v5 : Int) (σ : zt_S) (o : (Int × zt_S)), r28 v5 σ = some o → zt_Ex X 54 351 28 [(0, .ref q_big), (1, .ref 0), (2, .ref 163), (3, .ref 184), (4, .ref 185), (5, .int (Int32.ofInt v5))] [] (zt_M σ) (zo_I o)) : ∀ (v5 : Int) (σ : zt_S) (o : (Int × zt_S)), F_L_law_1772 X  r28 v5 σ = some o → zt_Ex X 54 351 1772 [(0, .ref q_big), (1, .ref 0), (2, .ref 163), (3, .ref 184), (4, .ref 185), (5, .int (Int32.ofInt v5))] [] (zt_M σ) (zo_I o) := by
  intro v5 σ o  h
  unfold F_L_law_1772 at h
  refine zt_aload_n zy_351 (show q_ins q_k351 1772 = some (.aload_n 1, 0, 0) from rfl) (v := 0) rfl ?_
  obtain ⟨a159, s160, hca159, h⟩ := zt_bdE h
  refine zt_callV (d := 53) zy_351 (show q_ins q_k351 1773 = some (.invokevirtual 223, 147, 0) from rfl) zy_147 (by decide) ⟨zq_lt (by decide), by decide⟩ rfl (by simp [Value.category]) (by simp [lg_sl, Value.category]) (zt_rcv zc_0) (zt_dm (by decide) (S_C_darkIn hca159)) ?_
  refine zt_aload_n zy_351 (show q_ins q_k351 1776 = some (.aload_n 2, 0, 0) from rfl) (v := 163) rfl ?_
  obtain ⟨a161, s162, hca161, h⟩ := zt_bdE h
  refine zt_callV (d := 53) zy_351 (show q_ins q_k351 1777 = some (.invokevirtual 226, 261, 0) from rfl) zy_261 (by decide) ⟨zq_lt (by decide), by decide⟩ rfl (by simp [Value.category]) (by simp [lg_sl, Value.category]) (zt_rcv zc_163) (zt_dm (by decide) (S_M_darkIn hca161)) ?_
  obtain ⟨hg, h⟩ := zt_ckE h
  refine zt_icmp_eq zy_351 (show q_ins q_k351 1780 = some (.if_icmp .eq 818, 2598, 0) from rfl) (⟨hg.1, hg.2⟩) (fun hc => ?_) (fun hc => ?_)
  · rw [if_pos hc] at h
    exact zt_wk (zt_cov_cons rfl (zt_cov_cons rfl (zt_cov_cons rfl (zt_cov_cons rfl (zt_cov_cons rfl (zt_cov_cons rfl (zt_cov_nil))))))) (S_L_law_2598 hX  hr28 _ _ _ h)
  · rw [if_neg hc] at h
    refine zt_iconst zy_351 (show q_ins q_k351 1783 = some (.iconst 0, 0, 0) from rfl) ?_
    cases h
    exact zt_zret zy_351 (show q_ins q_k351 1784 = some (.ireturn, 0, 0) from rfl) (by decide)
set_option maxRecDepth 100000 in
theorem S_L_law_1785 {X : q_X} (hX : X.1 ≤ 1000000)   {r28 : Int → zt_S → Option (Int × zt_S)} (hr28 : ∀ (v5 : Int) (σ : zt_S) (o : (Int × zt_S)), r28 v5 σ = some o → zt_Ex X 54 351 28 [(0, .ref q_big), (1, .ref 0), (2, .ref 163), (3, .ref 184), (4, .ref 185), (5, .int (Int32.ofInt v5))] [] (zt_M σ) (zo_I o)) : ∀ (v5 : Int) (σ : zt_S) (o : (Int × zt_S)), F_L_law_1785 X  r28 v5 σ = some o → zt_Ex X 54 351 1785 [(0, .ref q_big), (1, .ref 0), (2, .ref 163), (3, .ref 184), (4, .ref 185), (5, .int (Int32.ofInt v5))] [] (zt_M σ) (zo_I o) := by
  intro v5 σ o  h
  unfold F_L_law_1785 at h
  refine zt_aload_n zy_351 (show q_ins q_k351 1785 = some (.aload_n 1, 0, 0) from rfl) (v := 0) rfl ?_
  obtain ⟨a163, s164, hca163, h⟩ := zt_bdE h
  refine zt_callV (d := 53) zy_351 (show q_ins q_k351 1786 = some (.invokevirtual 227, 148, 0) from rfl) zy_148 (by decide) ⟨zq_lt (by decide), by decide⟩ rfl (by simp [Value.category]) (by simp [lg_sl, Value.category]) (zt_rcv zc_0) (zt_dm (by decide) (S_C_sure hca163)) ?_
  refine zt_aload_n zy_351 (show q_ins q_k351 1789 = some (.aload_n 2, 0, 0) from rfl) (v := 163) rfl ?_
  obtain ⟨a165, s166, hca165, h⟩ := zt_bdE h
  refine zt_callV (d := 53) zy_351 (show q_ins q_k351 1790 = some (.invokevirtual 230, 272, 0) from rfl) zy_272 (by decide) ⟨zq_lt (by decide), by decide⟩ rfl (by simp [Value.category]) (by simp [lg_sl, Value.category]) (zt_rcv zc_163) (zt_dm (by decide) (S_M_sure hca165)) ?_
  obtain ⟨hg, h⟩ := zt_ckE h
  refine zt_icmp_eq zy_351 (show q_ins q_k351 1793 = some (.if_icmp .eq 805, 2598, 0) from rfl) (⟨hg.1, hg.2⟩) (fun hc => ?_) (fun hc => ?_)
  · rw [if_pos hc] at h
    exact zt_wk (zt_cov_cons rfl (zt_cov_cons rfl (zt_cov_cons rfl (zt_cov_cons rfl (zt_cov_cons rfl (zt_cov_cons rfl (zt_cov_nil))))))) (S_L_law_2598 hX  hr28 _ _ _ h)
  · rw [if_neg hc] at h
    refine zt_iconst zy_351 (show q_ins q_k351 1796 = some (.iconst 0, 0, 0) from rfl) ?_
    cases h
    exact zt_zret zy_351 (show q_ins q_k351 1797 = some (.ireturn, 0, 0) from rfl) (by decide)
set_option maxRecDepth 100000 in
theorem S_L_law_1798 {X : q_X} (hX : X.1 ≤ 1000000)   {r28 : Int → zt_S → Option (Int × zt_S)} (hr28 : ∀ (v5 : Int) (σ : zt_S) (o : (Int × zt_S)), r28 v5 σ = some o → zt_Ex X 54 351 28 [(0, .ref q_big), (1, .ref 0), (2, .ref 163), (3, .ref 184), (4, .ref 185), (5, .int (Int32.ofInt v5))] [] (zt_M σ) (zo_I o)) : ∀ (v5 : Int) (σ : zt_S) (o : (Int × zt_S)), F_L_law_1798 X  r28 v5 σ = some o → zt_Ex X 54 351 1798 [(0, .ref q_big), (1, .ref 0), (2, .ref 163), (3, .ref 184), (4, .ref 185), (5, .int (Int32.ofInt v5))] [] (zt_M σ) (zo_I o) := by
  intro v5 σ o  h
  unfold F_L_law_1798 at h
  refine zt_aload_n zy_351 (show q_ins q_k351 1798 = some (.aload_n 1, 0, 0) from rfl) (v := 0) rfl ?_
  obtain ⟨a167, s168, hca167, h⟩ := zt_bdE h
  refine zt_callV (d := 53) zy_351 (show q_ins q_k351 1799 = some (.invokevirtual 231, 149, 0) from rfl) zy_149 (by decide) ⟨zq_lt (by decide), by decide⟩ rfl (by simp [Value.category]) (by simp [lg_sl, Value.category]) (zt_rcv zc_0) (zt_dm (by decide) (S_C_sureCard hca167)) ?_
  refine zt_aload_n zy_351 (show q_ins q_k351 1802 = some (.aload_n 2, 0, 0) from rfl) (v := 163) rfl ?_
  obtain ⟨a169, s170, hca169, h⟩ := zt_bdE h
  refine zt_callV (d := 53) zy_351 (show q_ins q_k351 1803 = some (.invokevirtual 234, 273, 0) from rfl) zy_273 (by decide) ⟨zq_lt (by decide), by decide⟩ rfl (by simp [Value.category]) (by simp [lg_sl, Value.category]) (zt_rcv zc_163) (zt_dm (by decide) (S_M_sureCard hca169)) ?_
  obtain ⟨hg, h⟩ := zt_ckE h
  refine zt_icmp_eq zy_351 (show q_ins q_k351 1806 = some (.if_icmp .eq 792, 2598, 0) from rfl) (⟨hg.1, hg.2⟩) (fun hc => ?_) (fun hc => ?_)
  · rw [if_pos hc] at h
    exact zt_wk (zt_cov_cons rfl (zt_cov_cons rfl (zt_cov_cons rfl (zt_cov_cons rfl (zt_cov_cons rfl (zt_cov_cons rfl (zt_cov_nil))))))) (S_L_law_2598 hX  hr28 _ _ _ h)
  · rw [if_neg hc] at h
    refine zt_iconst zy_351 (show q_ins q_k351 1809 = some (.iconst 0, 0, 0) from rfl) ?_
    cases h
    exact zt_zret zy_351 (show q_ins q_k351 1810 = some (.ireturn, 0, 0) from rfl) (by decide)
set_option maxRecDepth 100000 in
theorem S_L_law_1885 {X : q_X} (hX : X.1 ≤ 1000000)   {r28 : Int → zt_S → Option (Int × zt_S)} (hr28 : ∀ (v5 : Int) (σ : zt_S) (o : (Int × zt_S)), r28 v5 σ = some o → zt_Ex X 54 351 28 [(0, .ref q_big), (1, .ref 0), (2, .ref 163), (3, .ref 184), (4, .ref 185), (5, .int (Int32.ofInt v5))] [] (zt_M σ) (zo_I o)) : ∀ (v5 : Int) (σ : zt_S) (o : (Int × zt_S)), F_L_law_1885 X  r28 v5 σ = some o → zt_Ex X 54 351 1885 [(0, .ref q_big), (1, .ref 0), (2, .ref 163), (3, .ref 184), (4, .ref 185), (5, .int (Int32.ofInt v5))] [] (zt_M σ) (zo_I o) := by
  intro v5 σ o  h
  unfold F_L_law_1885 at h
  refine zt_goto zy_351 (show q_ins q_k351 1885 = some (.goto 713, 2598, 0) from rfl) ?_
  exact zt_wk (zt_cov_cons rfl (zt_cov_cons rfl (zt_cov_cons rfl (zt_cov_cons rfl (zt_cov_cons rfl (zt_cov_cons rfl (zt_cov_nil))))))) (S_L_law_2598 hX  hr28 _ _ _ h)
set_option maxRecDepth 100000 in
theorem S_L_law_1883 {X : q_X} (hX : X.1 ≤ 1000000)   : ∀  (σ : zt_S) (o : (Int × zt_S)), F_L_law_1883 X   σ = some o → zt_Ex X 54 351 1883 [] [] (zt_M σ) (zo_I o) := by
  intro  σ o  h
  unfold F_L_law_1883 at h
  refine zt_iconst zy_351 (show q_ins q_k351 1883 = some (.iconst 0, 0, 0) from rfl) ?_
  cases h
  exact zt_zret zy_351 (show q_ins q_k351 1884 = some (.ireturn, 0, 0) from rfl) (by decide)
set_option maxRecDepth 100000 in
theorem S_L_law_1811 {X : q_X} (hX : X.1 ≤ 1000000)   {r28 : Int → zt_S → Option (Int × zt_S)} (hr28 : ∀ (v5 : Int) (σ : zt_S) (o : (Int × zt_S)), r28 v5 σ = some o → zt_Ex X 54 351 28 [(0, .ref q_big), (1, .ref 0), (2, .ref 163), (3, .ref 184), (4, .ref 185), (5, .int (Int32.ofInt v5))] [] (zt_M σ) (zo_I o)) : ∀ (v5 : Int) (σ : zt_S) (o : (Int × zt_S)), F_L_law_1811 X  r28 v5 σ = some o → zt_Ex X 54 351 1811 [(0, .ref q_big), (1, .ref 0), (2, .ref 163), (3, .ref 184), (4, .ref 185), (5, .int (Int32.ofInt v5))] [] (zt_M σ) (zo_I o) := by
  intro v5 σ o  h
  unfold F_L_law_1811 at h
  refine zt_aload_n zy_351 (show q_ins q_k351 1811 = some (.aload_n 1, 0, 0) from rfl) (v := 0) rfl ?_
  refine zt_aload_n zy_351 (show q_ins q_k351 1812 = some (.aload_n 0, 0, 0) from rfl) (v := q_big) rfl ?_
  refine zt_iload zy_351 (show q_ins q_k351 1813 = some (.iload 5, 0, 0) from rfl) (v := Int32.ofInt v5) rfl ?_
  refine zt_iconst zy_351 (show q_ins q_k351 1815 = some (.iconst 1, 0, 0) from rfl) ?_
  refine zt_iadd zy_351 (show q_ins q_k351 1816 = some (.iadd, 0, 0) from rfl) ?_
  obtain ⟨hg, h⟩ := zt_ckE h
  refine zt_sld zy_351 (show q_ins q_k351 1817 = some (.iaload, 0, 0) from rfl) hg hX ?_
  refine zt_aload zy_351 (show q_ins q_k351 1818 = some (.aload 4, 0, 0) from rfl) (v := 185) rfl ?_
  obtain ⟨a171, s172, hca171, h⟩ := zt_bdE h
  refine zt_callS (d := 53) zy_351 (show q_ins q_k351 1820 = some (.invokestatic 235, 340, 3) from rfl) zy_340 (by decide) ⟨zq_lt (by decide), by decide⟩ rfl (by simp [Value.category]) (by simp [lg_sl, Value.category]) rfl (zt_dm (by decide) (S_L_meanRank hca171)) ?_
  refine zt_istore zy_351 (show q_ins q_k351 1823 = some (.istore 6, 0, 0) from rfl) (by decide) ?_
  refine zt_aload_n zy_351 (show q_ins q_k351 1825 = some (.aload_n 2, 0, 0) from rfl) (v := 163) rfl ?_
  refine zt_aload_n zy_351 (show q_ins q_k351 1826 = some (.aload_n 0, 0, 0) from rfl) (v := q_big) rfl ?_
  refine zt_iload zy_351 (show q_ins q_k351 1827 = some (.iload 5, 0, 0) from rfl) (v := Int32.ofInt v5) rfl ?_
  refine zt_iconst zy_351 (show q_ins q_k351 1829 = some (.iconst 1, 0, 0) from rfl) ?_
  refine zt_iadd zy_351 (show q_ins q_k351 1830 = some (.iadd, 0, 0) from rfl) ?_
  obtain ⟨hg, h⟩ := zt_ckE h
  refine zt_sld zy_351 (show q_ins q_k351 1831 = some (.iaload, 0, 0) from rfl) hg hX ?_
  obtain ⟨a173, s174, hca173, h⟩ := zt_bdE h
  refine zt_callV (d := 53) zy_351 (show q_ins q_k351 1832 = some (.invokevirtual 238, 274, 1) from rfl) zy_274 (by decide) ⟨zq_lt (by decide), by decide⟩ rfl (by simp [Value.category]) (by simp [lg_sl, Value.category]) (zt_rcv zc_163) (zt_dm (by decide) (S_M_meanRank hca173)) ?_
  refine zt_dstore zy_351 (show q_ins q_k351 1835 = some (.dstore 7, 0, 0) from rfl) (by decide) ?_
  refine zt_aload_n zy_351 (show q_ins q_k351 1837 = some (.aload_n 2, 0, 0) from rfl) (v := 163) rfl ?_
  obtain ⟨a175, s176, hca175, h⟩ := zt_bdE h
  refine zt_callV (d := 53) zy_351 (show q_ins q_k351 1838 = some (.invokevirtual 136, 170, 0) from rfl) zy_170 (by decide) ⟨zq_lt (by decide), by decide⟩ rfl (by simp [Value.category]) (by simp [lg_sl, Value.category]) (zt_rcv zc_163) (zt_dm (by decide) (S_M_thrown hca175)) ?_
  refine zt_iload zy_351 (show q_ins q_k351 1841 = some (.iload 6, 0, 0) from rfl) (v := Int32.ofInt a171) rfl ?_
  obtain ⟨hg, h⟩ := zt_ckE h
  refine zt_icmp_eq zy_351 (show q_ins q_k351 1843 = some (.if_icmp .eq 5, 1848, 0) from rfl) (⟨hg.1, hg.2⟩) (fun hc => ?_) (fun hc => ?_)
  · rw [if_pos hc] at h
    refine zt_iload zy_351 (show q_ins q_k351 1848 = some (.iload 6, 0, 0) from rfl) (v := Int32.ofInt a171) rfl ?_
    obtain ⟨hg, h⟩ := zt_ckE h
    refine zt_if_ne zy_351 (show q_ins q_k351 1850 = some (.ifCond .ne 35, 1885, 0) from rfl) (hg) (fun hc => ?_) (fun hc => ?_)
    · rw [if_pos hc] at h
      refine zt_aload zy_351 (show q_ins q_k351 1853 = some (.aload 4, 0, 0) from rfl) (v := 185) rfl ?_
      refine zt_iconst zy_351 (show q_ins q_k351 1855 = some (.iconst 0, 0, 0) from rfl) ?_
      refine zt_dld zy_351 (show q_ins q_k351 1856 = some (.daload, 0, 0) from rfl) za_185 (by decide) (by decide) ?_
      refine zt_dload zy_351 (show q_ins q_k351 1857 = some (.dload 7, 0, 0) from rfl) (v := a173) rfl ?_
      refine zt_dcmp zy_351 (show q_ins q_k351 1859 = some (.dcmp .l, 0, 0) from rfl) ?_
      refine zt_if_eq zy_351 (show q_ins q_k351 1860 = some (.ifCond .eq 25, 1885, 0) from rfl) (zt_inT _) (fun hc => ?_) (fun hc => ?_)
      · rw [if_pos hc] at h
        exact zt_wk (zt_cov_cons rfl (zt_cov_cons rfl (zt_cov_cons rfl (zt_cov_cons rfl (zt_cov_cons rfl (zt_cov_cons rfl (zt_cov_nil))))))) (S_L_law_1885 hX  hr28 _ _ _ h)
      · rw [if_neg hc] at h
        refine zt_aload zy_351 (show q_ins q_k351 1863 = some (.aload 4, 0, 0) from rfl) (v := 185) rfl ?_
        refine zt_iconst zy_351 (show q_ins q_k351 1865 = some (.iconst 0, 0, 0) from rfl) ?_
        refine zt_dld zy_351 (show q_ins q_k351 1866 = some (.daload, 0, 0) from rfl) za_185 (by decide) (by decide) ?_
        refine zt_aload zy_351 (show q_ins q_k351 1867 = some (.aload 4, 0, 0) from rfl) (v := 185) rfl ?_
        refine zt_iconst zy_351 (show q_ins q_k351 1869 = some (.iconst 0, 0, 0) from rfl) ?_
        refine zt_dld zy_351 (show q_ins q_k351 1870 = some (.daload, 0, 0) from rfl) za_185 (by decide) (by decide) ?_
        refine zt_dcmp zy_351 (show q_ins q_k351 1871 = some (.dcmp .l, 0, 0) from rfl) ?_
        refine zt_if_eq zy_351 (show q_ins q_k351 1872 = some (.ifCond .eq 11, 1883, 0) from rfl) (zt_inT _) (fun hc => ?_) (fun hc => ?_)
        · rw [if_pos hc] at h
          exact zt_wk (zt_cov_nil) (S_L_law_1883 hX  _ _ h)
        · rw [if_neg hc] at h
          refine zt_dload zy_351 (show q_ins q_k351 1875 = some (.dload 7, 0, 0) from rfl) (v := a173) rfl ?_
          refine zt_dload zy_351 (show q_ins q_k351 1877 = some (.dload 7, 0, 0) from rfl) (v := a173) rfl ?_
          refine zt_dcmp zy_351 (show q_ins q_k351 1879 = some (.dcmp .l, 0, 0) from rfl) ?_
          refine zt_if_ne zy_351 (show q_ins q_k351 1880 = some (.ifCond .ne 5, 1885, 0) from rfl) (zt_inT _) (fun hc => ?_) (fun hc => ?_)
          · rw [if_pos hc] at h
            exact zt_wk (zt_cov_nil) (S_L_law_1883 hX  _ _ h)
          · rw [if_neg hc] at h
            exact zt_wk (zt_cov_cons rfl (zt_cov_cons rfl (zt_cov_cons rfl (zt_cov_cons rfl (zt_cov_cons rfl (zt_cov_cons rfl (zt_cov_nil))))))) (S_L_law_1885 hX  hr28 _ _ _ h)
    · rw [if_neg hc] at h
      exact zt_wk (zt_cov_cons rfl (zt_cov_cons rfl (zt_cov_cons rfl (zt_cov_cons rfl (zt_cov_cons rfl (zt_cov_cons rfl (zt_cov_nil))))))) (S_L_law_1885 hX  hr28 _ _ _ h)
  · rw [if_neg hc] at h
    refine zt_iconst zy_351 (show q_ins q_k351 1846 = some (.iconst 0, 0, 0) from rfl) ?_
    cases h
    exact zt_zret zy_351 (show q_ins q_k351 1847 = some (.ireturn, 0, 0) from rfl) (by decide)
set_option maxRecDepth 100000 in
theorem S_L_law_1963 {X : q_X} (hX : X.1 ≤ 1000000)   {r28 : Int → zt_S → Option (Int × zt_S)} (hr28 : ∀ (v5 : Int) (σ : zt_S) (o : (Int × zt_S)), r28 v5 σ = some o → zt_Ex X 54 351 28 [(0, .ref q_big), (1, .ref 0), (2, .ref 163), (3, .ref 184), (4, .ref 185), (5, .int (Int32.ofInt v5))] [] (zt_M σ) (zo_I o)) : ∀ (v5 : Int) (σ : zt_S) (o : (Int × zt_S)), F_L_law_1963 X  r28 v5 σ = some o → zt_Ex X 54 351 1963 [(0, .ref q_big), (1, .ref 0), (2, .ref 163), (3, .ref 184), (4, .ref 185), (5, .int (Int32.ofInt v5))] [] (zt_M σ) (zo_I o) := by
  intro v5 σ o  h
  unfold F_L_law_1963 at h
  refine zt_goto zy_351 (show q_ins q_k351 1963 = some (.goto 635, 2598, 0) from rfl) ?_
  exact zt_wk (zt_cov_cons rfl (zt_cov_cons rfl (zt_cov_cons rfl (zt_cov_cons rfl (zt_cov_cons rfl (zt_cov_cons rfl (zt_cov_nil))))))) (S_L_law_2598 hX  hr28 _ _ _ h)
set_option maxRecDepth 100000 in
theorem S_L_law_1961 {X : q_X} (hX : X.1 ≤ 1000000)   : ∀  (σ : zt_S) (o : (Int × zt_S)), F_L_law_1961 X   σ = some o → zt_Ex X 54 351 1961 [] [] (zt_M σ) (zo_I o) := by
  intro  σ o  h
  unfold F_L_law_1961 at h
  refine zt_iconst zy_351 (show q_ins q_k351 1961 = some (.iconst 0, 0, 0) from rfl) ?_
  cases h
  exact zt_zret zy_351 (show q_ins q_k351 1962 = some (.ireturn, 0, 0) from rfl) (by decide)
set_option maxRecDepth 100000 in
theorem S_L_law_1888 {X : q_X} (hX : X.1 ≤ 1000000)   {r28 : Int → zt_S → Option (Int × zt_S)} (hr28 : ∀ (v5 : Int) (σ : zt_S) (o : (Int × zt_S)), r28 v5 σ = some o → zt_Ex X 54 351 28 [(0, .ref q_big), (1, .ref 0), (2, .ref 163), (3, .ref 184), (4, .ref 185), (5, .int (Int32.ofInt v5))] [] (zt_M σ) (zo_I o)) : ∀ (v5 : Int) (σ : zt_S) (o : (Int × zt_S)), F_L_law_1888 X  r28 v5 σ = some o → zt_Ex X 54 351 1888 [(0, .ref q_big), (1, .ref 0), (2, .ref 163), (3, .ref 184), (4, .ref 185), (5, .int (Int32.ofInt v5))] [] (zt_M σ) (zo_I o) := by
  intro v5 σ o  h
  unfold F_L_law_1888 at h
  refine zt_aload_n zy_351 (show q_ins q_k351 1888 = some (.aload_n 1, 0, 0) from rfl) (v := 0) rfl ?_
  refine zt_aload_n zy_351 (show q_ins q_k351 1889 = some (.aload_n 0, 0, 0) from rfl) (v := q_big) rfl ?_
  refine zt_iload zy_351 (show q_ins q_k351 1890 = some (.iload 5, 0, 0) from rfl) (v := Int32.ofInt v5) rfl ?_
  refine zt_iconst zy_351 (show q_ins q_k351 1892 = some (.iconst 1, 0, 0) from rfl) ?_
  refine zt_iadd zy_351 (show q_ins q_k351 1893 = some (.iadd, 0, 0) from rfl) ?_
  obtain ⟨hg, h⟩ := zt_ckE h
  refine zt_sld zy_351 (show q_ins q_k351 1894 = some (.iaload, 0, 0) from rfl) hg hX ?_
  refine zt_aload zy_351 (show q_ins q_k351 1895 = some (.aload 4, 0, 0) from rfl) (v := 185) rfl ?_
  obtain ⟨a177, s178, hca177, h⟩ := zt_bdE h
  refine zt_callS (d := 53) zy_351 (show q_ins q_k351 1897 = some (.invokestatic 239, 341, 3) from rfl) zy_341 (by decide) ⟨zq_lt (by decide), by decide⟩ rfl (by simp [Value.category]) (by simp [lg_sl, Value.category]) rfl (zt_dm (by decide) (S_L_share hca177)) ?_
  refine zt_istore zy_351 (show q_ins q_k351 1900 = some (.istore 6, 0, 0) from rfl) (by decide) ?_
  refine zt_aload_n zy_351 (show q_ins q_k351 1902 = some (.aload_n 2, 0, 0) from rfl) (v := 163) rfl ?_
  refine zt_aload_n zy_351 (show q_ins q_k351 1903 = some (.aload_n 0, 0, 0) from rfl) (v := q_big) rfl ?_
  refine zt_iload zy_351 (show q_ins q_k351 1904 = some (.iload 5, 0, 0) from rfl) (v := Int32.ofInt v5) rfl ?_
  refine zt_iconst zy_351 (show q_ins q_k351 1906 = some (.iconst 1, 0, 0) from rfl) ?_
  refine zt_iadd zy_351 (show q_ins q_k351 1907 = some (.iadd, 0, 0) from rfl) ?_
  obtain ⟨hg, h⟩ := zt_ckE h
  refine zt_sld zy_351 (show q_ins q_k351 1908 = some (.iaload, 0, 0) from rfl) hg hX ?_
  obtain ⟨a179, s180, hca179, h⟩ := zt_bdE h
  refine zt_callV (d := 53) zy_351 (show q_ins q_k351 1909 = some (.invokevirtual 241, 275, 1) from rfl) zy_275 (by decide) ⟨zq_lt (by decide), by decide⟩ rfl (by simp [Value.category]) (by simp [lg_sl, Value.category]) (zt_rcv zc_163) (zt_dm (by decide) (S_M_share hca179)) ?_
  refine zt_fstore zy_351 (show q_ins q_k351 1912 = some (.fstore 7, 0, 0) from rfl) (by decide) ?_
  refine zt_aload_n zy_351 (show q_ins q_k351 1914 = some (.aload_n 2, 0, 0) from rfl) (v := 163) rfl ?_
  obtain ⟨a181, s182, hca181, h⟩ := zt_bdE h
  refine zt_callV (d := 53) zy_351 (show q_ins q_k351 1915 = some (.invokevirtual 136, 170, 0) from rfl) zy_170 (by decide) ⟨zq_lt (by decide), by decide⟩ rfl (by simp [Value.category]) (by simp [lg_sl, Value.category]) (zt_rcv zc_163) (zt_dm (by decide) (S_M_thrown hca181)) ?_
  refine zt_iload zy_351 (show q_ins q_k351 1918 = some (.iload 6, 0, 0) from rfl) (v := Int32.ofInt a177) rfl ?_
  obtain ⟨hg, h⟩ := zt_ckE h
  refine zt_icmp_eq zy_351 (show q_ins q_k351 1920 = some (.if_icmp .eq 5, 1925, 0) from rfl) (⟨hg.1, hg.2⟩) (fun hc => ?_) (fun hc => ?_)
  · rw [if_pos hc] at h
    refine zt_iload zy_351 (show q_ins q_k351 1925 = some (.iload 6, 0, 0) from rfl) (v := Int32.ofInt a177) rfl ?_
    obtain ⟨hg, h⟩ := zt_ckE h
    refine zt_if_ne zy_351 (show q_ins q_k351 1927 = some (.ifCond .ne 36, 1963, 0) from rfl) (hg) (fun hc => ?_) (fun hc => ?_)
    · rw [if_pos hc] at h
      refine zt_aload zy_351 (show q_ins q_k351 1930 = some (.aload 4, 0, 0) from rfl) (v := 185) rfl ?_
      refine zt_iconst zy_351 (show q_ins q_k351 1932 = some (.iconst 0, 0, 0) from rfl) ?_
      refine zt_dld zy_351 (show q_ins q_k351 1933 = some (.daload, 0, 0) from rfl) za_185 (by decide) (by decide) ?_
      refine zt_fload zy_351 (show q_ins q_k351 1934 = some (.fload 7, 0, 0) from rfl) (v := a179) rfl ?_
      obtain ⟨hg, h⟩ := zt_ckE h
      refine zt_f2d zy_351 (show q_ins q_k351 1936 = some (.f2d, 0, 0) from rfl) hg ?_
      refine zt_dcmp zy_351 (show q_ins q_k351 1937 = some (.dcmp .l, 0, 0) from rfl) ?_
      refine zt_if_eq zy_351 (show q_ins q_k351 1938 = some (.ifCond .eq 25, 1963, 0) from rfl) (zt_inT _) (fun hc => ?_) (fun hc => ?_)
      · rw [if_pos hc] at h
        exact zt_wk (zt_cov_cons rfl (zt_cov_cons rfl (zt_cov_cons rfl (zt_cov_cons rfl (zt_cov_cons rfl (zt_cov_cons rfl (zt_cov_nil))))))) (S_L_law_1963 hX  hr28 _ _ _ h)
      · rw [if_neg hc] at h
        refine zt_aload zy_351 (show q_ins q_k351 1941 = some (.aload 4, 0, 0) from rfl) (v := 185) rfl ?_
        refine zt_iconst zy_351 (show q_ins q_k351 1943 = some (.iconst 0, 0, 0) from rfl) ?_
        refine zt_dld zy_351 (show q_ins q_k351 1944 = some (.daload, 0, 0) from rfl) za_185 (by decide) (by decide) ?_
        refine zt_aload zy_351 (show q_ins q_k351 1945 = some (.aload 4, 0, 0) from rfl) (v := 185) rfl ?_
        refine zt_iconst zy_351 (show q_ins q_k351 1947 = some (.iconst 0, 0, 0) from rfl) ?_
        refine zt_dld zy_351 (show q_ins q_k351 1948 = some (.daload, 0, 0) from rfl) za_185 (by decide) (by decide) ?_
        refine zt_dcmp zy_351 (show q_ins q_k351 1949 = some (.dcmp .l, 0, 0) from rfl) ?_
        refine zt_if_eq zy_351 (show q_ins q_k351 1950 = some (.ifCond .eq 11, 1961, 0) from rfl) (zt_inT _) (fun hc => ?_) (fun hc => ?_)
        · rw [if_pos hc] at h
          exact zt_wk (zt_cov_nil) (S_L_law_1961 hX  _ _ h)
        · rw [if_neg hc] at h
          refine zt_fload zy_351 (show q_ins q_k351 1953 = some (.fload 7, 0, 0) from rfl) (v := a179) rfl ?_
          refine zt_fload zy_351 (show q_ins q_k351 1955 = some (.fload 7, 0, 0) from rfl) (v := a179) rfl ?_
          refine zt_fcmp zy_351 (show q_ins q_k351 1957 = some (.fcmp .l, 0, 0) from rfl) ?_
          refine zt_if_ne zy_351 (show q_ins q_k351 1958 = some (.ifCond .ne 5, 1963, 0) from rfl) (zt_inT _) (fun hc => ?_) (fun hc => ?_)
          · rw [if_pos hc] at h
            exact zt_wk (zt_cov_nil) (S_L_law_1961 hX  _ _ h)
          · rw [if_neg hc] at h
            exact zt_wk (zt_cov_cons rfl (zt_cov_cons rfl (zt_cov_cons rfl (zt_cov_cons rfl (zt_cov_cons rfl (zt_cov_cons rfl (zt_cov_nil))))))) (S_L_law_1963 hX  hr28 _ _ _ h)
    · rw [if_neg hc] at h
      exact zt_wk (zt_cov_cons rfl (zt_cov_cons rfl (zt_cov_cons rfl (zt_cov_cons rfl (zt_cov_cons rfl (zt_cov_cons rfl (zt_cov_nil))))))) (S_L_law_1963 hX  hr28 _ _ _ h)
  · rw [if_neg hc] at h
    refine zt_iconst zy_351 (show q_ins q_k351 1923 = some (.iconst 0, 0, 0) from rfl) ?_
    cases h
    exact zt_zret zy_351 (show q_ins q_k351 1924 = some (.ireturn, 0, 0) from rfl) (by decide)
set_option maxRecDepth 100000 in
theorem S_L_law_2019 {X : q_X} (hX : X.1 ≤ 1000000)   {r28 : Int → zt_S → Option (Int × zt_S)} (hr28 : ∀ (v5 : Int) (σ : zt_S) (o : (Int × zt_S)), r28 v5 σ = some o → zt_Ex X 54 351 28 [(0, .ref q_big), (1, .ref 0), (2, .ref 163), (3, .ref 184), (4, .ref 185), (5, .int (Int32.ofInt v5))] [] (zt_M σ) (zo_I o)) : ∀ (v5 : Int) (σ : zt_S) (o : (Int × zt_S)), F_L_law_2019 X  r28 v5 σ = some o → zt_Ex X 54 351 2019 [(0, .ref q_big), (1, .ref 0), (2, .ref 163), (3, .ref 184), (4, .ref 185), (5, .int (Int32.ofInt v5))] [] (zt_M σ) (zo_I o) := by
  intro v5 σ o  h
  unfold F_L_law_2019 at h
  refine zt_goto zy_351 (show q_ins q_k351 2019 = some (.goto 579, 2598, 0) from rfl) ?_
  exact zt_wk (zt_cov_cons rfl (zt_cov_cons rfl (zt_cov_cons rfl (zt_cov_cons rfl (zt_cov_cons rfl (zt_cov_cons rfl (zt_cov_nil))))))) (S_L_law_2598 hX  hr28 _ _ _ h)
set_option maxRecDepth 100000 in
theorem S_L_law_1966 {X : q_X} (hX : X.1 ≤ 1000000)   {r28 : Int → zt_S → Option (Int × zt_S)} (hr28 : ∀ (v5 : Int) (σ : zt_S) (o : (Int × zt_S)), r28 v5 σ = some o → zt_Ex X 54 351 28 [(0, .ref q_big), (1, .ref 0), (2, .ref 163), (3, .ref 184), (4, .ref 185), (5, .int (Int32.ofInt v5))] [] (zt_M σ) (zo_I o)) : ∀ (v5 : Int) (σ : zt_S) (o : (Int × zt_S)), F_L_law_1966 X  r28 v5 σ = some o → zt_Ex X 54 351 1966 [(0, .ref q_big), (1, .ref 0), (2, .ref 163), (3, .ref 184), (4, .ref 185), (5, .int (Int32.ofInt v5))] [] (zt_M σ) (zo_I o) := by
  intro v5 σ o  h
  unfold F_L_law_1966 at h
  refine zt_aload_n zy_351 (show q_ins q_k351 1966 = some (.aload_n 1, 0, 0) from rfl) (v := 0) rfl ?_
  refine zt_aload_n zy_351 (show q_ins q_k351 1967 = some (.aload_n 0, 0, 0) from rfl) (v := q_big) rfl ?_
  refine zt_iload zy_351 (show q_ins q_k351 1968 = some (.iload 5, 0, 0) from rfl) (v := Int32.ofInt v5) rfl ?_
  refine zt_iconst zy_351 (show q_ins q_k351 1970 = some (.iconst 1, 0, 0) from rfl) ?_
  refine zt_iadd zy_351 (show q_ins q_k351 1971 = some (.iadd, 0, 0) from rfl) ?_
  obtain ⟨hg, h⟩ := zt_ckE h
  refine zt_sld zy_351 (show q_ins q_k351 1972 = some (.iaload, 0, 0) from rfl) hg hX ?_
  refine zt_aload_n zy_351 (show q_ins q_k351 1973 = some (.aload_n 3, 0, 0) from rfl) (v := 184) rfl ?_
  obtain ⟨a183, s184, hca183, h⟩ := zt_bdE h
  refine zt_callS (d := 53) zy_351 (show q_ins q_k351 1974 = some (.invokestatic 242, 342, 3) from rfl) zy_342 (by decide) ⟨zq_lt (by decide), by decide⟩ rfl (by simp [Value.category]) (by simp [lg_sl, Value.category]) rfl (zt_dm (by decide) (S_L_play hca183)) ?_
  refine zt_istore zy_351 (show q_ins q_k351 1977 = some (.istore 6, 0, 0) from rfl) (by decide) ?_
  refine zt_aload_n zy_351 (show q_ins q_k351 1979 = some (.aload_n 2, 0, 0) from rfl) (v := 163) rfl ?_
  refine zt_aload_n zy_351 (show q_ins q_k351 1980 = some (.aload_n 0, 0, 0) from rfl) (v := q_big) rfl ?_
  refine zt_iload zy_351 (show q_ins q_k351 1981 = some (.iload 5, 0, 0) from rfl) (v := Int32.ofInt v5) rfl ?_
  refine zt_iconst zy_351 (show q_ins q_k351 1983 = some (.iconst 1, 0, 0) from rfl) ?_
  refine zt_iadd zy_351 (show q_ins q_k351 1984 = some (.iadd, 0, 0) from rfl) ?_
  obtain ⟨hg, h⟩ := zt_ckE h
  refine zt_sld zy_351 (show q_ins q_k351 1985 = some (.iaload, 0, 0) from rfl) hg hX ?_
  obtain ⟨a185, s186, hca185, h⟩ := zt_bdE h
  refine zt_callV (d := 53) zy_351 (show q_ins q_k351 1986 = some (.invokevirtual 244, 277, 1) from rfl) zy_277 (by decide) ⟨zq_lt (by decide), by decide⟩ rfl (by simp [Value.category]) (by simp [lg_sl, Value.category]) (zt_rcv zc_163) (zt_dm (by decide) (S_M_play hca185)) ?_
  refine zt_istore zy_351 (show q_ins q_k351 1989 = some (.istore 7, 0, 0) from rfl) (by decide) ?_
  refine zt_aload_n zy_351 (show q_ins q_k351 1991 = some (.aload_n 2, 0, 0) from rfl) (v := 163) rfl ?_
  obtain ⟨a187, s188, hca187, h⟩ := zt_bdE h
  refine zt_callV (d := 53) zy_351 (show q_ins q_k351 1992 = some (.invokevirtual 136, 170, 0) from rfl) zy_170 (by decide) ⟨zq_lt (by decide), by decide⟩ rfl (by simp [Value.category]) (by simp [lg_sl, Value.category]) (zt_rcv zc_163) (zt_dm (by decide) (S_M_thrown hca187)) ?_
  refine zt_iload zy_351 (show q_ins q_k351 1995 = some (.iload 6, 0, 0) from rfl) (v := Int32.ofInt a183) rfl ?_
  obtain ⟨hg, h⟩ := zt_ckE h
  refine zt_icmp_eq zy_351 (show q_ins q_k351 1997 = some (.if_icmp .eq 5, 2002, 0) from rfl) (⟨hg.1, hg.2⟩) (fun hc => ?_) (fun hc => ?_)
  · rw [if_pos hc] at h
    refine zt_iload zy_351 (show q_ins q_k351 2002 = some (.iload 6, 0, 0) from rfl) (v := Int32.ofInt a183) rfl ?_
    obtain ⟨hg, h⟩ := zt_ckE h
    refine zt_if_ne zy_351 (show q_ins q_k351 2004 = some (.ifCond .ne 15, 2019, 0) from rfl) (hg) (fun hc => ?_) (fun hc => ?_)
    · rw [if_pos hc] at h
      refine zt_aload_n zy_351 (show q_ins q_k351 2007 = some (.aload_n 3, 0, 0) from rfl) (v := 184) rfl ?_
      refine zt_iconst zy_351 (show q_ins q_k351 2008 = some (.iconst 0, 0, 0) from rfl) ?_
      refine zt_lld zy_351 (show q_ins q_k351 2009 = some (.laload, 0, 0) from rfl) za_184 (by decide) (by decide) ?_
      refine zt_iload zy_351 (show q_ins q_k351 2010 = some (.iload 7, 0, 0) from rfl) (v := Int32.ofInt a185) rfl ?_
      refine zt_i2l zy_351 (show q_ins q_k351 2012 = some (.i2l, 0, 0) from rfl) ?_
      refine zt_lcmp zy_351 (show q_ins q_k351 2013 = some (.lcmp, 0, 0) from rfl) ?_
      refine zt_if_eq zy_351 (show q_ins q_k351 2014 = some (.ifCond .eq 5, 2019, 0) from rfl) (zt_inT _) (fun hc => ?_) (fun hc => ?_)
      · rw [if_pos hc] at h
        exact zt_wk (zt_cov_cons rfl (zt_cov_cons rfl (zt_cov_cons rfl (zt_cov_cons rfl (zt_cov_cons rfl (zt_cov_cons rfl (zt_cov_nil))))))) (S_L_law_2019 hX  hr28 _ _ _ h)
      · rw [if_neg hc] at h
        refine zt_iconst zy_351 (show q_ins q_k351 2017 = some (.iconst 0, 0, 0) from rfl) ?_
        cases h
        exact zt_zret zy_351 (show q_ins q_k351 2018 = some (.ireturn, 0, 0) from rfl) (by decide)
    · rw [if_neg hc] at h
      exact zt_wk (zt_cov_cons rfl (zt_cov_cons rfl (zt_cov_cons rfl (zt_cov_cons rfl (zt_cov_cons rfl (zt_cov_cons rfl (zt_cov_nil))))))) (S_L_law_2019 hX  hr28 _ _ _ h)
  · rw [if_neg hc] at h
    refine zt_iconst zy_351 (show q_ins q_k351 2000 = some (.iconst 0, 0, 0) from rfl) ?_
    cases h
    exact zt_zret zy_351 (show q_ins q_k351 2001 = some (.ireturn, 0, 0) from rfl) (by decide)
set_option maxRecDepth 100000 in
theorem S_L_law_2075 {X : q_X} (hX : X.1 ≤ 1000000)   {r28 : Int → zt_S → Option (Int × zt_S)} (hr28 : ∀ (v5 : Int) (σ : zt_S) (o : (Int × zt_S)), r28 v5 σ = some o → zt_Ex X 54 351 28 [(0, .ref q_big), (1, .ref 0), (2, .ref 163), (3, .ref 184), (4, .ref 185), (5, .int (Int32.ofInt v5))] [] (zt_M σ) (zo_I o)) : ∀ (v5 : Int) (σ : zt_S) (o : (Int × zt_S)), F_L_law_2075 X  r28 v5 σ = some o → zt_Ex X 54 351 2075 [(0, .ref q_big), (1, .ref 0), (2, .ref 163), (3, .ref 184), (4, .ref 185), (5, .int (Int32.ofInt v5))] [] (zt_M σ) (zo_I o) := by
  intro v5 σ o  h
  unfold F_L_law_2075 at h
  refine zt_goto zy_351 (show q_ins q_k351 2075 = some (.goto 523, 2598, 0) from rfl) ?_
  exact zt_wk (zt_cov_cons rfl (zt_cov_cons rfl (zt_cov_cons rfl (zt_cov_cons rfl (zt_cov_cons rfl (zt_cov_cons rfl (zt_cov_nil))))))) (S_L_law_2598 hX  hr28 _ _ _ h)
set_option maxRecDepth 100000 in
theorem S_L_law_2022 {X : q_X} (hX : X.1 ≤ 1000000)   {r28 : Int → zt_S → Option (Int × zt_S)} (hr28 : ∀ (v5 : Int) (σ : zt_S) (o : (Int × zt_S)), r28 v5 σ = some o → zt_Ex X 54 351 28 [(0, .ref q_big), (1, .ref 0), (2, .ref 163), (3, .ref 184), (4, .ref 185), (5, .int (Int32.ofInt v5))] [] (zt_M σ) (zo_I o)) : ∀ (v5 : Int) (σ : zt_S) (o : (Int × zt_S)), F_L_law_2022 X  r28 v5 σ = some o → zt_Ex X 54 351 2022 [(0, .ref q_big), (1, .ref 0), (2, .ref 163), (3, .ref 184), (4, .ref 185), (5, .int (Int32.ofInt v5))] [] (zt_M σ) (zo_I o) := by
  intro v5 σ o  h
  unfold F_L_law_2022 at h
  refine zt_aload_n zy_351 (show q_ins q_k351 2022 = some (.aload_n 1, 0, 0) from rfl) (v := 0) rfl ?_
  refine zt_aload_n zy_351 (show q_ins q_k351 2023 = some (.aload_n 0, 0, 0) from rfl) (v := q_big) rfl ?_
  refine zt_iload zy_351 (show q_ins q_k351 2024 = some (.iload 5, 0, 0) from rfl) (v := Int32.ofInt v5) rfl ?_
  refine zt_iconst zy_351 (show q_ins q_k351 2026 = some (.iconst 1, 0, 0) from rfl) ?_
  refine zt_iadd zy_351 (show q_ins q_k351 2027 = some (.iadd, 0, 0) from rfl) ?_
  obtain ⟨hg, h⟩ := zt_ckE h
  refine zt_sld zy_351 (show q_ins q_k351 2028 = some (.iaload, 0, 0) from rfl) hg hX ?_
  refine zt_aload_n zy_351 (show q_ins q_k351 2029 = some (.aload_n 3, 0, 0) from rfl) (v := 184) rfl ?_
  obtain ⟨a189, s190, hca189, h⟩ := zt_bdE h
  refine zt_callS (d := 53) zy_351 (show q_ins q_k351 2030 = some (.invokestatic 245, 343, 3) from rfl) zy_343 (by decide) ⟨zq_lt (by decide), by decide⟩ rfl (by simp [Value.category]) (by simp [lg_sl, Value.category]) rfl (zt_dm (by decide) (S_L_auto hca189)) ?_
  refine zt_istore zy_351 (show q_ins q_k351 2033 = some (.istore 6, 0, 0) from rfl) (by decide) ?_
  refine zt_aload_n zy_351 (show q_ins q_k351 2035 = some (.aload_n 2, 0, 0) from rfl) (v := 163) rfl ?_
  refine zt_aload_n zy_351 (show q_ins q_k351 2036 = some (.aload_n 0, 0, 0) from rfl) (v := q_big) rfl ?_
  refine zt_iload zy_351 (show q_ins q_k351 2037 = some (.iload 5, 0, 0) from rfl) (v := Int32.ofInt v5) rfl ?_
  refine zt_iconst zy_351 (show q_ins q_k351 2039 = some (.iconst 1, 0, 0) from rfl) ?_
  refine zt_iadd zy_351 (show q_ins q_k351 2040 = some (.iadd, 0, 0) from rfl) ?_
  obtain ⟨hg, h⟩ := zt_ckE h
  refine zt_sld zy_351 (show q_ins q_k351 2041 = some (.iaload, 0, 0) from rfl) hg hX ?_
  obtain ⟨a191, s192, hca191, h⟩ := zt_bdE h
  refine zt_callV (d := 53) zy_351 (show q_ins q_k351 2042 = some (.invokevirtual 247, 280, 1) from rfl) zy_280 (by decide) ⟨zq_lt (by decide), by decide⟩ rfl (by simp [Value.category]) (by simp [lg_sl, Value.category]) (zt_rcv zc_163) (zt_dm (by decide) (S_M_auto hca191)) ?_
  refine zt_istore zy_351 (show q_ins q_k351 2045 = some (.istore 7, 0, 0) from rfl) (by decide) ?_
  refine zt_aload_n zy_351 (show q_ins q_k351 2047 = some (.aload_n 2, 0, 0) from rfl) (v := 163) rfl ?_
  obtain ⟨a193, s194, hca193, h⟩ := zt_bdE h
  refine zt_callV (d := 53) zy_351 (show q_ins q_k351 2048 = some (.invokevirtual 136, 170, 0) from rfl) zy_170 (by decide) ⟨zq_lt (by decide), by decide⟩ rfl (by simp [Value.category]) (by simp [lg_sl, Value.category]) (zt_rcv zc_163) (zt_dm (by decide) (S_M_thrown hca193)) ?_
  refine zt_iload zy_351 (show q_ins q_k351 2051 = some (.iload 6, 0, 0) from rfl) (v := Int32.ofInt a189) rfl ?_
  obtain ⟨hg, h⟩ := zt_ckE h
  refine zt_icmp_eq zy_351 (show q_ins q_k351 2053 = some (.if_icmp .eq 5, 2058, 0) from rfl) (⟨hg.1, hg.2⟩) (fun hc => ?_) (fun hc => ?_)
  · rw [if_pos hc] at h
    refine zt_iload zy_351 (show q_ins q_k351 2058 = some (.iload 6, 0, 0) from rfl) (v := Int32.ofInt a189) rfl ?_
    obtain ⟨hg, h⟩ := zt_ckE h
    refine zt_if_ne zy_351 (show q_ins q_k351 2060 = some (.ifCond .ne 15, 2075, 0) from rfl) (hg) (fun hc => ?_) (fun hc => ?_)
    · rw [if_pos hc] at h
      refine zt_aload_n zy_351 (show q_ins q_k351 2063 = some (.aload_n 3, 0, 0) from rfl) (v := 184) rfl ?_
      refine zt_iconst zy_351 (show q_ins q_k351 2064 = some (.iconst 0, 0, 0) from rfl) ?_
      refine zt_lld zy_351 (show q_ins q_k351 2065 = some (.laload, 0, 0) from rfl) za_184 (by decide) (by decide) ?_
      refine zt_iload zy_351 (show q_ins q_k351 2066 = some (.iload 7, 0, 0) from rfl) (v := Int32.ofInt a191) rfl ?_
      refine zt_i2l zy_351 (show q_ins q_k351 2068 = some (.i2l, 0, 0) from rfl) ?_
      refine zt_lcmp zy_351 (show q_ins q_k351 2069 = some (.lcmp, 0, 0) from rfl) ?_
      refine zt_if_eq zy_351 (show q_ins q_k351 2070 = some (.ifCond .eq 5, 2075, 0) from rfl) (zt_inT _) (fun hc => ?_) (fun hc => ?_)
      · rw [if_pos hc] at h
        exact zt_wk (zt_cov_cons rfl (zt_cov_cons rfl (zt_cov_cons rfl (zt_cov_cons rfl (zt_cov_cons rfl (zt_cov_cons rfl (zt_cov_nil))))))) (S_L_law_2075 hX  hr28 _ _ _ h)
      · rw [if_neg hc] at h
        refine zt_iconst zy_351 (show q_ins q_k351 2073 = some (.iconst 0, 0, 0) from rfl) ?_
        cases h
        exact zt_zret zy_351 (show q_ins q_k351 2074 = some (.ireturn, 0, 0) from rfl) (by decide)
    · rw [if_neg hc] at h
      exact zt_wk (zt_cov_cons rfl (zt_cov_cons rfl (zt_cov_cons rfl (zt_cov_cons rfl (zt_cov_cons rfl (zt_cov_cons rfl (zt_cov_nil))))))) (S_L_law_2075 hX  hr28 _ _ _ h)
  · rw [if_neg hc] at h
    refine zt_iconst zy_351 (show q_ins q_k351 2056 = some (.iconst 0, 0, 0) from rfl) ?_
    cases h
    exact zt_zret zy_351 (show q_ins q_k351 2057 = some (.ireturn, 0, 0) from rfl) (by decide)
