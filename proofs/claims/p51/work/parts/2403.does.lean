/-! the mini-machine does what the functions say (by program) -/
section TT
variable {T : zt_T}
theorem S_Rw_fill_2 {X : q_X} {c0 : Nat} {n0 : Nat} (ha0 : zt_sh[c0]? = some (.inl (0, n0))) (hn0 : n0 ≤ 1000000) : ∀ (n : Nat) (v1 : Int) (v2 : Int) (σ : zt_S) (o : (Unit × zt_S)), F_Rw_fill_2 c0 n0 n v1 v2 σ = some o → zt_Ex X 0 311 2 [(0, .ref c0), (1, .int (Int32.ofInt v1)), (2, .int (Int32.ofInt v2))] [] (zt_M T σ) (zo_V T o) := by
  intro n
  induction n with
  | zero => intro v1 v2 σ o  h; cases h
  | succ n ih =>
  intro v1 v2 σ o  h
  rw [F_Rw_fill_2] at h
  refine zt_iload_n zy_311 (show q_ins q_k311 2 = some (.iload_n 2, 0, 0) from rfl) (v := Int32.ofInt v2) rfl ?_
  refine zt_aload_n zy_311 (show q_ins q_k311 3 = some (.aload_n 0, 0, 0) from rfl) (v := c0) rfl ?_
  refine zt_alen zy_311 (show q_ins q_k311 4 = some (.arraylength, 0, 0) from rfl) ha0 (by decide) ?_
  obtain ⟨hg, h⟩ := zt_ckE h
  refine zt_icmp_ge zy_311 (show q_ins q_k311 5 = some (.if_icmp .ge 13, 18, 0) from rfl) (⟨hg.1, hg.2⟩) (fun hc => ?_) (fun hc => ?_)
  · rw [if_pos hc] at h
    refine zt_aload_n zy_311 (show q_ins q_k311 8 = some (.aload_n 0, 0, 0) from rfl) (v := c0) rfl ?_
    refine zt_iload_n zy_311 (show q_ins q_k311 9 = some (.iload_n 2, 0, 0) from rfl) (v := Int32.ofInt v2) rfl ?_
    refine zt_iload_n zy_311 (show q_ins q_k311 10 = some (.iload_n 1, 0, 0) from rfl) (v := Int32.ofInt v1) rfl ?_
    obtain ⟨hg, h⟩ := zt_ckE h
    obtain ⟨s1, hs1, h⟩ := zt_letE h
    refine zt_ast zy_311 (show q_ins q_k311 11 = some (.iastore, 0, 0) from rfl) ha0 hn0 hg ?_
    rw [← hs1]
    refine zt_iinc zy_311 (show q_ins q_k311 12 = some (.iinc 2 1, 0, 0) from rfl) (v := v2) (by decide) rfl ?_
    refine zt_goto zy_311 (show q_ins q_k311 15 = some (.goto (-13), 2, 0) from rfl) ?_
    exact zt_wk (zt_cov_cons rfl (zt_cov_cons rfl (zt_cov_cons rfl (zt_cov_nil)))) (ih _ _ _ _ h)
  · rw [if_neg hc] at h
    cases h
    exact zt_ret zy_311 (show q_ins q_k311 18 = some (.return_, 0, 0) from rfl)
theorem S_Rw_fill {X : q_X} {c0 : Nat} {n0 : Nat} (ha0 : zt_sh[c0]? = some (.inl (0, n0))) (hn0 : n0 ≤ 1000000) {v1 : Int} {σ : zt_S} {o : (Unit × zt_S)} (h : F_Rw_fill c0 n0 v1 σ = some o) : zt_Ex X 0 311 0 (lv_args 0 [.ref c0, .int (Int32.ofInt v1)]) [] (zt_M T σ) (zo_V T o) := by
  unfold F_Rw_fill at h
  refine zt_iconst zy_311 (show q_ins q_k311 0 = some (.iconst 0, 0, 0) from rfl) ?_
  refine zt_istore_n zy_311 (show q_ins q_k311 1 = some (.istore_n 2, 0, 0) from rfl) (by decide) ?_
  exact zt_wk (zt_cov_cons rfl (zt_cov_cons rfl (zt_cov_cons rfl (zt_cov_nil)))) (S_Rw_fill_2  ha0 hn0 _ _ _ _ _ h)
theorem S_Tb_clearHand_24 {X : q_X} {t0 : Nat} (ht0 : t0 ∈ zt_tabs) : ∀  (σ : zt_S) (o : (Unit × zt_S)), F_Tb_clearHand_24 t0  σ = some o → zt_Ex X 1 51 24 [(0, .ref t0)] [] (zt_M T σ) (zo_V T o) := by
  intro  σ o  h
  unfold F_Tb_clearHand_24 at h
  refine zt_aload_n zy_51 (show q_ins q_k51 24 = some (.aload_n 0, 0, 0) from rfl) (v := t0) rfl ?_
  refine zt_getR zy_51 (show q_ins q_k51 25 = some (.getfield 22, 6, 3) from rfl) (r := (t0 + 3)) (zk_T_3 ht0) ?_
  refine zt_iconst zy_51 (show q_ins q_k51 28 = some (.iconst (-1), 0, 0) from rfl) ?_
  obtain ⟨a2, s3, hca2, h⟩ := zt_bdE h
  refine zt_callS (d := 0) zy_51 (show q_ins q_k51 29 = some (.invokestatic 51, 311, 2) from rfl) zy_311 (by decide) ⟨zq_lt (by decide), by decide⟩ rfl (by simp [Value.category]) (by simp [lg_sl, Value.category]) rfl (zt_dm (by decide) (S_Rw_fill (za_T3 ht0) (by decide) hca2)) ?_
  refine zt_aload_n zy_51 (show q_ins q_k51 32 = some (.aload_n 0, 0, 0) from rfl) (v := t0) rfl ?_
  refine zt_getR zy_51 (show q_ins q_k51 33 = some (.getfield 26, 6, 4) from rfl) (r := (t0 + 4)) (zk_T_4 ht0) ?_
  refine zt_iconst zy_51 (show q_ins q_k51 36 = some (.iconst 0, 0, 0) from rfl) ?_
  obtain ⟨a4, s5, hca4, h⟩ := zt_bdE h
  refine zt_callS (d := 0) zy_51 (show q_ins q_k51 37 = some (.invokestatic 51, 311, 2) from rfl) zy_311 (by decide) ⟨zq_lt (by decide), by decide⟩ rfl (by simp [Value.category]) (by simp [lg_sl, Value.category]) rfl (zt_dm (by decide) (S_Rw_fill (za_T4 ht0) (by decide) hca4)) ?_
  refine zt_aload_n zy_51 (show q_ins q_k51 40 = some (.aload_n 0, 0, 0) from rfl) (v := t0) rfl ?_
  refine zt_getR zy_51 (show q_ins q_k51 41 = some (.getfield 29, 6, 5) from rfl) (r := (t0 + 5)) (zk_T_5 ht0) ?_
  refine zt_iconst zy_51 (show q_ins q_k51 44 = some (.iconst 0, 0, 0) from rfl) ?_
  obtain ⟨a6, s7, hca6, h⟩ := zt_bdE h
  refine zt_callS (d := 0) zy_51 (show q_ins q_k51 45 = some (.invokestatic 51, 311, 2) from rfl) zy_311 (by decide) ⟨zq_lt (by decide), by decide⟩ rfl (by simp [Value.category]) (by simp [lg_sl, Value.category]) rfl (zt_dm (by decide) (S_Rw_fill (za_T5 ht0) (by decide) hca6)) ?_
  refine zt_aload_n zy_51 (show q_ins q_k51 48 = some (.aload_n 0, 0, 0) from rfl) (v := t0) rfl ?_
  refine zt_lconst zy_51 (show q_ins q_k51 49 = some (.lconst 0, 0, 0) from rfl) (v := (0 : Int64)) (by decide) ?_
  obtain ⟨s8, hs8, h⟩ := zt_letE h
  refine zt_putL zy_51 (show q_ins q_k51 50 = some (.putfield 80, 6, 10) from rfl) (j := 10) (zk_T_10 ht0) rfl rfl rfl ?_
  rw [← hs8]
  refine zt_aload_n zy_51 (show q_ins q_k51 53 = some (.aload_n 0, 0, 0) from rfl) (v := t0) rfl ?_
  refine zt_iconst zy_51 (show q_ins q_k51 54 = some (.iconst 0, 0, 0) from rfl) ?_
  obtain ⟨s9, hs9, h⟩ := zt_letE h
  refine zt_putI zy_51 (show q_ins q_k51 55 = some (.putfield 84, 6, 16) from rfl) (j := 16) (zk_T_16 ht0) rfl rfl rfl ?_
  rw [← hs9]
  refine zt_aload_n zy_51 (show q_ins q_k51 58 = some (.aload_n 0, 0, 0) from rfl) (v := t0) rfl ?_
  refine zt_iconst zy_51 (show q_ins q_k51 59 = some (.iconst 0, 0, 0) from rfl) ?_
  obtain ⟨s10, hs10, h⟩ := zt_letE h
  refine zt_putI zy_51 (show q_ins q_k51 60 = some (.putfield 87, 6, 17) from rfl) (j := 17) (zk_T_17 ht0) rfl rfl rfl ?_
  rw [← hs10]
  cases h
  exact zt_ret zy_51 (show q_ins q_k51 63 = some (.return_, 0, 0) from rfl)
theorem S_Tb_clearHand_2 {X : q_X} {t0 : Nat} (ht0 : t0 ∈ zt_tabs) : ∀ (n : Nat) (v1 : Int) (σ : zt_S) (o : (Unit × zt_S)), F_Tb_clearHand_2 t0 n v1 σ = some o → zt_Ex X 1 51 2 [(0, .ref t0), (1, .int (Int32.ofInt v1))] [] (zt_M T σ) (zo_V T o) := by
  intro n
  induction n with
  | zero => intro v1 σ o  h; cases h
  | succ n ih =>
  intro v1 σ o  h
  rw [F_Tb_clearHand_2] at h
  refine zt_iload_n zy_51 (show q_ins q_k51 2 = some (.iload_n 1, 0, 0) from rfl) (v := Int32.ofInt v1) rfl ?_
  refine zt_aload_n zy_51 (show q_ins q_k51 3 = some (.aload_n 0, 0, 0) from rfl) (v := t0) rfl ?_
  refine zt_getR zy_51 (show q_ins q_k51 4 = some (.getfield 18, 6, 2) from rfl) (r := (t0 + 2)) (zk_T_2 ht0) ?_
  refine zt_alen zy_51 (show q_ins q_k51 7 = some (.arraylength, 0, 0) from rfl) (za_T2 ht0) (by decide) ?_
  obtain ⟨hg, h⟩ := zt_ckE h
  refine zt_icmp_ge zy_51 (show q_ins q_k51 8 = some (.if_icmp .ge 16, 24, 0) from rfl) (⟨hg, by decide⟩) (fun hc => ?_) (fun hc => ?_)
  · rw [if_pos hc] at h
    refine zt_aload_n zy_51 (show q_ins q_k51 11 = some (.aload_n 0, 0, 0) from rfl) (v := t0) rfl ?_
    refine zt_getR zy_51 (show q_ins q_k51 12 = some (.getfield 18, 6, 2) from rfl) (r := (t0 + 2)) (zk_T_2 ht0) ?_
    refine zt_iload_n zy_51 (show q_ins q_k51 15 = some (.iload_n 1, 0, 0) from rfl) (v := Int32.ofInt v1) rfl ?_
    refine zt_lconst zy_51 (show q_ins q_k51 16 = some (.lconst 0, 0, 0) from rfl) (v := (0 : Int64)) (by decide) ?_
    obtain ⟨hg, h⟩ := zt_ckE h
    obtain ⟨s1, hs1, h⟩ := zt_letE h
    refine zt_lst zy_51 (show q_ins q_k51 17 = some (.lastore, 0, 0) from rfl) (za_T2 ht0) (by decide) hg ?_
    rw [← hs1]
    refine zt_iinc zy_51 (show q_ins q_k51 18 = some (.iinc 1 1, 0, 0) from rfl) (v := v1) (by decide) rfl ?_
    refine zt_goto zy_51 (show q_ins q_k51 21 = some (.goto (-19), 2, 0) from rfl) ?_
    exact zt_wk (zt_cov_cons rfl (zt_cov_cons rfl (zt_cov_nil))) (ih _ _ _ h)
  · rw [if_neg hc] at h
    exact zt_wk (zt_cov_cons rfl (zt_cov_nil)) (S_Tb_clearHand_24  ht0 _ _ h)
theorem S_Tb_clearHand {X : q_X} {t0 : Nat} (ht0 : t0 ∈ zt_tabs)  {σ : zt_S} {o : (Unit × zt_S)} (h : F_Tb_clearHand t0  σ = some o) : zt_Ex X 1 51 0 (lv_args 0 [.ref t0]) [] (zt_M T σ) (zo_V T o) := by
  unfold F_Tb_clearHand at h
  refine zt_iconst zy_51 (show q_ins q_k51 0 = some (.iconst 0, 0, 0) from rfl) ?_
  refine zt_istore_n zy_51 (show q_ins q_k51 1 = some (.istore_n 1, 0, 0) from rfl) (by decide) ?_
  exact zt_wk (zt_cov_cons rfl (zt_cov_cons rfl (zt_cov_nil))) (S_Tb_clearHand_2  ht0 _ _ _ _ h)
theorem S_Tb_clear {X : q_X} {t0 : Nat} (ht0 : t0 ∈ zt_tabs)  {σ : zt_S} {o : (Unit × zt_S)} (h : F_Tb_clear t0  σ = some o) : zt_Ex X 2 50 0 (lv_args 0 [.ref t0]) [] (zt_M T σ) (zo_V T o) := by
  unfold F_Tb_clear at h
  refine zt_aload_n zy_50 (show q_ins q_k50 0 = some (.aload_n 0, 0, 0) from rfl) (v := t0) rfl ?_
  refine zt_getR zy_50 (show q_ins q_k50 1 = some (.getfield 32, 6, 6) from rfl) (r := (t0 + 6)) (zk_T_6 ht0) ?_
  refine zt_iconst zy_50 (show q_ins q_k50 4 = some (.iconst 0, 0, 0) from rfl) ?_
  obtain ⟨a1, s2, hca1, h⟩ := zt_bdE h
  refine zt_callS (d := 1) zy_50 (show q_ins q_k50 5 = some (.invokestatic 51, 311, 2) from rfl) zy_311 (by decide) ⟨zq_lt (by decide), by decide⟩ rfl (by simp [Value.category]) (by simp [lg_sl, Value.category]) rfl (zt_dm (by decide) (S_Rw_fill (za_T6 ht0) (by decide) hca1)) ?_
  refine zt_aload_n zy_50 (show q_ins q_k50 8 = some (.aload_n 0, 0, 0) from rfl) (v := t0) rfl ?_
  refine zt_iconst zy_50 (show q_ins q_k50 9 = some (.iconst 1, 0, 0) from rfl) ?_
  obtain ⟨s3, hs3, h⟩ := zt_letE h
  refine zt_putI zy_50 (show q_ins q_k50 10 = some (.putfield 57, 6, 11) from rfl) (j := 11) (zk_T_11 ht0) rfl rfl rfl ?_
  rw [← hs3]
  refine zt_aload_n zy_50 (show q_ins q_k50 13 = some (.aload_n 0, 0, 0) from rfl) (v := t0) rfl ?_
  refine zt_iconst zy_50 (show q_ins q_k50 14 = some (.iconst 2, 0, 0) from rfl) ?_
  obtain ⟨s4, hs4, h⟩ := zt_letE h
  refine zt_putI zy_50 (show q_ins q_k50 15 = some (.putfield 61, 6, 12) from rfl) (j := 12) (zk_T_12 ht0) rfl rfl rfl ?_
  rw [← hs4]
  refine zt_aload_n zy_50 (show q_ins q_k50 18 = some (.aload_n 0, 0, 0) from rfl) (v := t0) rfl ?_
  refine zt_iconst zy_50 (show q_ins q_k50 19 = some (.iconst 0, 0, 0) from rfl) ?_
  obtain ⟨s5, hs5, h⟩ := zt_letE h
  refine zt_putZ zy_50 (show q_ins q_k50 20 = some (.putfield 64, 6, 13) from rfl) (j := 13) (zk_T_13 ht0) rfl rfl (by decide) rfl ?_
  rw [← hs5]
  refine zt_aload_n zy_50 (show q_ins q_k50 23 = some (.aload_n 0, 0, 0) from rfl) (v := t0) rfl ?_
  refine zt_iconst zy_50 (show q_ins q_k50 24 = some (.iconst (-1), 0, 0) from rfl) ?_
  obtain ⟨s6, hs6, h⟩ := zt_letE h
  refine zt_putI zy_50 (show q_ins q_k50 25 = some (.putfield 68, 6, 14) from rfl) (j := 14) (zk_T_14 ht0) rfl rfl rfl ?_
  rw [← hs6]
  refine zt_aload_n zy_50 (show q_ins q_k50 28 = some (.aload_n 0, 0, 0) from rfl) (v := t0) rfl ?_
  refine zt_iconst zy_50 (show q_ins q_k50 29 = some (.iconst 0, 0, 0) from rfl) ?_
  obtain ⟨s7, hs7, h⟩ := zt_letE h
  refine zt_putI zy_50 (show q_ins q_k50 30 = some (.putfield 71, 6, 15) from rfl) (j := 15) (zk_T_15 ht0) rfl rfl rfl ?_
  rw [← hs7]
  refine zt_aload_n zy_50 (show q_ins q_k50 33 = some (.aload_n 0, 0, 0) from rfl) (v := t0) rfl ?_
  refine zt_iconst zy_50 (show q_ins q_k50 34 = some (.iconst 0, 0, 0) from rfl) ?_
  obtain ⟨s8, hs8, h⟩ := zt_letE h
  refine zt_putI zy_50 (show q_ins q_k50 35 = some (.putfield 74, 6, 18) from rfl) (j := 18) (zk_T_18 ht0) rfl rfl rfl ?_
  rw [← hs8]
  refine zt_aload_n zy_50 (show q_ins q_k50 38 = some (.aload_n 0, 0, 0) from rfl) (v := t0) rfl ?_
  obtain ⟨a9, s10, hca9, h⟩ := zt_bdE h
  refine zt_callV (d := 1) zy_50 (show q_ins q_k50 39 = some (.invokevirtual 77, 51, 0) from rfl) zy_51 (by decide) ⟨zq_lt (by decide), by decide⟩ rfl (by simp [Value.category]) (by simp [lg_sl, Value.category]) (zt_rcv (zc_T ht0)) (zt_dm (by decide) (S_Tb_clearHand ht0 hca9)) ?_
  cases h
  exact zt_ret zy_50 (show q_ins q_k50 42 = some (.return_, 0, 0) from rfl)
theorem S_Tb_lightTrump_34 {X : q_X} {t0 : Nat} (ht0 : t0 ∈ zt_tabs) : ∀ (x0 : Int) (x1 : Nat) (σ : zt_S) (o : (Unit × zt_S)) (hx1 : x1 ∈ zt_tris), F_Tb_lightTrump_34 t0 x0 x1 σ = some o → zt_Ex X 0 54 34 [] [.int (Int32.ofInt x0), .ref x1] (zt_M T σ) (zo_V T o) := by
  intro x0 x1 σ o hx1 h
  unfold F_Tb_lightTrump_34 at h
  obtain ⟨s2, hs2, h⟩ := zt_letE h
  refine zt_putI zy_54 (show q_ins q_k54 34 = some (.putfield 117, 9, 8) from rfl) (j := 8) (zk_K_8 hx1) rfl rfl rfl ?_
  rw [← hs2]
  cases h
  exact zt_ret zy_54 (show q_ins q_k54 37 = some (.return_, 0, 0) from rfl)
theorem S_Tb_lightTrump {X : q_X} {t0 : Nat} (ht0 : t0 ∈ zt_tabs)  {σ : zt_S} {o : (Unit × zt_S)} (h : F_Tb_lightTrump t0  σ = some o) : zt_Ex X 0 54 0 (lv_args 0 [.ref t0]) [] (zt_M T σ) (zo_V T o) := by
  unfold F_Tb_lightTrump at h
  refine zt_aload_n zy_54 (show q_ins q_k54 0 = some (.aload_n 0, 0, 0) from rfl) (v := t0) rfl ?_
  refine zt_getR zy_54 (show q_ins q_k54 1 = some (.getfield 12, 6, 1) from rfl) (r := (t0 + 1)) (zk_T_1 ht0) ?_
  refine zt_aload_n zy_54 (show q_ins q_k54 4 = some (.aload_n 0, 0, 0) from rfl) (v := t0) rfl ?_
  refine zt_getI zy_54 (show q_ins q_k54 5 = some (.getfield 68, 6, 14) from rfl) (j := 14) (zk_T_14 ht0) rfl ?_
  obtain ⟨s1, hs1, h⟩ := zt_letE h
  refine zt_putI zy_54 (show q_ins q_k54 8 = some (.putfield 109, 9, 7) from rfl) (j := 7) (zk_K_7 (zm_T1 ht0)) rfl rfl rfl ?_
  rw [← hs1]
  refine zt_aload_n zy_54 (show q_ins q_k54 11 = some (.aload_n 0, 0, 0) from rfl) (v := t0) rfl ?_
  refine zt_getR zy_54 (show q_ins q_k54 12 = some (.getfield 12, 6, 1) from rfl) (r := (t0 + 1)) (zk_T_1 ht0) ?_
  refine zt_aload_n zy_54 (show q_ins q_k54 15 = some (.aload_n 0, 0, 0) from rfl) (v := t0) rfl ?_
  refine zt_getI zy_54 (show q_ins q_k54 16 = some (.getfield 68, 6, 14) from rfl) (j := 14) (zk_T_14 ht0) rfl ?_
  refine zt_iconst zy_54 (show q_ins q_k54 19 = some (.iconst (-1), 0, 0) from rfl) ?_
  obtain ⟨hg, h⟩ := zt_ckE h
  refine zt_icmp_ne zy_54 (show q_ins q_k54 20 = some (.if_icmp .ne 7, 27, 0) from rfl) (⟨hg, by decide⟩) (fun hc => ?_) (fun hc => ?_)
  · rw [if_pos hc] at h
    refine zt_iconst zy_54 (show q_ins q_k54 23 = some (.iconst 0, 0, 0) from rfl) ?_
    refine zt_goto zy_54 (show q_ins q_k54 24 = some (.goto 10, 34, 0) from rfl) ?_
    exact zt_wk (zt_cov_nil) (S_Tb_lightTrump_34  ht0 _ _ _ _ (zm_T1 ht0) h)
  · rw [if_neg hc] at h
    refine zt_aload_n zy_54 (show q_ins q_k54 27 = some (.aload_n 0, 0, 0) from rfl) (v := t0) rfl ?_
    refine zt_getR zy_54 (show q_ins q_k54 28 = some (.getfield 44, 6, 0) from rfl) (r := (zt_su t0)) (zk_T_0 ht0) ?_
    refine zt_getI zy_54 (show q_ins q_k54 31 = some (.getfield 112, 4, 3) from rfl) (j := 3) (zk_S_3 (zm_T0 ht0)) rfl ?_
    exact zt_wk (zt_cov_nil) (S_Tb_lightTrump_34  ht0 _ _ _ _ (zm_T1 ht0) h)
theorem S_Tb_openHand {X : q_X} {t0 : Nat} (ht0 : t0 ∈ zt_tabs)  {σ : zt_S} {o : (Unit × zt_S)} (h : F_Tb_openHand t0  σ = some o) : zt_Ex X 1 53 0 (lv_args 0 [.ref t0]) [] (zt_M T σ) (zo_V T o) := by
  unfold F_Tb_openHand at h
  refine zt_aload_n zy_53 (show q_ins q_k53 0 = some (.aload_n 0, 0, 0) from rfl) (v := t0) rfl ?_
  refine zt_getR zy_53 (show q_ins q_k53 1 = some (.getfield 12, 6, 1) from rfl) (r := (t0 + 1)) (zk_T_1 ht0) ?_
  refine zt_aload_n zy_53 (show q_ins q_k53 4 = some (.aload_n 0, 0, 0) from rfl) (v := t0) rfl ?_
  refine zt_getI zy_53 (show q_ins q_k53 5 = some (.getfield 71, 6, 15) from rfl) (j := 15) (zk_T_15 ht0) rfl ?_
  obtain ⟨a1, s2, hca1, h⟩ := zt_bdE h
  refine zt_callV (d := 0) zy_53 (show q_ins q_k53 8 = some (.invokevirtual 102, 107, 1) from rfl) zy_107 (by decide) ⟨zq_lt (by decide), by decide⟩ rfl (by simp [Value.category]) (by simp [lg_sl, Value.category]) (zt_rcv (zc_K (zm_T1 ht0))) (zt_dm (by decide) (S_Tr_begin (zm_T1 ht0) hca1)) ?_
  refine zt_aload_n zy_53 (show q_ins q_k53 11 = some (.aload_n 0, 0, 0) from rfl) (v := t0) rfl ?_
  obtain ⟨a3, s4, hca3, h⟩ := zt_bdE h
  refine zt_callV (d := 0) zy_53 (show q_ins q_k53 12 = some (.invokevirtual 106, 54, 0) from rfl) zy_54 (by decide) ⟨zq_lt (by decide), by decide⟩ rfl (by simp [Value.category]) (by simp [lg_sl, Value.category]) (zt_rcv (zc_T ht0)) (zt_dm (by decide) (S_Tb_lightTrump ht0 hca3)) ?_
  cases h
  exact zt_ret zy_53 (show q_ins q_k53 15 = some (.return_, 0, 0) from rfl)
theorem S_Rw_with {X : q_X}   {v0 : Int64} {v2 : Int} {σ : zt_S} {o : (Int64 × zt_S)} (h : F_Rw_with  v0 v2 σ = some o) : zt_Ex X 0 315 0 (lv_args 0 [.long v0, .int (Int32.ofInt v2)]) [] (zt_M T σ) (zo_L T o) := by
  unfold F_Rw_with at h
  refine zt_lload_n zy_315 (show q_ins q_k315 0 = some (.lload_n 0, 0, 0) from rfl) (v := v0) rfl ?_
  refine zt_lconst zy_315 (show q_ins q_k315 1 = some (.lconst 1, 0, 0) from rfl) (v := (1 : Int64)) (by decide) ?_
  refine zt_iload_n zy_315 (show q_ins q_k315 2 = some (.iload_n 2, 0, 0) from rfl) (v := Int32.ofInt v2) rfl ?_
  refine zt_lshl zy_315 (show q_ins q_k315 3 = some (.lshl, 0, 0) from rfl) ?_
  refine zt_lor zy_315 (show q_ins q_k315 4 = some (.lor, 0, 0) from rfl) ?_
  cases h
  exact zt_lret zy_315 (show q_ins q_k315 5 = some (.lreturn, 0, 0) from rfl)
theorem S_Tb_setHand_20 {X : q_X} {t0 : Nat} (ht0 : t0 ∈ zt_tabs) : ∀  (σ : zt_S) (o : (Unit × zt_S)), F_Tb_setHand_20 t0  σ = some o → zt_Ex X 0 61 20 [] [] (zt_M T σ) (zo_V T o) := by
  intro  σ o  h
  unfold F_Tb_setHand_20 at h
  cases h
  exact zt_ret zy_61 (show q_ins q_k61 20 = some (.return_, 0, 0) from rfl)
theorem S_Tb_setHand {X : q_X} {t0 : Nat} (ht0 : t0 ∈ zt_tabs) {v1 : Int} {v2 : Int64} {σ : zt_S} {o : (Unit × zt_S)} (h : F_Tb_setHand t0 v1 v2 σ = some o) : zt_Ex X 0 61 0 (lv_args 0 [.ref t0, .int (Int32.ofInt v1), .long v2]) [] (zt_M T σ) (zo_V T o) := by
  unfold F_Tb_setHand at h
  refine zt_iload_n zy_61 (show q_ins q_k61 0 = some (.iload_n 1, 0, 0) from rfl) (v := Int32.ofInt v1) rfl ?_
  obtain ⟨hg, h⟩ := zt_ckE h
  refine zt_if_lt zy_61 (show q_ins q_k61 1 = some (.ifCond .lt 19, 20, 0) from rfl) (hg) (fun hc => ?_) (fun hc => ?_)
  · rw [if_pos hc] at h
    exact zt_wk (zt_cov_nil) (S_Tb_setHand_20  ht0 _ _ h)
  · rw [if_neg hc] at h
    refine zt_iload_n zy_61 (show q_ins q_k61 4 = some (.iload_n 1, 0, 0) from rfl) (v := Int32.ofInt v1) rfl ?_
    refine zt_aload_n zy_61 (show q_ins q_k61 5 = some (.aload_n 0, 0, 0) from rfl) (v := t0) rfl ?_
    refine zt_getR zy_61 (show q_ins q_k61 6 = some (.getfield 18, 6, 2) from rfl) (r := (t0 + 2)) (zk_T_2 ht0) ?_
    refine zt_alen zy_61 (show q_ins q_k61 9 = some (.arraylength, 0, 0) from rfl) (za_T2 ht0) (by decide) ?_
    obtain ⟨hg, h⟩ := zt_ckE h
    refine zt_icmp_ge zy_61 (show q_ins q_k61 10 = some (.if_icmp .ge 10, 20, 0) from rfl) (⟨hg, by decide⟩) (fun hc => ?_) (fun hc => ?_)
    · rw [if_pos hc] at h
      refine zt_aload_n zy_61 (show q_ins q_k61 13 = some (.aload_n 0, 0, 0) from rfl) (v := t0) rfl ?_
      refine zt_getR zy_61 (show q_ins q_k61 14 = some (.getfield 18, 6, 2) from rfl) (r := (t0 + 2)) (zk_T_2 ht0) ?_
      refine zt_iload_n zy_61 (show q_ins q_k61 17 = some (.iload_n 1, 0, 0) from rfl) (v := Int32.ofInt v1) rfl ?_
      refine zt_lload_n zy_61 (show q_ins q_k61 18 = some (.lload_n 2, 0, 0) from rfl) (v := v2) rfl ?_
      obtain ⟨hg, h⟩ := zt_ckE h
      obtain ⟨s1, hs1, h⟩ := zt_letE h
      refine zt_lst zy_61 (show q_ins q_k61 19 = some (.lastore, 0, 0) from rfl) (za_T2 ht0) (by decide) hg ?_
      rw [← hs1]
      exact zt_wk (zt_cov_nil) (S_Tb_setHand_20  ht0 _ _ h)
    · rw [if_neg hc] at h
      exact zt_wk (zt_cov_nil) (S_Tb_setHand_20  ht0 _ _ h)
theorem S_Tb_give {X : q_X} {t0 : Nat} (ht0 : t0 ∈ zt_tabs) {v1 : Int} {v2 : Int} {σ : zt_S} {o : (Unit × zt_S)} (h : F_Tb_give t0 v1 v2 σ = some o) : zt_Ex X 1 59 0 (lv_args 0 [.ref t0, .int (Int32.ofInt v1), .int (Int32.ofInt v2)]) [] (zt_M T σ) (zo_V T o) := by
  unfold F_Tb_give at h
  refine zt_aload_n zy_59 (show q_ins q_k59 0 = some (.aload_n 0, 0, 0) from rfl) (v := t0) rfl ?_
  refine zt_iload_n zy_59 (show q_ins q_k59 1 = some (.iload_n 1, 0, 0) from rfl) (v := Int32.ofInt v1) rfl ?_
  refine zt_aload_n zy_59 (show q_ins q_k59 2 = some (.aload_n 0, 0, 0) from rfl) (v := t0) rfl ?_
  refine zt_iload_n zy_59 (show q_ins q_k59 3 = some (.iload_n 1, 0, 0) from rfl) (v := Int32.ofInt v1) rfl ?_
  obtain ⟨a1, s2, hca1, h⟩ := zt_bdE h
  refine zt_callV (d := 0) zy_59 (show q_ins q_k59 4 = some (.invokevirtual 153, 60, 1) from rfl) zy_60 (by decide) ⟨zq_lt (by decide), by decide⟩ rfl (by simp [Value.category]) (by simp [lg_sl, Value.category]) (zt_rcv (zc_T ht0)) (zt_dm (by decide) (S_Tb_handOf ht0 hca1)) ?_
  refine zt_iload_n zy_59 (show q_ins q_k59 7 = some (.iload_n 2, 0, 0) from rfl) (v := Int32.ofInt v2) rfl ?_
  obtain ⟨a3, s4, hca3, h⟩ := zt_bdE h
  refine zt_callS (d := 0) zy_59 (show q_ins q_k59 8 = some (.invokestatic 166, 315, 2) from rfl) zy_315 (by decide) ⟨zq_lt (by decide), by decide⟩ rfl (by simp [Value.category]) (by simp [lg_sl, Value.category]) rfl (zt_dm (by decide) (S_Rw_with hca3)) ?_
  obtain ⟨a5, s6, hca5, h⟩ := zt_bdE h
  refine zt_callV (d := 0) zy_59 (show q_ins q_k59 11 = some (.invokevirtual 170, 61, 2) from rfl) zy_61 (by decide) ⟨zq_lt (by decide), by decide⟩ rfl (by simp [Value.category]) (by simp [lg_sl, Value.category]) (zt_rcv (zc_T ht0)) (zt_dm (by decide) (S_Tb_setHand ht0 hca5)) ?_
  cases h
  exact zt_ret zy_59 (show q_ins q_k59 14 = some (.return_, 0, 0) from rfl)
theorem S_Tb_handOutInTurn_4 {X : q_X} {t0 : Nat} (ht0 : t0 ∈ zt_tabs) : ∀ (n : Nat) (v2 : Int) (v3 : Int) (σ : zt_S) (o : (Unit × zt_S)), F_Tb_handOutInTurn_4 t0 n v2 v3 σ = some o → zt_Ex X 2 55 4 [(0, .ref t0), (1, .ref 4), (2, .int (Int32.ofInt v2)), (3, .int (Int32.ofInt v3))] [] (zt_M T σ) (zo_V T o) := by
  intro n
  induction n with
  | zero => intro v2 v3 σ o  h; cases h
  | succ n ih =>
  intro v2 v3 σ o  h
  rw [F_Tb_handOutInTurn_4] at h
  refine zt_iload_n zy_55 (show q_ins q_k55 4 = some (.iload_n 3, 0, 0) from rfl) (v := Int32.ofInt v3) rfl ?_
  refine zt_aload_n zy_55 (show q_ins q_k55 5 = some (.aload_n 0, 0, 0) from rfl) (v := t0) rfl ?_
  refine zt_getR zy_55 (show q_ins q_k55 6 = some (.getfield 44, 6, 0) from rfl) (r := (zt_su t0)) (zk_T_0 ht0) ?_
  obtain ⟨a1, s2, hca1, h⟩ := zt_bdE h
  refine zt_callV (d := 1) zy_55 (show q_ins q_k55 9 = some (.invokevirtual 120, 31, 0) from rfl) zy_31 (by decide) ⟨zq_lt (by decide), by decide⟩ rfl (by simp [Value.category]) (by simp [lg_sl, Value.category]) (zt_rcv (zc_S (zm_T0 ht0))) (zt_dm (by decide) (S_Su_cardsOfHands (zm_T0 ht0) hca1)) ?_
  obtain ⟨hg, h⟩ := zt_ckE h
  refine zt_icmp_ge zy_55 (show q_ins q_k55 12 = some (.if_icmp .ge 28, 40, 0) from rfl) (⟨hg.1, hg.2⟩) (fun hc => ?_) (fun hc => ?_)
  · rw [if_pos hc] at h
    refine zt_aload_n zy_55 (show q_ins q_k55 15 = some (.aload_n 0, 0, 0) from rfl) (v := t0) rfl ?_
    refine zt_iload_n zy_55 (show q_ins q_k55 16 = some (.iload_n 2, 0, 0) from rfl) (v := Int32.ofInt v2) rfl ?_
    refine zt_aload_n zy_55 (show q_ins q_k55 17 = some (.aload_n 1, 0, 0) from rfl) (v := 4) rfl ?_
    refine zt_iload_n zy_55 (show q_ins q_k55 18 = some (.iload_n 3, 0, 0) from rfl) (v := Int32.ofInt v3) rfl ?_
    obtain ⟨a3, s4, hca3, h⟩ := zt_bdE h
    refine zt_callV (d := 1) zy_55 (show q_ins q_k55 19 = some (.invokevirtual 124, 14, 1) from rfl) zy_14 (by decide) ⟨zq_lt (by decide), by decide⟩ rfl (by simp [Value.category]) (by simp [lg_sl, Value.category]) (zt_rcv zc_4) (zt_dm (by decide) (S_Pk_cardAt hca3)) ?_
    obtain ⟨a5, s6, hca5, h⟩ := zt_bdE h
    refine zt_callV (d := 1) zy_55 (show q_ins q_k55 22 = some (.invokevirtual 130, 59, 2) from rfl) zy_59 (by decide) ⟨zq_lt (by decide), by decide⟩ rfl (by simp [Value.category]) (by simp [lg_sl, Value.category]) (zt_rcv (zc_T ht0)) (zt_dm (by decide) (S_Tb_give ht0 hca5)) ?_
    refine zt_aload_n zy_55 (show q_ins q_k55 25 = some (.aload_n 0, 0, 0) from rfl) (v := t0) rfl ?_
    refine zt_getR zy_55 (show q_ins q_k55 26 = some (.getfield 44, 6, 0) from rfl) (r := (zt_su t0)) (zk_T_0 ht0) ?_
    refine zt_iload_n zy_55 (show q_ins q_k55 29 = some (.iload_n 2, 0, 0) from rfl) (v := Int32.ofInt v2) rfl ?_
    obtain ⟨a7, s8, hca7, h⟩ := zt_bdE h
    refine zt_callV (d := 1) zy_55 (show q_ins q_k55 30 = some (.invokevirtual 134, 37, 1) from rfl) zy_37 (by decide) ⟨zq_lt (by decide), by decide⟩ rfl (by simp [Value.category]) (by simp [lg_sl, Value.category]) (zt_rcv (zc_S (zm_T0 ht0))) (zt_dm (by decide) (S_Su_behind (zm_T0 ht0) hca7)) ?_
    refine zt_istore_n zy_55 (show q_ins q_k55 33 = some (.istore_n 2, 0, 0) from rfl) (by decide) ?_
    refine zt_iinc zy_55 (show q_ins q_k55 34 = some (.iinc 3 1, 0, 0) from rfl) (v := v3) (by decide) rfl ?_
    refine zt_goto zy_55 (show q_ins q_k55 37 = some (.goto (-33), 4, 0) from rfl) ?_
    exact zt_wk (zt_cov_cons rfl (zt_cov_cons rfl (zt_cov_cons rfl (zt_cov_cons rfl (zt_cov_nil))))) (ih _ _ _ _ h)
  · rw [if_neg hc] at h
    cases h
    exact zt_ret zy_55 (show q_ins q_k55 40 = some (.return_, 0, 0) from rfl)
theorem S_Tb_handOutInTurn {X : q_X} {t0 : Nat} (ht0 : t0 ∈ zt_tabs)  {σ : zt_S} {o : (Unit × zt_S)} (h : F_Tb_handOutInTurn t0  σ = some o) : zt_Ex X 2 55 0 (lv_args 0 [.ref t0, .ref 4]) [] (zt_M T σ) (zo_V T o) := by
  unfold F_Tb_handOutInTurn at h
  refine zt_iconst zy_55 (show q_ins q_k55 0 = some (.iconst 0, 0, 0) from rfl) ?_
  refine zt_istore_n zy_55 (show q_ins q_k55 1 = some (.istore_n 2, 0, 0) from rfl) (by decide) ?_
  refine zt_iconst zy_55 (show q_ins q_k55 2 = some (.iconst 0, 0, 0) from rfl) ?_
  refine zt_istore_n zy_55 (show q_ins q_k55 3 = some (.istore_n 3, 0, 0) from rfl) (by decide) ?_
  exact zt_wk (zt_cov_cons rfl (zt_cov_cons rfl (zt_cov_cons rfl (zt_cov_cons rfl (zt_cov_nil))))) (S_Tb_handOutInTurn_4  ht0 _ _ _ _ _ h)
theorem S_Tb_isFull_23 {X : q_X} {t0 : Nat} (ht0 : t0 ∈ zt_tabs) : ∀ (x0 : Int) (σ : zt_S) (o : (Int × zt_S)), F_Tb_isFull_23 t0 x0 σ = some o → zt_Ex X 1 58 23 [] [.int (Int32.ofInt x0)] (zt_M T σ) (zo_I T o) := by
  intro x0 σ o  h
  unfold F_Tb_isFull_23 at h
  obtain ⟨hg, h⟩ := zt_ckE h
  cases h
  exact zt_zret zy_58 (show q_ins q_k58 23 = some (.ireturn, 0, 0) from rfl) hg
theorem S_Tb_isFull {X : q_X} {t0 : Nat} (ht0 : t0 ∈ zt_tabs) {v1 : Int} {σ : zt_S} {o : (Int × zt_S)} (h : F_Tb_isFull t0 v1 σ = some o) : zt_Ex X 1 58 0 (lv_args 0 [.ref t0, .int (Int32.ofInt v1)]) [] (zt_M T σ) (zo_I T o) := by
  unfold F_Tb_isFull at h
  refine zt_aload_n zy_58 (show q_ins q_k58 0 = some (.aload_n 0, 0, 0) from rfl) (v := t0) rfl ?_
  refine zt_iload_n zy_58 (show q_ins q_k58 1 = some (.iload_n 1, 0, 0) from rfl) (v := Int32.ofInt v1) rfl ?_
  obtain ⟨a1, s2, hca1, h⟩ := zt_bdE h
  refine zt_callV (d := 0) zy_58 (show q_ins q_k58 2 = some (.invokevirtual 153, 60, 1) from rfl) zy_60 (by decide) ⟨zq_lt (by decide), by decide⟩ rfl (by simp [Value.category]) (by simp [lg_sl, Value.category]) (zt_rcv (zc_T ht0)) (zt_dm (by decide) (S_Tb_handOf ht0 hca1)) ?_
  obtain ⟨a3, s4, hca3, h⟩ := zt_bdE h
  refine zt_callS (d := 0) zy_58 (show q_ins q_k58 5 = some (.invokestatic 157, 352, 1) from rfl) zy_352 (by decide) ⟨zq_lt (by decide), by decide⟩ rfl (by simp [Value.category]) (by simp [lg_sl, Value.category]) rfl (zt_dm (by decide) (S_J_bitCount hca3)) ?_
  refine zt_aload_n zy_58 (show q_ins q_k58 8 = some (.aload_n 0, 0, 0) from rfl) (v := t0) rfl ?_
  refine zt_getR zy_58 (show q_ins q_k58 9 = some (.getfield 44, 6, 0) from rfl) (r := (zt_su t0)) (zk_T_0 ht0) ?_
  refine zt_getI zy_58 (show q_ins q_k58 12 = some (.getfield 163, 4, 2) from rfl) (j := 2) (zk_S_2 (zm_T0 ht0)) rfl ?_
  obtain ⟨hg, h⟩ := zt_ckE h
  refine zt_icmp_lt zy_58 (show q_ins q_k58 15 = some (.if_icmp .lt 7, 22, 0) from rfl) (⟨hg.1, hg.2⟩) (fun hc => ?_) (fun hc => ?_)
  · rw [if_pos hc] at h
    refine zt_iconst zy_58 (show q_ins q_k58 22 = some (.iconst 0, 0, 0) from rfl) ?_
    exact zt_wk (zt_cov_nil) (S_Tb_isFull_23  ht0 _ _ _ h)
  · rw [if_neg hc] at h
    refine zt_iconst zy_58 (show q_ins q_k58 18 = some (.iconst 1, 0, 0) from rfl) ?_
    refine zt_goto zy_58 (show q_ins q_k58 19 = some (.goto 4, 23, 0) from rfl) ?_
    exact zt_wk (zt_cov_nil) (S_Tb_isFull_23  ht0 _ _ _ h)
theorem S_Tb_firstLackingCards_2 {X : q_X} {t0 : Nat} (ht0 : t0 ∈ zt_tabs) : ∀ (n : Nat) (v1 : Int) (σ : zt_S) (o : (Int × zt_S)), F_Tb_firstLackingCards_2 t0 n v1 σ = some o → zt_Ex X 2 57 2 [(0, .ref t0), (1, .int (Int32.ofInt v1))] [] (zt_M T σ) (zo_I T o) := by
  intro n
  induction n with
  | zero => intro v1 σ o  h; cases h
  | succ n ih =>
  intro v1 σ o  h
  rw [F_Tb_firstLackingCards_2] at h
  refine zt_iload_n zy_57 (show q_ins q_k57 2 = some (.iload_n 1, 0, 0) from rfl) (v := Int32.ofInt v1) rfl ?_
  refine zt_aload_n zy_57 (show q_ins q_k57 3 = some (.aload_n 0, 0, 0) from rfl) (v := t0) rfl ?_
  refine zt_getR zy_57 (show q_ins q_k57 4 = some (.getfield 44, 6, 0) from rfl) (r := (zt_su t0)) (zk_T_0 ht0) ?_
  refine zt_getI zy_57 (show q_ins q_k57 7 = some (.getfield 146, 4, 1) from rfl) (j := 1) (zk_S_1 (zm_T0 ht0)) rfl ?_
  obtain ⟨hg, h⟩ := zt_ckE h
  refine zt_icmp_ge zy_57 (show q_ins q_k57 10 = some (.if_icmp .ge 19, 29, 0) from rfl) (⟨hg.1, hg.2⟩) (fun hc => ?_) (fun hc => ?_)
  · rw [if_pos hc] at h
    refine zt_aload_n zy_57 (show q_ins q_k57 13 = some (.aload_n 0, 0, 0) from rfl) (v := t0) rfl ?_
    refine zt_iload_n zy_57 (show q_ins q_k57 14 = some (.iload_n 1, 0, 0) from rfl) (v := Int32.ofInt v1) rfl ?_
    obtain ⟨a1, s2, hca1, h⟩ := zt_bdE h
    refine zt_callV (d := 1) zy_57 (show q_ins q_k57 15 = some (.invokevirtual 149, 58, 1) from rfl) zy_58 (by decide) ⟨zq_lt (by decide), by decide⟩ rfl (by simp [Value.category]) (by simp [lg_sl, Value.category]) (zt_rcv (zc_T ht0)) (zt_dm (by decide) (S_Tb_isFull ht0 hca1)) ?_
    obtain ⟨hg, h⟩ := zt_ckE h
    refine zt_if_ne zy_57 (show q_ins q_k57 18 = some (.ifCond .ne 5, 23, 0) from rfl) (hg) (fun hc => ?_) (fun hc => ?_)
    · rw [if_pos hc] at h
      refine zt_iload_n zy_57 (show q_ins q_k57 21 = some (.iload_n 1, 0, 0) from rfl) (v := Int32.ofInt v1) rfl ?_
      cases h
      exact zt_iret zy_57 (show q_ins q_k57 22 = some (.ireturn, 0, 0) from rfl)
    · rw [if_neg hc] at h
      refine zt_iinc zy_57 (show q_ins q_k57 23 = some (.iinc 1 1, 0, 0) from rfl) (v := v1) (by decide) rfl ?_
      refine zt_goto zy_57 (show q_ins q_k57 26 = some (.goto (-24), 2, 0) from rfl) ?_
      exact zt_wk (zt_cov_cons rfl (zt_cov_cons rfl (zt_cov_nil))) (ih _ _ _ h)
  · rw [if_neg hc] at h
    refine zt_iconst zy_57 (show q_ins q_k57 29 = some (.iconst (-1), 0, 0) from rfl) ?_
    cases h
    exact zt_iret zy_57 (show q_ins q_k57 30 = some (.ireturn, 0, 0) from rfl)
theorem S_Tb_firstLackingCards {X : q_X} {t0 : Nat} (ht0 : t0 ∈ zt_tabs)  {σ : zt_S} {o : (Int × zt_S)} (h : F_Tb_firstLackingCards t0  σ = some o) : zt_Ex X 2 57 0 (lv_args 0 [.ref t0]) [] (zt_M T σ) (zo_I T o) := by
  unfold F_Tb_firstLackingCards at h
  refine zt_iconst zy_57 (show q_ins q_k57 0 = some (.iconst 0, 0, 0) from rfl) ?_
  refine zt_istore_n zy_57 (show q_ins q_k57 1 = some (.istore_n 1, 0, 0) from rfl) (by decide) ?_
  exact zt_wk (zt_cov_cons rfl (zt_cov_cons rfl (zt_cov_nil))) (S_Tb_firstLackingCards_2  ht0 _ _ _ _ h)
theorem S_Tb_fillUp_47 {X : q_X} {t0 : Nat} (ht0 : t0 ∈ zt_tabs) {r2 : Int → zt_S → Option (Unit × zt_S)} (hr2 : ∀ (v2 : Int) (σ : zt_S) (o : (Unit × zt_S)), r2 v2 σ = some o → zt_Ex X 3 56 2 [(0, .ref t0), (1, .ref 4), (2, .int (Int32.ofInt v2))] [] (zt_M T σ) (zo_V T o)) : ∀ (v2 : Int) (σ : zt_S) (o : (Unit × zt_S)), F_Tb_fillUp_47 t0 r2 v2 σ = some o → zt_Ex X 3 56 47 [(0, .ref t0), (1, .ref 4), (2, .int (Int32.ofInt v2))] [] (zt_M T σ) (zo_V T o) := by
  intro v2 σ o  h
  unfold F_Tb_fillUp_47 at h
  refine zt_iinc zy_56 (show q_ins q_k56 47 = some (.iinc 2 1, 0, 0) from rfl) (v := v2) (by decide) rfl ?_
  refine zt_goto zy_56 (show q_ins q_k56 50 = some (.goto (-48), 2, 0) from rfl) ?_
  exact zt_wk (zt_cov_cons rfl (zt_cov_cons rfl (zt_cov_cons rfl (zt_cov_nil)))) (hr2 _ _ _ h)
theorem S_Tb_fillUp_2 {X : q_X} {t0 : Nat} (ht0 : t0 ∈ zt_tabs) : ∀ (n : Nat) (v2 : Int) (σ : zt_S) (o : (Unit × zt_S)), F_Tb_fillUp_2 t0 n v2 σ = some o → zt_Ex X 3 56 2 [(0, .ref t0), (1, .ref 4), (2, .int (Int32.ofInt v2))] [] (zt_M T σ) (zo_V T o) := by
  intro n
  induction n with
  | zero => intro v2 σ o  h; cases h
  | succ n ih =>
  intro v2 σ o  h
  rw [F_Tb_fillUp_2] at h
  refine zt_iload_n zy_56 (show q_ins q_k56 2 = some (.iload_n 2, 0, 0) from rfl) (v := Int32.ofInt v2) rfl ?_
  refine zt_aload_n zy_56 (show q_ins q_k56 3 = some (.aload_n 0, 0, 0) from rfl) (v := t0) rfl ?_
  refine zt_getR zy_56 (show q_ins q_k56 4 = some (.getfield 44, 6, 0) from rfl) (r := (zt_su t0)) (zk_T_0 ht0) ?_
  obtain ⟨a1, s2, hca1, h⟩ := zt_bdE h
  refine zt_callV (d := 2) zy_56 (show q_ins q_k56 7 = some (.invokevirtual 137, 30, 0) from rfl) zy_30 (by decide) ⟨zq_lt (by decide), by decide⟩ rfl (by simp [Value.category]) (by simp [lg_sl, Value.category]) (zt_rcv (zc_S (zm_T0 ht0))) (zt_dm (by decide) (S_Su_cardCount (zm_T0 ht0) hca1)) ?_
  obtain ⟨hg, h⟩ := zt_ckE h
  refine zt_icmp_ge zy_56 (show q_ins q_k56 10 = some (.if_icmp .ge 43, 53, 0) from rfl) (⟨hg.1, hg.2⟩) (fun hc => ?_) (fun hc => ?_)
  · rw [if_pos hc] at h
    refine zt_aload_n zy_56 (show q_ins q_k56 13 = some (.aload_n 1, 0, 0) from rfl) (v := 4) rfl ?_
    refine zt_iload_n zy_56 (show q_ins q_k56 14 = some (.iload_n 2, 0, 0) from rfl) (v := Int32.ofInt v2) rfl ?_
    obtain ⟨a3, s4, hca3, h⟩ := zt_bdE h
    refine zt_callV (d := 2) zy_56 (show q_ins q_k56 15 = some (.invokevirtual 124, 14, 1) from rfl) zy_14 (by decide) ⟨zq_lt (by decide), by decide⟩ rfl (by simp [Value.category]) (by simp [lg_sl, Value.category]) (zt_rcv zc_4) (zt_dm (by decide) (S_Pk_cardAt hca3)) ?_
    refine zt_istore_n zy_56 (show q_ins q_k56 18 = some (.istore_n 3, 0, 0) from rfl) (by decide) ?_
    refine zt_aload_n zy_56 (show q_ins q_k56 19 = some (.aload_n 0, 0, 0) from rfl) (v := t0) rfl ?_
    obtain ⟨a5, s6, hca5, h⟩ := zt_bdE h
    refine zt_callV (d := 2) zy_56 (show q_ins q_k56 20 = some (.invokevirtual 140, 57, 0) from rfl) zy_57 (by decide) ⟨zq_lt (by decide), by decide⟩ rfl (by simp [Value.category]) (by simp [lg_sl, Value.category]) (zt_rcv (zc_T ht0)) (zt_dm (by decide) (S_Tb_firstLackingCards ht0 hca5)) ?_
    refine zt_istore zy_56 (show q_ins q_k56 23 = some (.istore 4, 0, 0) from rfl) (by decide) ?_
    refine zt_iload zy_56 (show q_ins q_k56 25 = some (.iload 4, 0, 0) from rfl) (v := Int32.ofInt a5) rfl ?_
    refine zt_iconst zy_56 (show q_ins q_k56 27 = some (.iconst (-1), 0, 0) from rfl) ?_
    obtain ⟨hg, h⟩ := zt_ckE h
    refine zt_icmp_eq zy_56 (show q_ins q_k56 28 = some (.if_icmp .eq 19, 47, 0) from rfl) (⟨hg, by decide⟩) (fun hc => ?_) (fun hc => ?_)
    · rw [if_pos hc] at h
      exact zt_wk (zt_cov_cons rfl (zt_cov_cons rfl (zt_cov_cons rfl (zt_cov_nil)))) (S_Tb_fillUp_47  ht0 ih _ _ _ h)
    · rw [if_neg hc] at h
      refine zt_aload_n zy_56 (show q_ins q_k56 31 = some (.aload_n 0, 0, 0) from rfl) (v := t0) rfl ?_
      refine zt_iload_n zy_56 (show q_ins q_k56 32 = some (.iload_n 3, 0, 0) from rfl) (v := Int32.ofInt a3) rfl ?_
      obtain ⟨a7, s8, hca7, h⟩ := zt_bdE h
      refine zt_callV (d := 2) zy_56 (show q_ins q_k56 33 = some (.invokevirtual 143, 63, 1) from rfl) zy_63 (by decide) ⟨zq_lt (by decide), by decide⟩ rfl (by simp [Value.category]) (by simp [lg_sl, Value.category]) (zt_rcv (zc_T ht0)) (zt_dm (by decide) (S_Tb_holderOf ht0 hca7)) ?_
      refine zt_iconst zy_56 (show q_ins q_k56 36 = some (.iconst (-1), 0, 0) from rfl) ?_
      obtain ⟨hg, h⟩ := zt_ckE h
      refine zt_icmp_ne zy_56 (show q_ins q_k56 37 = some (.if_icmp .ne 10, 47, 0) from rfl) (⟨hg, by decide⟩) (fun hc => ?_) (fun hc => ?_)
      · rw [if_pos hc] at h
        refine zt_aload_n zy_56 (show q_ins q_k56 40 = some (.aload_n 0, 0, 0) from rfl) (v := t0) rfl ?_
        refine zt_iload zy_56 (show q_ins q_k56 41 = some (.iload 4, 0, 0) from rfl) (v := Int32.ofInt a5) rfl ?_
        refine zt_iload_n zy_56 (show q_ins q_k56 43 = some (.iload_n 3, 0, 0) from rfl) (v := Int32.ofInt a3) rfl ?_
        obtain ⟨a9, s10, hca9, h⟩ := zt_bdE h
        refine zt_callV (d := 2) zy_56 (show q_ins q_k56 44 = some (.invokevirtual 130, 59, 2) from rfl) zy_59 (by decide) ⟨zq_lt (by decide), by decide⟩ rfl (by simp [Value.category]) (by simp [lg_sl, Value.category]) (zt_rcv (zc_T ht0)) (zt_dm (by decide) (S_Tb_give ht0 hca9)) ?_
        exact zt_wk (zt_cov_cons rfl (zt_cov_cons rfl (zt_cov_cons rfl (zt_cov_nil)))) (S_Tb_fillUp_47  ht0 ih _ _ _ h)
      · rw [if_neg hc] at h
        exact zt_wk (zt_cov_cons rfl (zt_cov_cons rfl (zt_cov_cons rfl (zt_cov_nil)))) (S_Tb_fillUp_47  ht0 ih _ _ _ h)
  · rw [if_neg hc] at h
    cases h
    exact zt_ret zy_56 (show q_ins q_k56 53 = some (.return_, 0, 0) from rfl)
theorem S_Tb_fillUp {X : q_X} {t0 : Nat} (ht0 : t0 ∈ zt_tabs)  {σ : zt_S} {o : (Unit × zt_S)} (h : F_Tb_fillUp t0  σ = some o) : zt_Ex X 3 56 0 (lv_args 0 [.ref t0, .ref 4]) [] (zt_M T σ) (zo_V T o) := by
  unfold F_Tb_fillUp at h
  refine zt_iconst zy_56 (show q_ins q_k56 0 = some (.iconst 0, 0, 0) from rfl) ?_
  refine zt_istore_n zy_56 (show q_ins q_k56 1 = some (.istore_n 2, 0, 0) from rfl) (by decide) ?_
  exact zt_wk (zt_cov_cons rfl (zt_cov_cons rfl (zt_cov_cons rfl (zt_cov_nil)))) (S_Tb_fillUp_2  ht0 _ _ _ _ h)
theorem S_Tb_noteLack_54 {X : q_X} {t0 : Nat} (ht0 : t0 ∈ zt_tabs) : ∀  (σ : zt_S) (o : (Unit × zt_S)), F_Tb_noteLack_54 t0  σ = some o → zt_Ex X 1 67 54 [] [] (zt_M T σ) (zo_V T o) := by
  intro  σ o  h
  unfold F_Tb_noteLack_54 at h
  cases h
  exact zt_ret zy_67 (show q_ins q_k67 54 = some (.return_, 0, 0) from rfl)
theorem S_Tb_noteLack {X : q_X} {t0 : Nat} (ht0 : t0 ∈ zt_tabs) {v1 : Int} {v2 : Int} {σ : zt_S} {o : (Unit × zt_S)} (h : F_Tb_noteLack t0 v1 v2 σ = some o) : zt_Ex X 1 67 0 (lv_args 0 [.ref t0, .int (Int32.ofInt v1), .int (Int32.ofInt v2)]) [] (zt_M T σ) (zo_V T o) := by
  unfold F_Tb_noteLack at h
  refine zt_aload_n zy_67 (show q_ins q_k67 0 = some (.aload_n 0, 0, 0) from rfl) (v := t0) rfl ?_
  refine zt_getI zy_67 (show q_ins q_k67 1 = some (.getfield 57, 6, 11) from rfl) (j := 11) (zk_T_11 ht0) rfl ?_
  obtain ⟨hg, h⟩ := zt_ckE h
  refine zt_if_eq zy_67 (show q_ins q_k67 4 = some (.ifCond .eq 50, 54, 0) from rfl) (hg) (fun hc => ?_) (fun hc => ?_)
  · rw [if_pos hc] at h
    exact zt_wk (zt_cov_nil) (S_Tb_noteLack_54  ht0 _ _ h)
  · rw [if_neg hc] at h
    refine zt_aload_n zy_67 (show q_ins q_k67 7 = some (.aload_n 0, 0, 0) from rfl) (v := t0) rfl ?_
    refine zt_getR zy_67 (show q_ins q_k67 8 = some (.getfield 12, 6, 1) from rfl) (r := (t0 + 1)) (zk_T_1 ht0) ?_
    refine zt_getI zy_67 (show q_ins q_k67 11 = some (.getfield 206, 9, 2) from rfl) (j := 2) (zk_K_2 (zm_T1 ht0)) rfl ?_
    obtain ⟨hg, h⟩ := zt_ckE h
    refine zt_if_le zy_67 (show q_ins q_k67 14 = some (.ifCond .le 40, 54, 0) from rfl) (hg) (fun hc => ?_) (fun hc => ?_)
    · rw [if_pos hc] at h
      refine zt_iload_n zy_67 (show q_ins q_k67 17 = some (.iload_n 2, 0, 0) from rfl) (v := Int32.ofInt v2) rfl ?_
      refine zt_aload_n zy_67 (show q_ins q_k67 18 = some (.aload_n 0, 0, 0) from rfl) (v := t0) rfl ?_
      refine zt_getR zy_67 (show q_ins q_k67 19 = some (.getfield 12, 6, 1) from rfl) (r := (t0 + 1)) (zk_T_1 ht0) ?_
      refine zt_getI zy_67 (show q_ins q_k67 22 = some (.getfield 212, 9, 3) from rfl) (j := 3) (zk_K_3 (zm_T1 ht0)) rfl ?_
      obtain ⟨hg, h⟩ := zt_ckE h
      refine zt_icmp_eq zy_67 (show q_ins q_k67 25 = some (.if_icmp .eq 29, 54, 0) from rfl) (⟨hg.1, hg.2⟩) (fun hc => ?_) (fun hc => ?_)
      · rw [if_pos hc] at h
        exact zt_wk (zt_cov_nil) (S_Tb_noteLack_54  ht0 _ _ h)
      · rw [if_neg hc] at h
        refine zt_aload_n zy_67 (show q_ins q_k67 28 = some (.aload_n 0, 0, 0) from rfl) (v := t0) rfl ?_
        refine zt_getR zy_67 (show q_ins q_k67 29 = some (.getfield 29, 6, 5) from rfl) (r := (t0 + 5)) (zk_T_5 ht0) ?_
        refine zt_iload_n zy_67 (show q_ins q_k67 32 = some (.iload_n 1, 0, 0) from rfl) (v := Int32.ofInt v1) rfl ?_
        refine zt_aload_n zy_67 (show q_ins q_k67 33 = some (.aload_n 0, 0, 0) from rfl) (v := t0) rfl ?_
        refine zt_getR zy_67 (show q_ins q_k67 34 = some (.getfield 29, 6, 5) from rfl) (r := (t0 + 5)) (zk_T_5 ht0) ?_
        refine zt_iload_n zy_67 (show q_ins q_k67 37 = some (.iload_n 1, 0, 0) from rfl) (v := Int32.ofInt v1) rfl ?_
        obtain ⟨a1, s2, hca1, h⟩ := zt_bdE h
        refine zt_callS (d := 0) zy_67 (show q_ins q_k67 38 = some (.invokestatic 215, 309, 2) from rfl) zy_309 (by decide) ⟨zq_lt (by decide), by decide⟩ rfl (by simp [Value.category]) (by simp [lg_sl, Value.category]) rfl (zt_dm (by decide) (S_Rw_at (za_T5 ht0) (by decide) hca1)) ?_
        refine zt_iconst zy_67 (show q_ins q_k67 41 = some (.iconst 1, 0, 0) from rfl) ?_
        refine zt_aload_n zy_67 (show q_ins q_k67 42 = some (.aload_n 0, 0, 0) from rfl) (v := t0) rfl ?_
        refine zt_getR zy_67 (show q_ins q_k67 43 = some (.getfield 12, 6, 1) from rfl) (r := (t0 + 1)) (zk_T_1 ht0) ?_
        refine zt_getI zy_67 (show q_ins q_k67 46 = some (.getfield 212, 9, 3) from rfl) (j := 3) (zk_K_3 (zm_T1 ht0)) rfl ?_
        refine zt_ishl zy_67 (show q_ins q_k67 49 = some (.ishl, 0, 0) from rfl) ?_
        refine zt_ior zy_67 (show q_ins q_k67 50 = some (.ior, 0, 0) from rfl) ?_
        obtain ⟨a3, s4, hca3, h⟩ := zt_bdE h
        refine zt_callS (d := 0) zy_67 (show q_ins q_k67 51 = some (.invokestatic 198, 310, 3) from rfl) zy_310 (by decide) ⟨zq_lt (by decide), by decide⟩ rfl (by simp [Value.category]) (by simp [lg_sl, Value.category]) rfl (zt_dm (by decide) (S_Rw_set (za_T5 ht0) (by decide) hca3)) ?_
        exact zt_wk (zt_cov_nil) (S_Tb_noteLack_54  ht0 _ _ h)
    · rw [if_neg hc] at h
      exact zt_wk (zt_cov_nil) (S_Tb_noteLack_54  ht0 _ _ h)
theorem S_Tb_resultOf_44 {X : q_X} {t0 : Nat} (ht0 : t0 ∈ zt_tabs) : ∀ (x0 : Int) (σ : zt_S) (o : (Int × zt_S)), F_Tb_resultOf_44 t0 x0 σ = some o → zt_Ex X 1 70 44 [] [.int (Int32.ofInt x0)] (zt_M T σ) (zo_I T o) := by
  intro x0 σ o  h
  unfold F_Tb_resultOf_44 at h
  cases h
  exact zt_iret zy_70 (show q_ins q_k70 44 = some (.ireturn, 0, 0) from rfl)
theorem S_Tb_resultOf {X : q_X} {t0 : Nat} (ht0 : t0 ∈ zt_tabs) {v1 : Int} {σ : zt_S} {o : (Int × zt_S)} (h : F_Tb_resultOf t0 v1 σ = some o) : zt_Ex X 1 70 0 (lv_args 0 [.ref t0, .int (Int32.ofInt v1)]) [] (zt_M T σ) (zo_I T o) := by
  unfold F_Tb_resultOf at h
  refine zt_aload_n zy_70 (show q_ins q_k70 0 = some (.aload_n 0, 0, 0) from rfl) (v := t0) rfl ?_
  refine zt_getR zy_70 (show q_ins q_k70 1 = some (.getfield 26, 6, 4) from rfl) (r := (t0 + 4)) (zk_T_4 ht0) ?_
  refine zt_iload_n zy_70 (show q_ins q_k70 4 = some (.iload_n 1, 0, 0) from rfl) (v := Int32.ofInt v1) rfl ?_
  obtain ⟨a1, s2, hca1, h⟩ := zt_bdE h
  refine zt_callS (d := 0) zy_70 (show q_ins q_k70 5 = some (.invokestatic 215, 309, 2) from rfl) zy_309 (by decide) ⟨zq_lt (by decide), by decide⟩ rfl (by simp [Value.category]) (by simp [lg_sl, Value.category]) rfl (zt_dm (by decide) (S_Rw_at (za_T4 ht0) (by decide) hca1)) ?_
  refine zt_istore_n zy_70 (show q_ins q_k70 8 = some (.istore_n 2, 0, 0) from rfl) (by decide) ?_
  refine zt_aload_n zy_70 (show q_ins q_k70 9 = some (.aload_n 0, 0, 0) from rfl) (v := t0) rfl ?_
  refine zt_getR zy_70 (show q_ins q_k70 10 = some (.getfield 22, 6, 3) from rfl) (r := (t0 + 3)) (zk_T_3 ht0) ?_
  refine zt_iload_n zy_70 (show q_ins q_k70 13 = some (.iload_n 1, 0, 0) from rfl) (v := Int32.ofInt v1) rfl ?_
  obtain ⟨a3, s4, hca3, h⟩ := zt_bdE h
  refine zt_callS (d := 0) zy_70 (show q_ins q_k70 14 = some (.invokestatic 215, 309, 2) from rfl) zy_309 (by decide) ⟨zq_lt (by decide), by decide⟩ rfl (by simp [Value.category]) (by simp [lg_sl, Value.category]) rfl (zt_dm (by decide) (S_Rw_at (za_T3 ht0) (by decide) hca3)) ?_
  refine zt_istore_n zy_70 (show q_ins q_k70 17 = some (.istore_n 3, 0, 0) from rfl) (by decide) ?_
  refine zt_iload_n zy_70 (show q_ins q_k70 18 = some (.iload_n 3, 0, 0) from rfl) (v := Int32.ofInt a3) rfl ?_
  refine zt_iconst zy_70 (show q_ins q_k70 19 = some (.iconst (-1), 0, 0) from rfl) ?_
  obtain ⟨hg, h⟩ := zt_ckE h
  refine zt_icmp_ne zy_70 (show q_ins q_k70 20 = some (.if_icmp .ne 5, 25, 0) from rfl) (⟨hg, by decide⟩) (fun hc => ?_) (fun hc => ?_)
  · rw [if_pos hc] at h
    refine zt_iload_n zy_70 (show q_ins q_k70 23 = some (.iload_n 2, 0, 0) from rfl) (v := Int32.ofInt a1) rfl ?_
    cases h
    exact zt_iret zy_70 (show q_ins q_k70 24 = some (.ireturn, 0, 0) from rfl)
  · rw [if_neg hc] at h
    refine zt_iload_n zy_70 (show q_ins q_k70 25 = some (.iload_n 3, 0, 0) from rfl) (v := Int32.ofInt a3) rfl ?_
    refine zt_iload_n zy_70 (show q_ins q_k70 26 = some (.iload_n 2, 0, 0) from rfl) (v := Int32.ofInt a1) rfl ?_
    obtain ⟨hg, h⟩ := zt_ckE h
    refine zt_icmp_ne zy_70 (show q_ins q_k70 27 = some (.if_icmp .ne 10, 37, 0) from rfl) (⟨hg.1, hg.2⟩) (fun hc => ?_) (fun hc => ?_)
    · rw [if_pos hc] at h
      refine zt_bipush zy_70 (show q_ins q_k70 30 = some (.bipush 10, 0, 0) from rfl) (by decide) ?_
      refine zt_iload_n zy_70 (show q_ins q_k70 32 = some (.iload_n 3, 0, 0) from rfl) (v := Int32.ofInt a3) rfl ?_
      refine zt_iadd zy_70 (show q_ins q_k70 33 = some (.iadd, 0, 0) from rfl) ?_
      refine zt_goto zy_70 (show q_ins q_k70 34 = some (.goto 10, 44, 0) from rfl) ?_
      exact zt_wk (zt_cov_nil) (S_Tb_resultOf_44  ht0 _ _ _ h)
    · rw [if_neg hc] at h
      refine zt_iload_n zy_70 (show q_ins q_k70 37 = some (.iload_n 3, 0, 0) from rfl) (v := Int32.ofInt a3) rfl ?_
      refine zt_iload_n zy_70 (show q_ins q_k70 38 = some (.iload_n 2, 0, 0) from rfl) (v := Int32.ofInt a1) rfl ?_
      refine zt_isub zy_70 (show q_ins q_k70 39 = some (.isub, 0, 0) from rfl) ?_
      obtain ⟨hg, h⟩ := zt_ckE h
      refine zt_abs zy_70 (show q_ins q_k70 40 = some (.invokestatic 238, 912, 1) from rfl) rfl hg (by simp [Value.category]) ?_
      refine zt_ineg zy_70 (show q_ins q_k70 43 = some (.ineg, 0, 0) from rfl) ?_
      exact zt_wk (zt_cov_nil) (S_Tb_resultOf_44  ht0 _ _ _ h)
theorem S_Tb_closeHand_12 {X : q_X} {t0 : Nat} (ht0 : t0 ∈ zt_tabs) : ∀ (n : Nat) (v1 : Int) (σ : zt_S) (o : (Unit × zt_S)), F_Tb_closeHand_12 t0 n v1 σ = some o → zt_Ex X 2 69 12 [(0, .ref t0), (1, .int (Int32.ofInt v1))] [] (zt_M T σ) (zo_V T o) := by
  intro n
  induction n with
  | zero => intro v1 σ o  h; cases h
  | succ n ih =>
  intro v1 σ o  h
  rw [F_Tb_closeHand_12] at h
  refine zt_iload_n zy_69 (show q_ins q_k69 12 = some (.iload_n 1, 0, 0) from rfl) (v := Int32.ofInt v1) rfl ?_
  refine zt_aload_n zy_69 (show q_ins q_k69 13 = some (.aload_n 0, 0, 0) from rfl) (v := t0) rfl ?_
  refine zt_getR zy_69 (show q_ins q_k69 14 = some (.getfield 44, 6, 0) from rfl) (r := (zt_su t0)) (zk_T_0 ht0) ?_
  refine zt_getI zy_69 (show q_ins q_k69 17 = some (.getfield 146, 4, 1) from rfl) (j := 1) (zk_S_1 (zm_T0 ht0)) rfl ?_
  obtain ⟨hg, h⟩ := zt_ckE h
  refine zt_icmp_ge zy_69 (show q_ins q_k69 20 = some (.if_icmp .ge 31, 51, 0) from rfl) (⟨hg.1, hg.2⟩) (fun hc => ?_) (fun hc => ?_)
  · rw [if_pos hc] at h
    refine zt_aload_n zy_69 (show q_ins q_k69 23 = some (.aload_n 0, 0, 0) from rfl) (v := t0) rfl ?_
    refine zt_getR zy_69 (show q_ins q_k69 24 = some (.getfield 32, 6, 6) from rfl) (r := (t0 + 6)) (zk_T_6 ht0) ?_
    refine zt_iload_n zy_69 (show q_ins q_k69 27 = some (.iload_n 1, 0, 0) from rfl) (v := Int32.ofInt v1) rfl ?_
    refine zt_aload_n zy_69 (show q_ins q_k69 28 = some (.aload_n 0, 0, 0) from rfl) (v := t0) rfl ?_
    refine zt_getR zy_69 (show q_ins q_k69 29 = some (.getfield 32, 6, 6) from rfl) (r := (t0 + 6)) (zk_T_6 ht0) ?_
    refine zt_iload_n zy_69 (show q_ins q_k69 32 = some (.iload_n 1, 0, 0) from rfl) (v := Int32.ofInt v1) rfl ?_
    obtain ⟨a2, s3, hca2, h⟩ := zt_bdE h
    refine zt_callS (d := 1) zy_69 (show q_ins q_k69 33 = some (.invokestatic 215, 309, 2) from rfl) zy_309 (by decide) ⟨zq_lt (by decide), by decide⟩ rfl (by simp [Value.category]) (by simp [lg_sl, Value.category]) rfl (zt_dm (by decide) (S_Rw_at (za_T6 ht0) (by decide) hca2)) ?_
    refine zt_aload_n zy_69 (show q_ins q_k69 36 = some (.aload_n 0, 0, 0) from rfl) (v := t0) rfl ?_
    refine zt_iload_n zy_69 (show q_ins q_k69 37 = some (.iload_n 1, 0, 0) from rfl) (v := Int32.ofInt v1) rfl ?_
    obtain ⟨a4, s5, hca4, h⟩ := zt_bdE h
    refine zt_callV (d := 1) zy_69 (show q_ins q_k69 38 = some (.invokevirtual 235, 70, 1) from rfl) zy_70 (by decide) ⟨zq_lt (by decide), by decide⟩ rfl (by simp [Value.category]) (by simp [lg_sl, Value.category]) (zt_rcv (zc_T ht0)) (zt_dm (by decide) (S_Tb_resultOf ht0 hca4)) ?_
    refine zt_iadd zy_69 (show q_ins q_k69 41 = some (.iadd, 0, 0) from rfl) ?_
    obtain ⟨a6, s7, hca6, h⟩ := zt_bdE h
    refine zt_callS (d := 1) zy_69 (show q_ins q_k69 42 = some (.invokestatic 198, 310, 3) from rfl) zy_310 (by decide) ⟨zq_lt (by decide), by decide⟩ rfl (by simp [Value.category]) (by simp [lg_sl, Value.category]) rfl (zt_dm (by decide) (S_Rw_set (za_T6 ht0) (by decide) hca6)) ?_
    refine zt_iinc zy_69 (show q_ins q_k69 45 = some (.iinc 1 1, 0, 0) from rfl) (v := v1) (by decide) rfl ?_
    refine zt_goto zy_69 (show q_ins q_k69 48 = some (.goto (-36), 12, 0) from rfl) ?_
    exact zt_wk (zt_cov_cons rfl (zt_cov_cons rfl (zt_cov_nil))) (ih _ _ _ h)
  · rw [if_neg hc] at h
    cases h
    exact zt_ret zy_69 (show q_ins q_k69 51 = some (.return_, 0, 0) from rfl)
theorem S_Tb_closeHand {X : q_X} {t0 : Nat} (ht0 : t0 ∈ zt_tabs)  {σ : zt_S} {o : (Unit × zt_S)} (h : F_Tb_closeHand t0  σ = some o) : zt_Ex X 2 69 0 (lv_args 0 [.ref t0]) [] (zt_M T σ) (zo_V T o) := by
  unfold F_Tb_closeHand at h
  refine zt_aload_n zy_69 (show q_ins q_k69 0 = some (.aload_n 0, 0, 0) from rfl) (v := t0) rfl ?_
  refine zt_dup zy_69 (show q_ins q_k69 1 = some (.dup, 0, 0) from rfl) rfl ?_
  refine zt_getI zy_69 (show q_ins q_k69 2 = some (.getfield 74, 6, 18) from rfl) (j := 18) (zk_T_18 ht0) rfl ?_
  refine zt_iconst zy_69 (show q_ins q_k69 5 = some (.iconst 1, 0, 0) from rfl) ?_
  refine zt_iadd zy_69 (show q_ins q_k69 6 = some (.iadd, 0, 0) from rfl) ?_
  obtain ⟨s1, hs1, h⟩ := zt_letE h
  refine zt_putI zy_69 (show q_ins q_k69 7 = some (.putfield 74, 6, 18) from rfl) (j := 18) (zk_T_18 ht0) rfl rfl rfl ?_
  rw [← hs1]
  refine zt_iconst zy_69 (show q_ins q_k69 10 = some (.iconst 0, 0, 0) from rfl) ?_
  refine zt_istore_n zy_69 (show q_ins q_k69 11 = some (.istore_n 1, 0, 0) from rfl) (by decide) ?_
  exact zt_wk (zt_cov_cons rfl (zt_cov_cons rfl (zt_cov_nil))) (S_Tb_closeHand_12  ht0 _ _ _ _ h)
theorem S_Tb_closeTrick_178 {X : q_X} {t0 : Nat} (ht0 : t0 ∈ zt_tabs) : ∀  (σ : zt_S) (o : (Unit × zt_S)), F_Tb_closeTrick_178 t0  σ = some o → zt_Ex X 3 68 178 [] [] (zt_M T σ) (zo_V T o) := by
  intro  σ o  h
  unfold F_Tb_closeTrick_178 at h
  cases h
  exact zt_ret zy_68 (show q_ins q_k68 178 = some (.return_, 0, 0) from rfl)
theorem S_Tb_closeTrick {X : q_X} {t0 : Nat} (ht0 : t0 ∈ zt_tabs)  {σ : zt_S} {o : (Unit × zt_S)} (h : F_Tb_closeTrick t0  σ = some o) : zt_Ex X 3 68 0 (lv_args 0 [.ref t0]) [] (zt_M T σ) (zo_V T o) := by
  unfold F_Tb_closeTrick at h
  refine zt_aload_n zy_68 (show q_ins q_k68 0 = some (.aload_n 0, 0, 0) from rfl) (v := t0) rfl ?_
  refine zt_getI zy_68 (show q_ins q_k68 1 = some (.getfield 87, 6, 17) from rfl) (j := 17) (zk_T_17 ht0) rfl ?_
  refine zt_bipush zy_68 (show q_ins q_k68 4 = some (.bipush 6, 0, 0) from rfl) (by decide) ?_
  refine zt_imul zy_68 (show q_ins q_k68 6 = some (.imul, 0, 0) from rfl) ?_
  refine zt_istore_n zy_68 (show q_ins q_k68 7 = some (.istore_n 1, 0, 0) from rfl) (by decide) ?_
  refine zt_aload_n zy_68 (show q_ins q_k68 8 = some (.aload_n 0, 0, 0) from rfl) (v := t0) rfl ?_
  refine zt_getR zy_68 (show q_ins q_k68 9 = some (.getfield 41, 6, 9) from rfl) (r := (t0 + 9)) (zk_T_9 ht0) ?_
  refine zt_iload_n zy_68 (show q_ins q_k68 12 = some (.iload_n 1, 0, 0) from rfl) (v := Int32.ofInt ((σ.1 t0 17) * (6 : Int))) rfl ?_
  refine zt_aload_n zy_68 (show q_ins q_k68 13 = some (.aload_n 0, 0, 0) from rfl) (v := t0) rfl ?_
  refine zt_getR zy_68 (show q_ins q_k68 14 = some (.getfield 12, 6, 1) from rfl) (r := (t0 + 1)) (zk_T_1 ht0) ?_
  refine zt_getI zy_68 (show q_ins q_k68 17 = some (.getfield 219, 9, 0) from rfl) (j := 0) (zk_K_0 (zm_T1 ht0)) rfl ?_
  obtain ⟨a1, s2, hca1, h⟩ := zt_bdE h
  refine zt_callS (d := 2) zy_68 (show q_ins q_k68 20 = some (.invokestatic 198, 310, 3) from rfl) zy_310 (by decide) ⟨zq_lt (by decide), by decide⟩ rfl (by simp [Value.category]) (by simp [lg_sl, Value.category]) rfl (zt_dm (by decide) (S_Rw_set (za_T9 ht0) (by decide) hca1)) ?_
  refine zt_aload_n zy_68 (show q_ins q_k68 23 = some (.aload_n 0, 0, 0) from rfl) (v := t0) rfl ?_
  refine zt_getR zy_68 (show q_ins q_k68 24 = some (.getfield 41, 6, 9) from rfl) (r := (t0 + 9)) (zk_T_9 ht0) ?_
  refine zt_iload_n zy_68 (show q_ins q_k68 27 = some (.iload_n 1, 0, 0) from rfl) (v := Int32.ofInt ((σ.1 t0 17) * (6 : Int))) rfl ?_
  refine zt_iconst zy_68 (show q_ins q_k68 28 = some (.iconst 1, 0, 0) from rfl) ?_
  refine zt_iadd zy_68 (show q_ins q_k68 29 = some (.iadd, 0, 0) from rfl) ?_
  refine zt_aload_n zy_68 (show q_ins q_k68 30 = some (.aload_n 0, 0, 0) from rfl) (v := t0) rfl ?_
  refine zt_getR zy_68 (show q_ins q_k68 31 = some (.getfield 12, 6, 1) from rfl) (r := (t0 + 1)) (zk_T_1 ht0) ?_
  refine zt_getI zy_68 (show q_ins q_k68 34 = some (.getfield 222, 9, 6) from rfl) (j := 6) (zk_K_6 (zm_T1 ht0)) rfl ?_
  obtain ⟨a3, s4, hca3, h⟩ := zt_bdE h
  refine zt_callS (d := 2) zy_68 (show q_ins q_k68 37 = some (.invokestatic 198, 310, 3) from rfl) zy_310 (by decide) ⟨zq_lt (by decide), by decide⟩ rfl (by simp [Value.category]) (by simp [lg_sl, Value.category]) rfl (zt_dm (by decide) (S_Rw_set (za_T9 ht0) (by decide) hca3)) ?_
  refine zt_aload_n zy_68 (show q_ins q_k68 40 = some (.aload_n 0, 0, 0) from rfl) (v := t0) rfl ?_
  refine zt_getR zy_68 (show q_ins q_k68 41 = some (.getfield 41, 6, 9) from rfl) (r := (t0 + 9)) (zk_T_9 ht0) ?_
  refine zt_iload_n zy_68 (show q_ins q_k68 44 = some (.iload_n 1, 0, 0) from rfl) (v := Int32.ofInt ((σ.1 t0 17) * (6 : Int))) rfl ?_
  refine zt_iconst zy_68 (show q_ins q_k68 45 = some (.iconst 2, 0, 0) from rfl) ?_
  refine zt_iadd zy_68 (show q_ins q_k68 46 = some (.iadd, 0, 0) from rfl) ?_
  refine zt_aload_n zy_68 (show q_ins q_k68 47 = some (.aload_n 0, 0, 0) from rfl) (v := t0) rfl ?_
  refine zt_getR zy_68 (show q_ins q_k68 48 = some (.getfield 12, 6, 1) from rfl) (r := (t0 + 1)) (zk_T_1 ht0) ?_
  refine zt_getI zy_68 (show q_ins q_k68 51 = some (.getfield 225, 9, 5) from rfl) (j := 5) (zk_K_5 (zm_T1 ht0)) rfl ?_
  obtain ⟨a5, s6, hca5, h⟩ := zt_bdE h
  refine zt_callS (d := 2) zy_68 (show q_ins q_k68 54 = some (.invokestatic 198, 310, 3) from rfl) zy_310 (by decide) ⟨zq_lt (by decide), by decide⟩ rfl (by simp [Value.category]) (by simp [lg_sl, Value.category]) rfl (zt_dm (by decide) (S_Rw_set (za_T9 ht0) (by decide) hca5)) ?_
  refine zt_aload_n zy_68 (show q_ins q_k68 57 = some (.aload_n 0, 0, 0) from rfl) (v := t0) rfl ?_
  refine zt_getR zy_68 (show q_ins q_k68 58 = some (.getfield 41, 6, 9) from rfl) (r := (t0 + 9)) (zk_T_9 ht0) ?_
  refine zt_iload_n zy_68 (show q_ins q_k68 61 = some (.iload_n 1, 0, 0) from rfl) (v := Int32.ofInt ((σ.1 t0 17) * (6 : Int))) rfl ?_
  refine zt_iconst zy_68 (show q_ins q_k68 62 = some (.iconst 3, 0, 0) from rfl) ?_
  refine zt_iadd zy_68 (show q_ins q_k68 63 = some (.iadd, 0, 0) from rfl) ?_
  refine zt_aload_n zy_68 (show q_ins q_k68 64 = some (.aload_n 0, 0, 0) from rfl) (v := t0) rfl ?_
  refine zt_getR zy_68 (show q_ins q_k68 65 = some (.getfield 12, 6, 1) from rfl) (r := (t0 + 1)) (zk_T_1 ht0) ?_
  refine zt_getI zy_68 (show q_ins q_k68 68 = some (.getfield 212, 9, 3) from rfl) (j := 3) (zk_K_3 (zm_T1 ht0)) rfl ?_
  obtain ⟨a7, s8, hca7, h⟩ := zt_bdE h
  refine zt_callS (d := 2) zy_68 (show q_ins q_k68 71 = some (.invokestatic 198, 310, 3) from rfl) zy_310 (by decide) ⟨zq_lt (by decide), by decide⟩ rfl (by simp [Value.category]) (by simp [lg_sl, Value.category]) rfl (zt_dm (by decide) (S_Rw_set (za_T9 ht0) (by decide) hca7)) ?_
  refine zt_aload_n zy_68 (show q_ins q_k68 74 = some (.aload_n 0, 0, 0) from rfl) (v := t0) rfl ?_
  refine zt_getR zy_68 (show q_ins q_k68 75 = some (.getfield 41, 6, 9) from rfl) (r := (t0 + 9)) (zk_T_9 ht0) ?_
  refine zt_iload_n zy_68 (show q_ins q_k68 78 = some (.iload_n 1, 0, 0) from rfl) (v := Int32.ofInt ((σ.1 t0 17) * (6 : Int))) rfl ?_
  refine zt_iconst zy_68 (show q_ins q_k68 79 = some (.iconst 4, 0, 0) from rfl) ?_
  refine zt_iadd zy_68 (show q_ins q_k68 80 = some (.iadd, 0, 0) from rfl) ?_
  refine zt_aload_n zy_68 (show q_ins q_k68 81 = some (.aload_n 0, 0, 0) from rfl) (v := t0) rfl ?_
  refine zt_getR zy_68 (show q_ins q_k68 82 = some (.getfield 12, 6, 1) from rfl) (r := (t0 + 1)) (zk_T_1 ht0) ?_
  refine zt_getI zy_68 (show q_ins q_k68 85 = some (.getfield 109, 9, 7) from rfl) (j := 7) (zk_K_7 (zm_T1 ht0)) rfl ?_
  obtain ⟨a9, s10, hca9, h⟩ := zt_bdE h
  refine zt_callS (d := 2) zy_68 (show q_ins q_k68 88 = some (.invokestatic 198, 310, 3) from rfl) zy_310 (by decide) ⟨zq_lt (by decide), by decide⟩ rfl (by simp [Value.category]) (by simp [lg_sl, Value.category]) rfl (zt_dm (by decide) (S_Rw_set (za_T9 ht0) (by decide) hca9)) ?_
  refine zt_aload_n zy_68 (show q_ins q_k68 91 = some (.aload_n 0, 0, 0) from rfl) (v := t0) rfl ?_
  refine zt_getR zy_68 (show q_ins q_k68 92 = some (.getfield 41, 6, 9) from rfl) (r := (t0 + 9)) (zk_T_9 ht0) ?_
  refine zt_iload_n zy_68 (show q_ins q_k68 95 = some (.iload_n 1, 0, 0) from rfl) (v := Int32.ofInt ((σ.1 t0 17) * (6 : Int))) rfl ?_
  refine zt_iconst zy_68 (show q_ins q_k68 96 = some (.iconst 5, 0, 0) from rfl) ?_
  refine zt_iadd zy_68 (show q_ins q_k68 97 = some (.iadd, 0, 0) from rfl) ?_
  refine zt_aload_n zy_68 (show q_ins q_k68 98 = some (.aload_n 0, 0, 0) from rfl) (v := t0) rfl ?_
  refine zt_getR zy_68 (show q_ins q_k68 99 = some (.getfield 12, 6, 1) from rfl) (r := (t0 + 1)) (zk_T_1 ht0) ?_
  refine zt_getI zy_68 (show q_ins q_k68 102 = some (.getfield 117, 9, 8) from rfl) (j := 8) (zk_K_8 (zm_T1 ht0)) rfl ?_
  obtain ⟨a11, s12, hca11, h⟩ := zt_bdE h
  refine zt_callS (d := 2) zy_68 (show q_ins q_k68 105 = some (.invokestatic 198, 310, 3) from rfl) zy_310 (by decide) ⟨zq_lt (by decide), by decide⟩ rfl (by simp [Value.category]) (by simp [lg_sl, Value.category]) rfl (zt_dm (by decide) (S_Rw_set (za_T9 ht0) (by decide) hca11)) ?_
  refine zt_aload_n zy_68 (show q_ins q_k68 108 = some (.aload_n 0, 0, 0) from rfl) (v := t0) rfl ?_
  refine zt_dup zy_68 (show q_ins q_k68 109 = some (.dup, 0, 0) from rfl) rfl ?_
  refine zt_getI zy_68 (show q_ins q_k68 110 = some (.getfield 87, 6, 17) from rfl) (j := 17) (zk_T_17 ht0) rfl ?_
  refine zt_iconst zy_68 (show q_ins q_k68 113 = some (.iconst 1, 0, 0) from rfl) ?_
  refine zt_iadd zy_68 (show q_ins q_k68 114 = some (.iadd, 0, 0) from rfl) ?_
  obtain ⟨s13, hs13, h⟩ := zt_letE h
  refine zt_putI zy_68 (show q_ins q_k68 115 = some (.putfield 87, 6, 17) from rfl) (j := 17) (zk_T_17 ht0) rfl rfl rfl ?_
  rw [← hs13]
  refine zt_aload_n zy_68 (show q_ins q_k68 118 = some (.aload_n 0, 0, 0) from rfl) (v := t0) rfl ?_
  refine zt_getR zy_68 (show q_ins q_k68 119 = some (.getfield 26, 6, 4) from rfl) (r := (t0 + 4)) (zk_T_4 ht0) ?_
  refine zt_aload_n zy_68 (show q_ins q_k68 122 = some (.aload_n 0, 0, 0) from rfl) (v := t0) rfl ?_
  refine zt_getR zy_68 (show q_ins q_k68 123 = some (.getfield 12, 6, 1) from rfl) (r := (t0 + 1)) (zk_T_1 ht0) ?_
  refine zt_getI zy_68 (show q_ins q_k68 126 = some (.getfield 222, 9, 6) from rfl) (j := 6) (zk_K_6 (zm_T1 ht0)) rfl ?_
  refine zt_aload_n zy_68 (show q_ins q_k68 129 = some (.aload_n 0, 0, 0) from rfl) (v := t0) rfl ?_
  refine zt_getR zy_68 (show q_ins q_k68 130 = some (.getfield 26, 6, 4) from rfl) (r := (t0 + 4)) (zk_T_4 ht0) ?_
  refine zt_aload_n zy_68 (show q_ins q_k68 133 = some (.aload_n 0, 0, 0) from rfl) (v := t0) rfl ?_
  refine zt_getR zy_68 (show q_ins q_k68 134 = some (.getfield 12, 6, 1) from rfl) (r := (t0 + 1)) (zk_T_1 ht0) ?_
  refine zt_getI zy_68 (show q_ins q_k68 137 = some (.getfield 222, 9, 6) from rfl) (j := 6) (zk_K_6 (zm_T1 ht0)) rfl ?_
  obtain ⟨a14, s15, hca14, h⟩ := zt_bdE h
  refine zt_callS (d := 2) zy_68 (show q_ins q_k68 140 = some (.invokestatic 215, 309, 2) from rfl) zy_309 (by decide) ⟨zq_lt (by decide), by decide⟩ rfl (by simp [Value.category]) (by simp [lg_sl, Value.category]) rfl (zt_dm (by decide) (S_Rw_at (za_T4 ht0) (by decide) hca14)) ?_
  refine zt_iconst zy_68 (show q_ins q_k68 143 = some (.iconst 1, 0, 0) from rfl) ?_
  refine zt_iadd zy_68 (show q_ins q_k68 144 = some (.iadd, 0, 0) from rfl) ?_
  obtain ⟨a16, s17, hca16, h⟩ := zt_bdE h
  refine zt_callS (d := 2) zy_68 (show q_ins q_k68 145 = some (.invokestatic 198, 310, 3) from rfl) zy_310 (by decide) ⟨zq_lt (by decide), by decide⟩ rfl (by simp [Value.category]) (by simp [lg_sl, Value.category]) rfl (zt_dm (by decide) (S_Rw_set (za_T4 ht0) (by decide) hca16)) ?_
  refine zt_aload_n zy_68 (show q_ins q_k68 148 = some (.aload_n 0, 0, 0) from rfl) (v := t0) rfl ?_
  refine zt_getR zy_68 (show q_ins q_k68 149 = some (.getfield 12, 6, 1) from rfl) (r := (t0 + 1)) (zk_T_1 ht0) ?_
  refine zt_aload_n zy_68 (show q_ins q_k68 152 = some (.aload_n 0, 0, 0) from rfl) (v := t0) rfl ?_
  refine zt_getR zy_68 (show q_ins q_k68 153 = some (.getfield 44, 6, 0) from rfl) (r := (zt_su t0)) (zk_T_0 ht0) ?_
  refine zt_aload_n zy_68 (show q_ins q_k68 156 = some (.aload_n 0, 0, 0) from rfl) (v := t0) rfl ?_
  refine zt_getI zy_68 (show q_ins q_k68 157 = some (.getfield 61, 6, 12) from rfl) (j := 12) (zk_T_12 ht0) rfl ?_
  refine zt_aload_n zy_68 (show q_ins q_k68 160 = some (.aload_n 0, 0, 0) from rfl) (v := t0) rfl ?_
  refine zt_getI zy_68 (show q_ins q_k68 161 = some (.getfield 64, 6, 13) from rfl) (j := 13) (zk_T_13 ht0) rfl ?_
  obtain ⟨a18, s19, hca18, h⟩ := zt_bdE h
  refine zt_callV (d := 2) zy_68 (show q_ins q_k68 164 = some (.invokevirtual 228, 112, 3) from rfl) zy_112 (by decide) ⟨zq_lt (by decide), by decide⟩ rfl (by simp [Value.category]) (by simp [lg_sl, Value.category]) (zt_rcv (zc_K (zm_T1 ht0))) (zt_dm (by decide) (S_Tr_finish (zm_T1 ht0) (zm_T0 ht0) hca18)) ?_
  refine zt_aload_n zy_68 (show q_ins q_k68 167 = some (.aload_n 0, 0, 0) from rfl) (v := t0) rfl ?_
  obtain ⟨a20, s21, hca20, h⟩ := zt_bdE h
  refine zt_callV (d := 2) zy_68 (show q_ins q_k68 168 = some (.invokevirtual 178, 64, 0) from rfl) zy_64 (by decide) ⟨zq_lt (by decide), by decide⟩ rfl (by simp [Value.category]) (by simp [lg_sl, Value.category]) (zt_rcv (zc_T ht0)) (zt_dm (by decide) (S_Tb_isOver ht0 hca20)) ?_
  obtain ⟨hg, h⟩ := zt_ckE h
  refine zt_if_eq zy_68 (show q_ins q_k68 171 = some (.ifCond .eq 7, 178, 0) from rfl) (hg) (fun hc => ?_) (fun hc => ?_)
  · rw [if_pos hc] at h
    exact zt_wk (zt_cov_nil) (S_Tb_closeTrick_178  ht0 _ _ h)
  · rw [if_neg hc] at h
    refine zt_aload_n zy_68 (show q_ins q_k68 174 = some (.aload_n 0, 0, 0) from rfl) (v := t0) rfl ?_
    obtain ⟨a22, s23, hca22, h⟩ := zt_bdE h
    refine zt_callV (d := 2) zy_68 (show q_ins q_k68 175 = some (.invokevirtual 232, 69, 0) from rfl) zy_69 (by decide) ⟨zq_lt (by decide), by decide⟩ rfl (by simp [Value.category]) (by simp [lg_sl, Value.category]) (zt_rcv (zc_T ht0)) (zt_dm (by decide) (S_Tb_closeHand ht0 hca22)) ?_
    exact zt_wk (zt_cov_nil) (S_Tb_closeTrick_178  ht0 _ _ h)
theorem S_Tb_putDown_114 {X : q_X} {t0 : Nat} (ht0 : t0 ∈ zt_tabs) : ∀  (σ : zt_S) (o : (Unit × zt_S)), F_Tb_putDown_114 t0  σ = some o → zt_Ex X 4 66 114 [] [] (zt_M T σ) (zo_V T o) := by
  intro  σ o  h
  unfold F_Tb_putDown_114 at h
  cases h
  exact zt_ret zy_66 (show q_ins q_k66 114 = some (.return_, 0, 0) from rfl)
theorem S_Tb_putDown {X : q_X} {t0 : Nat} (ht0 : t0 ∈ zt_tabs) {v1 : Int} {σ : zt_S} {o : (Unit × zt_S)} (h : F_Tb_putDown t0 v1 σ = some o) : zt_Ex X 4 66 0 (lv_args 0 [.ref t0, .int (Int32.ofInt v1)]) [] (zt_M T σ) (zo_V T o) := by
  unfold F_Tb_putDown at h
  refine zt_aload_n zy_66 (show q_ins q_k66 0 = some (.aload_n 0, 0, 0) from rfl) (v := t0) rfl ?_
  refine zt_getR zy_66 (show q_ins q_k66 1 = some (.getfield 12, 6, 1) from rfl) (r := (t0 + 1)) (zk_T_1 ht0) ?_
  refine zt_getI zy_66 (show q_ins q_k66 4 = some (.getfield 182, 9, 1) from rfl) (j := 1) (zk_K_1 (zm_T1 ht0)) rfl ?_
  refine zt_istore_n zy_66 (show q_ins q_k66 7 = some (.istore_n 2, 0, 0) from rfl) (by decide) ?_
  refine zt_aload_n zy_66 (show q_ins q_k66 8 = some (.aload_n 0, 0, 0) from rfl) (v := t0) rfl ?_
  refine zt_iload_n zy_66 (show q_ins q_k66 9 = some (.iload_n 2, 0, 0) from rfl) (v := Int32.ofInt (σ.1 (t0 + 1) 1)) rfl ?_
  refine zt_aload_n zy_66 (show q_ins q_k66 10 = some (.aload_n 0, 0, 0) from rfl) (v := t0) rfl ?_
  refine zt_getR zy_66 (show q_ins q_k66 11 = some (.getfield 44, 6, 0) from rfl) (r := (zt_su t0)) (zk_T_0 ht0) ?_
  refine zt_iload_n zy_66 (show q_ins q_k66 14 = some (.iload_n 1, 0, 0) from rfl) (v := Int32.ofInt v1) rfl ?_
  obtain ⟨a1, s2, hca1, h⟩ := zt_bdE h
  refine zt_callV (d := 3) zy_66 (show q_ins q_k66 15 = some (.invokevirtual 189, 33, 1) from rfl) zy_33 (by decide) ⟨zq_lt (by decide), by decide⟩ rfl (by simp [Value.category]) (by simp [lg_sl, Value.category]) (zt_rcv (zc_S (zm_T0 ht0))) (zt_dm (by decide) (S_Su_suitOf (zm_T0 ht0) hca1)) ?_
  obtain ⟨a3, s4, hca3, h⟩ := zt_bdE h
  refine zt_callV (d := 3) zy_66 (show q_ins q_k66 18 = some (.invokevirtual 192, 67, 2) from rfl) zy_67 (by decide) ⟨zq_lt (by decide), by decide⟩ rfl (by simp [Value.category]) (by simp [lg_sl, Value.category]) (zt_rcv (zc_T ht0)) (zt_dm (by decide) (S_Tb_noteLack ht0 hca3)) ?_
  refine zt_aload_n zy_66 (show q_ins q_k66 21 = some (.aload_n 0, 0, 0) from rfl) (v := t0) rfl ?_
  refine zt_iload_n zy_66 (show q_ins q_k66 22 = some (.iload_n 2, 0, 0) from rfl) (v := Int32.ofInt (σ.1 (t0 + 1) 1)) rfl ?_
  refine zt_aload_n zy_66 (show q_ins q_k66 23 = some (.aload_n 0, 0, 0) from rfl) (v := t0) rfl ?_
  refine zt_iload_n zy_66 (show q_ins q_k66 24 = some (.iload_n 2, 0, 0) from rfl) (v := Int32.ofInt (σ.1 (t0 + 1) 1)) rfl ?_
  obtain ⟨a5, s6, hca5, h⟩ := zt_bdE h
  refine zt_callV (d := 3) zy_66 (show q_ins q_k66 25 = some (.invokevirtual 153, 60, 1) from rfl) zy_60 (by decide) ⟨zq_lt (by decide), by decide⟩ rfl (by simp [Value.category]) (by simp [lg_sl, Value.category]) (zt_rcv (zc_T ht0)) (zt_dm (by decide) (S_Tb_handOf ht0 hca5)) ?_
  refine zt_iload_n zy_66 (show q_ins q_k66 28 = some (.iload_n 1, 0, 0) from rfl) (v := Int32.ofInt v1) rfl ?_
  obtain ⟨a7, s8, hca7, h⟩ := zt_bdE h
  refine zt_callS (d := 3) zy_66 (show q_ins q_k66 29 = some (.invokestatic 195, 316, 2) from rfl) zy_316 (by decide) ⟨zq_lt (by decide), by decide⟩ rfl (by simp [Value.category]) (by simp [lg_sl, Value.category]) rfl (zt_dm (by decide) (S_Rw_without hca7)) ?_
  obtain ⟨a9, s10, hca9, h⟩ := zt_bdE h
  refine zt_callV (d := 3) zy_66 (show q_ins q_k66 32 = some (.invokevirtual 170, 61, 2) from rfl) zy_61 (by decide) ⟨zq_lt (by decide), by decide⟩ rfl (by simp [Value.category]) (by simp [lg_sl, Value.category]) (zt_rcv (zc_T ht0)) (zt_dm (by decide) (S_Tb_setHand ht0 hca9)) ?_
  refine zt_aload_n zy_66 (show q_ins q_k66 35 = some (.aload_n 0, 0, 0) from rfl) (v := t0) rfl ?_
  refine zt_aload_n zy_66 (show q_ins q_k66 36 = some (.aload_n 0, 0, 0) from rfl) (v := t0) rfl ?_
  refine zt_getL zy_66 (show q_ins q_k66 37 = some (.getfield 80, 6, 10) from rfl) (j := 10) (zk_T_10 ht0) rfl ?_
  refine zt_iload_n zy_66 (show q_ins q_k66 40 = some (.iload_n 1, 0, 0) from rfl) (v := Int32.ofInt v1) rfl ?_
  obtain ⟨a11, s12, hca11, h⟩ := zt_bdE h
  refine zt_callS (d := 3) zy_66 (show q_ins q_k66 41 = some (.invokestatic 166, 315, 2) from rfl) zy_315 (by decide) ⟨zq_lt (by decide), by decide⟩ rfl (by simp [Value.category]) (by simp [lg_sl, Value.category]) rfl (zt_dm (by decide) (S_Rw_with hca11)) ?_
  obtain ⟨s13, hs13, h⟩ := zt_letE h
  refine zt_putL zy_66 (show q_ins q_k66 44 = some (.putfield 80, 6, 10) from rfl) (j := 10) (zk_T_10 ht0) rfl rfl rfl ?_
  rw [← hs13]
  refine zt_aload_n zy_66 (show q_ins q_k66 47 = some (.aload_n 0, 0, 0) from rfl) (v := t0) rfl ?_
  refine zt_getR zy_66 (show q_ins q_k66 48 = some (.getfield 35, 6, 7) from rfl) (r := (t0 + 7)) (zk_T_7 ht0) ?_
  refine zt_aload_n zy_66 (show q_ins q_k66 51 = some (.aload_n 0, 0, 0) from rfl) (v := t0) rfl ?_
  refine zt_getI zy_66 (show q_ins q_k66 52 = some (.getfield 84, 6, 16) from rfl) (j := 16) (zk_T_16 ht0) rfl ?_
  refine zt_iload_n zy_66 (show q_ins q_k66 55 = some (.iload_n 1, 0, 0) from rfl) (v := Int32.ofInt v1) rfl ?_
  obtain ⟨a14, s15, hca14, h⟩ := zt_bdE h
  refine zt_callS (d := 3) zy_66 (show q_ins q_k66 56 = some (.invokestatic 198, 310, 3) from rfl) zy_310 (by decide) ⟨zq_lt (by decide), by decide⟩ rfl (by simp [Value.category]) (by simp [lg_sl, Value.category]) rfl (zt_dm (by decide) (S_Rw_set (za_T7 ht0) (by decide) hca14)) ?_
  refine zt_aload_n zy_66 (show q_ins q_k66 59 = some (.aload_n 0, 0, 0) from rfl) (v := t0) rfl ?_
  refine zt_getR zy_66 (show q_ins q_k66 60 = some (.getfield 38, 6, 8) from rfl) (r := (t0 + 8)) (zk_T_8 ht0) ?_
  refine zt_aload_n zy_66 (show q_ins q_k66 63 = some (.aload_n 0, 0, 0) from rfl) (v := t0) rfl ?_
  refine zt_getI zy_66 (show q_ins q_k66 64 = some (.getfield 84, 6, 16) from rfl) (j := 16) (zk_T_16 ht0) rfl ?_
  refine zt_iload_n zy_66 (show q_ins q_k66 67 = some (.iload_n 2, 0, 0) from rfl) (v := Int32.ofInt (σ.1 (t0 + 1) 1)) rfl ?_
  obtain ⟨a16, s17, hca16, h⟩ := zt_bdE h
  refine zt_callS (d := 3) zy_66 (show q_ins q_k66 68 = some (.invokestatic 198, 310, 3) from rfl) zy_310 (by decide) ⟨zq_lt (by decide), by decide⟩ rfl (by simp [Value.category]) (by simp [lg_sl, Value.category]) rfl (zt_dm (by decide) (S_Rw_set (za_T8 ht0) (by decide) hca16)) ?_
  refine zt_aload_n zy_66 (show q_ins q_k66 71 = some (.aload_n 0, 0, 0) from rfl) (v := t0) rfl ?_
  refine zt_dup zy_66 (show q_ins q_k66 72 = some (.dup, 0, 0) from rfl) rfl ?_
  refine zt_getI zy_66 (show q_ins q_k66 73 = some (.getfield 84, 6, 16) from rfl) (j := 16) (zk_T_16 ht0) rfl ?_
  refine zt_iconst zy_66 (show q_ins q_k66 76 = some (.iconst 1, 0, 0) from rfl) ?_
  refine zt_iadd zy_66 (show q_ins q_k66 77 = some (.iadd, 0, 0) from rfl) ?_
  obtain ⟨s18, hs18, h⟩ := zt_letE h
  refine zt_putI zy_66 (show q_ins q_k66 78 = some (.putfield 84, 6, 16) from rfl) (j := 16) (zk_T_16 ht0) rfl rfl rfl ?_
  rw [← hs18]
  refine zt_aload_n zy_66 (show q_ins q_k66 81 = some (.aload_n 0, 0, 0) from rfl) (v := t0) rfl ?_
  refine zt_getR zy_66 (show q_ins q_k66 82 = some (.getfield 12, 6, 1) from rfl) (r := (t0 + 1)) (zk_T_1 ht0) ?_
  refine zt_aload_n zy_66 (show q_ins q_k66 85 = some (.aload_n 0, 0, 0) from rfl) (v := t0) rfl ?_
  refine zt_getR zy_66 (show q_ins q_k66 86 = some (.getfield 44, 6, 0) from rfl) (r := (zt_su t0)) (zk_T_0 ht0) ?_
  refine zt_iload_n zy_66 (show q_ins q_k66 89 = some (.iload_n 1, 0, 0) from rfl) (v := Int32.ofInt v1) rfl ?_
  obtain ⟨a19, s20, hca19, h⟩ := zt_bdE h
  refine zt_callV (d := 3) zy_66 (show q_ins q_k66 90 = some (.invokevirtual 202, 111, 2) from rfl) zy_111 (by decide) ⟨zq_lt (by decide), by decide⟩ rfl (by simp [Value.category]) (by simp [lg_sl, Value.category]) (zt_rcv (zc_K (zm_T1 ht0))) (zt_dm (by decide) (S_Tr_place (zm_T1 ht0) (zm_T0 ht0) hca19)) ?_
  refine zt_aload_n zy_66 (show q_ins q_k66 93 = some (.aload_n 0, 0, 0) from rfl) (v := t0) rfl ?_
  refine zt_getR zy_66 (show q_ins q_k66 94 = some (.getfield 12, 6, 1) from rfl) (r := (t0 + 1)) (zk_T_1 ht0) ?_
  refine zt_getI zy_66 (show q_ins q_k66 97 = some (.getfield 206, 9, 2) from rfl) (j := 2) (zk_K_2 (zm_T1 ht0)) rfl ?_
  refine zt_aload_n zy_66 (show q_ins q_k66 100 = some (.aload_n 0, 0, 0) from rfl) (v := t0) rfl ?_
  refine zt_getR zy_66 (show q_ins q_k66 101 = some (.getfield 44, 6, 0) from rfl) (r := (zt_su t0)) (zk_T_0 ht0) ?_
  refine zt_getI zy_66 (show q_ins q_k66 104 = some (.getfield 146, 4, 1) from rfl) (j := 1) (zk_S_1 (zm_T0 ht0)) rfl ?_
  obtain ⟨hg, h⟩ := zt_ckE h
  refine zt_icmp_lt zy_66 (show q_ins q_k66 107 = some (.if_icmp .lt 7, 114, 0) from rfl) (⟨hg.1, hg.2⟩) (fun hc => ?_) (fun hc => ?_)
  · rw [if_pos hc] at h
    exact zt_wk (zt_cov_nil) (S_Tb_putDown_114  ht0 _ _ h)
  · rw [if_neg hc] at h
    refine zt_aload_n zy_66 (show q_ins q_k66 110 = some (.aload_n 0, 0, 0) from rfl) (v := t0) rfl ?_
    obtain ⟨a21, s22, hca21, h⟩ := zt_bdE h
    refine zt_callV (d := 3) zy_66 (show q_ins q_k66 111 = some (.invokevirtual 209, 68, 0) from rfl) zy_68 (by decide) ⟨zq_lt (by decide), by decide⟩ rfl (by simp [Value.category]) (by simp [lg_sl, Value.category]) (zt_rcv (zc_T ht0)) (zt_dm (by decide) (S_Tb_closeTrick ht0 hca21)) ?_
    exact zt_wk (zt_cov_nil) (S_Tb_putDown_114  ht0 _ _ h)
theorem S_Tb_strongest_63 {X : q_X} {t0 : Nat} (ht0 : t0 ∈ zt_tabs) {r13 : Int64 → Int → Int → Int → zt_S → Option (Int × zt_S)} (hr13 : ∀ (v1 : Int64) (v3 : Int) (v4 : Int) (v5 : Int) (σ : zt_S) (o : (Int × zt_S)), r13 v1 v3 v4 v5 σ = some o → zt_Ex X 3 75 13 [(0, .ref t0), (1, .long v1), (3, .int (Int32.ofInt v3)), (4, .int (Int32.ofInt v4)), (5, .int (Int32.ofInt v5))] [] (zt_M T σ) (zo_I T o)) : ∀ (v1 : Int64) (v3 : Int) (v4 : Int) (v5 : Int) (σ : zt_S) (o : (Int × zt_S)), F_Tb_strongest_63 t0 r13 v1 v3 v4 v5 σ = some o → zt_Ex X 3 75 63 [(0, .ref t0), (1, .long v1), (3, .int (Int32.ofInt v3)), (4, .int (Int32.ofInt v4)), (5, .int (Int32.ofInt v5))] [] (zt_M T σ) (zo_I T o) := by
  intro v1 v3 v4 v5 σ o  h
  unfold F_Tb_strongest_63 at h
  refine zt_iinc zy_75 (show q_ins q_k75 63 = some (.iinc 5 1, 0, 0) from rfl) (v := v5) (by decide) rfl ?_
  refine zt_goto zy_75 (show q_ins q_k75 66 = some (.goto (-53), 13, 0) from rfl) ?_
  exact zt_wk (zt_cov_cons rfl (zt_cov_cons rfl (zt_cov_cons rfl (zt_cov_cons rfl (zt_cov_cons rfl (zt_cov_nil)))))) (hr13 _ _ _ _ _ _ h)
theorem S_Tb_strongest_13 {X : q_X} {t0 : Nat} (ht0 : t0 ∈ zt_tabs) : ∀ (n : Nat) (v1 : Int64) (v3 : Int) (v4 : Int) (v5 : Int) (σ : zt_S) (o : (Int × zt_S)), F_Tb_strongest_13 t0 n v1 v3 v4 v5 σ = some o → zt_Ex X 3 75 13 [(0, .ref t0), (1, .long v1), (3, .int (Int32.ofInt v3)), (4, .int (Int32.ofInt v4)), (5, .int (Int32.ofInt v5))] [] (zt_M T σ) (zo_I T o) := by
  intro n
  induction n with
  | zero => intro v1 v3 v4 v5 σ o  h; cases h
  | succ n ih =>
  intro v1 v3 v4 v5 σ o  h
  rw [F_Tb_strongest_13] at h
  refine zt_iload zy_75 (show q_ins q_k75 13 = some (.iload 5, 0, 0) from rfl) (v := Int32.ofInt v5) rfl ?_
  refine zt_aload_n zy_75 (show q_ins q_k75 15 = some (.aload_n 0, 0, 0) from rfl) (v := t0) rfl ?_
  refine zt_getR zy_75 (show q_ins q_k75 16 = some (.getfield 44, 6, 0) from rfl) (r := (zt_su t0)) (zk_T_0 ht0) ?_
  obtain ⟨a3, s4, hca3, h⟩ := zt_bdE h
  refine zt_callV (d := 2) zy_75 (show q_ins q_k75 19 = some (.invokevirtual 137, 30, 0) from rfl) zy_30 (by decide) ⟨zq_lt (by decide), by decide⟩ rfl (by simp [Value.category]) (by simp [lg_sl, Value.category]) (zt_rcv (zc_S (zm_T0 ht0))) (zt_dm (by decide) (S_Su_cardCount (zm_T0 ht0) hca3)) ?_
  obtain ⟨hg, h⟩ := zt_ckE h
  refine zt_icmp_ge zy_75 (show q_ins q_k75 22 = some (.if_icmp .ge 47, 69, 0) from rfl) (⟨hg.1, hg.2⟩) (fun hc => ?_) (fun hc => ?_)
  · rw [if_pos hc] at h
    refine zt_aload_n zy_75 (show q_ins q_k75 25 = some (.aload_n 0, 0, 0) from rfl) (v := t0) rfl ?_
    refine zt_getR zy_75 (show q_ins q_k75 26 = some (.getfield 12, 6, 1) from rfl) (r := (t0 + 1)) (zk_T_1 ht0) ?_
    refine zt_aload_n zy_75 (show q_ins q_k75 29 = some (.aload_n 0, 0, 0) from rfl) (v := t0) rfl ?_
    refine zt_getR zy_75 (show q_ins q_k75 30 = some (.getfield 44, 6, 0) from rfl) (r := (zt_su t0)) (zk_T_0 ht0) ?_
    refine zt_iload zy_75 (show q_ins q_k75 33 = some (.iload 5, 0, 0) from rfl) (v := Int32.ofInt v5) rfl ?_
    obtain ⟨a5, s6, hca5, h⟩ := zt_bdE h
    refine zt_callV (d := 2) zy_75 (show q_ins q_k75 35 = some (.invokevirtual 265, 108, 2) from rfl) zy_108 (by decide) ⟨zq_lt (by decide), by decide⟩ rfl (by simp [Value.category]) (by simp [lg_sl, Value.category]) (zt_rcv (zc_K (zm_T1 ht0))) (zt_dm (by decide) (S_Tr_powerOf (zm_T1 ht0) (zm_T0 ht0) hca5)) ?_
    refine zt_istore zy_75 (show q_ins q_k75 38 = some (.istore 6, 0, 0) from rfl) (by decide) ?_
    refine zt_lload_n zy_75 (show q_ins q_k75 40 = some (.lload_n 1, 0, 0) from rfl) (v := v1) rfl ?_
    refine zt_iload zy_75 (show q_ins q_k75 41 = some (.iload 5, 0, 0) from rfl) (v := Int32.ofInt v5) rfl ?_
    obtain ⟨a7, s8, hca7, h⟩ := zt_bdE h
    refine zt_callS (d := 2) zy_75 (show q_ins q_k75 43 = some (.invokestatic 174, 314, 2) from rfl) zy_314 (by decide) ⟨zq_lt (by decide), by decide⟩ rfl (by simp [Value.category]) (by simp [lg_sl, Value.category]) rfl (zt_dm (by decide) (S_Rw_has hca7)) ?_
    obtain ⟨hg, h⟩ := zt_ckE h
    refine zt_if_eq zy_75 (show q_ins q_k75 46 = some (.ifCond .eq 17, 63, 0) from rfl) (hg) (fun hc => ?_) (fun hc => ?_)
    · rw [if_pos hc] at h
      exact zt_wk (zt_cov_cons rfl (zt_cov_cons rfl (zt_cov_cons rfl (zt_cov_cons rfl (zt_cov_cons rfl (zt_cov_nil)))))) (S_Tb_strongest_63  ht0 ih _ _ _ _ _ _ h)
    · rw [if_neg hc] at h
      refine zt_iload zy_75 (show q_ins q_k75 49 = some (.iload 6, 0, 0) from rfl) (v := Int32.ofInt a5) rfl ?_
      refine zt_iload zy_75 (show q_ins q_k75 51 = some (.iload 4, 0, 0) from rfl) (v := Int32.ofInt v4) rfl ?_
      obtain ⟨hg, h⟩ := zt_ckE h
      refine zt_icmp_le zy_75 (show q_ins q_k75 53 = some (.if_icmp .le 10, 63, 0) from rfl) (⟨hg.1, hg.2⟩) (fun hc => ?_) (fun hc => ?_)
      · rw [if_pos hc] at h
        refine zt_iload zy_75 (show q_ins q_k75 56 = some (.iload 5, 0, 0) from rfl) (v := Int32.ofInt v5) rfl ?_
        refine zt_istore_n zy_75 (show q_ins q_k75 58 = some (.istore_n 3, 0, 0) from rfl) (by decide) ?_
        refine zt_iload zy_75 (show q_ins q_k75 59 = some (.iload 6, 0, 0) from rfl) (v := Int32.ofInt a5) rfl ?_
        refine zt_istore zy_75 (show q_ins q_k75 61 = some (.istore 4, 0, 0) from rfl) (by decide) ?_
        exact zt_wk (zt_cov_cons rfl (zt_cov_cons rfl (zt_cov_cons rfl (zt_cov_cons rfl (zt_cov_cons rfl (zt_cov_nil)))))) (S_Tb_strongest_63  ht0 ih _ _ _ _ _ _ h)
      · rw [if_neg hc] at h
        exact zt_wk (zt_cov_cons rfl (zt_cov_cons rfl (zt_cov_cons rfl (zt_cov_cons rfl (zt_cov_cons rfl (zt_cov_nil)))))) (S_Tb_strongest_63  ht0 ih _ _ _ _ _ _ h)
  · rw [if_neg hc] at h
    refine zt_iload_n zy_75 (show q_ins q_k75 69 = some (.iload_n 3, 0, 0) from rfl) (v := Int32.ofInt v3) rfl ?_
    cases h
    exact zt_iret zy_75 (show q_ins q_k75 70 = some (.ireturn, 0, 0) from rfl)
theorem S_Tb_strongest {X : q_X} {t0 : Nat} (ht0 : t0 ∈ zt_tabs)  {σ : zt_S} {o : (Int × zt_S)} (h : F_Tb_strongest t0  σ = some o) : zt_Ex X 3 75 0 (lv_args 0 [.ref t0]) [] (zt_M T σ) (zo_I T o) := by
  unfold F_Tb_strongest at h
  refine zt_aload_n zy_75 (show q_ins q_k75 0 = some (.aload_n 0, 0, 0) from rfl) (v := t0) rfl ?_
  obtain ⟨a1, s2, hca1, h⟩ := zt_bdE h
  refine zt_callV (d := 2) zy_75 (show q_ins q_k75 1 = some (.invokevirtual 262, 65, 0) from rfl) zy_65 (by decide) ⟨zq_lt (by decide), by decide⟩ rfl (by simp [Value.category]) (by simp [lg_sl, Value.category]) (zt_rcv (zc_T ht0)) (zt_dm (by decide) (S_Tb_allowedCards ht0 hca1)) ?_
  refine zt_lstore_n zy_75 (show q_ins q_k75 4 = some (.lstore_n 1, 0, 0) from rfl) (by decide) ?_
  refine zt_iconst zy_75 (show q_ins q_k75 5 = some (.iconst (-1), 0, 0) from rfl) ?_
  refine zt_istore_n zy_75 (show q_ins q_k75 6 = some (.istore_n 3, 0, 0) from rfl) (by decide) ?_
  refine zt_iconst zy_75 (show q_ins q_k75 7 = some (.iconst 0, 0, 0) from rfl) ?_
  refine zt_istore zy_75 (show q_ins q_k75 8 = some (.istore 4, 0, 0) from rfl) (by decide) ?_
  refine zt_iconst zy_75 (show q_ins q_k75 10 = some (.iconst 0, 0, 0) from rfl) ?_
  refine zt_istore zy_75 (show q_ins q_k75 11 = some (.istore 5, 0, 0) from rfl) (by decide) ?_
  exact zt_wk (zt_cov_cons rfl (zt_cov_cons rfl (zt_cov_cons rfl (zt_cov_cons rfl (zt_cov_cons rfl (zt_cov_nil)))))) (S_Tb_strongest_13  ht0 _ _ _ _ _ _ _ h)
end TT
