/-! the mini-machine does what the functions say (by program) -/
section TT
variable {T : zt_T}
theorem S_Su_copyFrom {X : q_X} {t0 : Nat} {t1 : Nat} (ht0 : t0 ∈ zt_sets) (ht1 : t1 ∈ zt_sets)  {σ : zt_S} {o : (Unit × zt_S)} (h : F_Su_copyFrom t0 t1  σ = some o) : zt_Ex X 0 29 0 (lv_args 0 [.ref t0, .ref t1]) [] (zt_M T σ) (zo_V T o) := by
  unfold F_Su_copyFrom at h
  refine zt_aload_n zy_29 (show q_ins q_k29 0 = some (.aload_n 0, 0, 0) from rfl) (v := t0) rfl ?_
  refine zt_aload_n zy_29 (show q_ins q_k29 1 = some (.aload_n 1, 0, 0) from rfl) (v := t1) rfl ?_
  refine zt_getI zy_29 (show q_ins q_k29 2 = some (.getfield 9, 4, 0) from rfl) (j := 0) (zk_S_0 ht1) rfl ?_
  obtain ⟨s1, hs1, h⟩ := zt_letE h
  refine zt_putI zy_29 (show q_ins q_k29 5 = some (.putfield 9, 4, 0) from rfl) (j := 0) (zk_S_0 ht0) rfl rfl rfl ?_
  rw [← hs1]
  refine zt_aload_n zy_29 (show q_ins q_k29 8 = some (.aload_n 0, 0, 0) from rfl) (v := t0) rfl ?_
  refine zt_aload_n zy_29 (show q_ins q_k29 9 = some (.aload_n 1, 0, 0) from rfl) (v := t1) rfl ?_
  refine zt_getI zy_29 (show q_ins q_k29 10 = some (.getfield 15, 4, 1) from rfl) (j := 1) (zk_S_1 ht1) rfl ?_
  obtain ⟨s2, hs2, h⟩ := zt_letE h
  refine zt_putI zy_29 (show q_ins q_k29 13 = some (.putfield 15, 4, 1) from rfl) (j := 1) (zk_S_1 ht0) rfl rfl rfl ?_
  rw [← hs2]
  refine zt_aload_n zy_29 (show q_ins q_k29 16 = some (.aload_n 0, 0, 0) from rfl) (v := t0) rfl ?_
  refine zt_aload_n zy_29 (show q_ins q_k29 17 = some (.aload_n 1, 0, 0) from rfl) (v := t1) rfl ?_
  refine zt_getI zy_29 (show q_ins q_k29 18 = some (.getfield 18, 4, 2) from rfl) (j := 2) (zk_S_2 ht1) rfl ?_
  obtain ⟨s3, hs3, h⟩ := zt_letE h
  refine zt_putI zy_29 (show q_ins q_k29 21 = some (.putfield 18, 4, 2) from rfl) (j := 2) (zk_S_2 ht0) rfl rfl rfl ?_
  rw [← hs3]
  refine zt_aload_n zy_29 (show q_ins q_k29 24 = some (.aload_n 0, 0, 0) from rfl) (v := t0) rfl ?_
  refine zt_aload_n zy_29 (show q_ins q_k29 25 = some (.aload_n 1, 0, 0) from rfl) (v := t1) rfl ?_
  refine zt_getI zy_29 (show q_ins q_k29 26 = some (.getfield 21, 4, 3) from rfl) (j := 3) (zk_S_3 ht1) rfl ?_
  obtain ⟨s4, hs4, h⟩ := zt_letE h
  refine zt_putI zy_29 (show q_ins q_k29 29 = some (.putfield 21, 4, 3) from rfl) (j := 3) (zk_S_3 ht0) rfl rfl rfl ?_
  rw [← hs4]
  cases h
  exact zt_ret zy_29 (show q_ins q_k29 32 = some (.return_, 0, 0) from rfl)
theorem S_Su_mostHeld_26 {X : q_X} {t0 : Nat} (ht0 : t0 ∈ zt_sets) : ∀ (x0 : Int) (σ : zt_S) (o : (Int × zt_S)), F_Su_mostHeld_26 t0 x0 σ = some o → zt_Ex X 1 32 26 [] [.int (Int32.ofInt x0)] (zt_M T σ) (zo_I T o) := by
  intro x0 σ o  h
  unfold F_Su_mostHeld_26 at h
  cases h
  exact zt_iret zy_32 (show q_ins q_k32 26 = some (.ireturn, 0, 0) from rfl)
theorem S_Su_mostHeld {X : q_X} {t0 : Nat} (ht0 : t0 ∈ zt_sets)  {σ : zt_S} {o : (Int × zt_S)} (h : F_Su_mostHeld t0  σ = some o) : zt_Ex X 1 32 0 (lv_args 0 [.ref t0]) [] (zt_M T σ) (zo_I T o) := by
  unfold F_Su_mostHeld at h
  refine zt_aload_n zy_32 (show q_ins q_k32 0 = some (.aload_n 0, 0, 0) from rfl) (v := t0) rfl ?_
  refine zt_getI zy_32 (show q_ins q_k32 1 = some (.getfield 15, 4, 1) from rfl) (j := 1) (zk_S_1 ht0) rfl ?_
  obtain ⟨hg, h⟩ := zt_ckE h
  refine zt_if_gt zy_32 (show q_ins q_k32 4 = some (.ifCond .gt 8, 12, 0) from rfl) (hg) (fun hc => ?_) (fun hc => ?_)
  · rw [if_pos hc] at h
    refine zt_bipush zy_32 (show q_ins q_k32 12 = some (.bipush 13, 0, 0) from rfl) (by decide) ?_
    refine zt_aload_n zy_32 (show q_ins q_k32 14 = some (.aload_n 0, 0, 0) from rfl) (v := t0) rfl ?_
    obtain ⟨a1, s2, hca1, h⟩ := zt_bdE h
    refine zt_callV (d := 0) zy_32 (show q_ins q_k32 15 = some (.invokevirtual 24, 30, 0) from rfl) zy_30 (by decide) ⟨zq_lt (by decide), by decide⟩ rfl (by simp [Value.category]) (by simp [lg_sl, Value.category]) (zt_rcv (zc_S ht0)) (zt_dm (by decide) (S_Su_cardCount ht0 hca1)) ?_
    refine zt_aload_n zy_32 (show q_ins q_k32 18 = some (.aload_n 0, 0, 0) from rfl) (v := t0) rfl ?_
    refine zt_getI zy_32 (show q_ins q_k32 19 = some (.getfield 15, 4, 1) from rfl) (j := 1) (zk_S_1 ht0) rfl ?_
    obtain ⟨hg, h⟩ := zt_ckE h
    refine zt_idiv zy_32 (show q_ins q_k32 22 = some (.idiv, 0, 0) from rfl) hg.1 hg.2 ?_
    obtain ⟨hg, h⟩ := zt_ckE h
    refine zt_min zy_32 (show q_ins q_k32 23 = some (.invokestatic 28, 911, 2) from rfl) rfl ⟨by decide, hg⟩ (by simp [Value.category]) ?_
    exact zt_wk (zt_cov_nil) (S_Su_mostHeld_26  ht0 _ _ _ h)
  · rw [if_neg hc] at h
    refine zt_bipush zy_32 (show q_ins q_k32 7 = some (.bipush 13, 0, 0) from rfl) (by decide) ?_
    refine zt_goto zy_32 (show q_ins q_k32 9 = some (.goto 17, 26, 0) from rfl) ?_
    exact zt_wk (zt_cov_nil) (S_Su_mostHeld_26  ht0 _ _ _ h)
theorem S_Su_trickOf_17 {X : q_X} {t0 : Nat} (ht0 : t0 ∈ zt_sets) : ∀ (x0 : Int) (σ : zt_S) (o : (Int × zt_S)), F_Su_trickOf_17 t0 x0 σ = some o → zt_Ex X 0 35 17 [] [.int (Int32.ofInt x0)] (zt_M T σ) (zo_I T o) := by
  intro x0 σ o  h
  unfold F_Su_trickOf_17 at h
  cases h
  exact zt_iret zy_35 (show q_ins q_k35 17 = some (.ireturn, 0, 0) from rfl)
theorem S_Su_trickOf {X : q_X} {t0 : Nat} (ht0 : t0 ∈ zt_sets) {v1 : Int} {σ : zt_S} {o : (Int × zt_S)} (h : F_Su_trickOf t0 v1 σ = some o) : zt_Ex X 0 35 0 (lv_args 0 [.ref t0, .int (Int32.ofInt v1)]) [] (zt_M T σ) (zo_I T o) := by
  unfold F_Su_trickOf at h
  refine zt_aload_n zy_35 (show q_ins q_k35 0 = some (.aload_n 0, 0, 0) from rfl) (v := t0) rfl ?_
  refine zt_getI zy_35 (show q_ins q_k35 1 = some (.getfield 15, 4, 1) from rfl) (j := 1) (zk_S_1 ht0) rfl ?_
  obtain ⟨hg, h⟩ := zt_ckE h
  refine zt_if_gt zy_35 (show q_ins q_k35 4 = some (.ifCond .gt 7, 11, 0) from rfl) (hg) (fun hc => ?_) (fun hc => ?_)
  · rw [if_pos hc] at h
    refine zt_iload_n zy_35 (show q_ins q_k35 11 = some (.iload_n 1, 0, 0) from rfl) (v := Int32.ofInt v1) rfl ?_
    refine zt_aload_n zy_35 (show q_ins q_k35 12 = some (.aload_n 0, 0, 0) from rfl) (v := t0) rfl ?_
    refine zt_getI zy_35 (show q_ins q_k35 13 = some (.getfield 15, 4, 1) from rfl) (j := 1) (zk_S_1 ht0) rfl ?_
    obtain ⟨hg, h⟩ := zt_ckE h
    refine zt_idiv zy_35 (show q_ins q_k35 16 = some (.idiv, 0, 0) from rfl) hg.1 hg.2 ?_
    exact zt_wk (zt_cov_nil) (S_Su_trickOf_17  ht0 _ _ _ h)
  · rw [if_neg hc] at h
    refine zt_iconst zy_35 (show q_ins q_k35 7 = some (.iconst 0, 0, 0) from rfl) ?_
    refine zt_goto zy_35 (show q_ins q_k35 8 = some (.goto 9, 17, 0) from rfl) ?_
    exact zt_wk (zt_cov_nil) (S_Su_trickOf_17  ht0 _ _ _ h)
theorem S_Su_behind_17 {X : q_X} {t0 : Nat} (ht0 : t0 ∈ zt_sets) : ∀ (x0 : Int) (σ : zt_S) (o : (Int × zt_S)), F_Su_behind_17 t0 x0 σ = some o → zt_Ex X 0 37 17 [] [.int (Int32.ofInt x0)] (zt_M T σ) (zo_I T o) := by
  intro x0 σ o  h
  unfold F_Su_behind_17 at h
  cases h
  exact zt_iret zy_37 (show q_ins q_k37 17 = some (.ireturn, 0, 0) from rfl)
theorem S_Su_behind {X : q_X} {t0 : Nat} (ht0 : t0 ∈ zt_sets) {v1 : Int} {σ : zt_S} {o : (Int × zt_S)} (h : F_Su_behind t0 v1 σ = some o) : zt_Ex X 0 37 0 (lv_args 0 [.ref t0, .int (Int32.ofInt v1)]) [] (zt_M T σ) (zo_I T o) := by
  unfold F_Su_behind at h
  refine zt_iload_n zy_37 (show q_ins q_k37 0 = some (.iload_n 1, 0, 0) from rfl) (v := Int32.ofInt v1) rfl ?_
  refine zt_iconst zy_37 (show q_ins q_k37 1 = some (.iconst 1, 0, 0) from rfl) ?_
  refine zt_iadd zy_37 (show q_ins q_k37 2 = some (.iadd, 0, 0) from rfl) ?_
  refine zt_aload_n zy_37 (show q_ins q_k37 3 = some (.aload_n 0, 0, 0) from rfl) (v := t0) rfl ?_
  refine zt_getI zy_37 (show q_ins q_k37 4 = some (.getfield 15, 4, 1) from rfl) (j := 1) (zk_S_1 ht0) rfl ?_
  obtain ⟨hg, h⟩ := zt_ckE h
  refine zt_icmp_ge zy_37 (show q_ins q_k37 7 = some (.if_icmp .ge 9, 16, 0) from rfl) (⟨hg.1, hg.2⟩) (fun hc => ?_) (fun hc => ?_)
  · rw [if_pos hc] at h
    refine zt_iload_n zy_37 (show q_ins q_k37 10 = some (.iload_n 1, 0, 0) from rfl) (v := Int32.ofInt v1) rfl ?_
    refine zt_iconst zy_37 (show q_ins q_k37 11 = some (.iconst 1, 0, 0) from rfl) ?_
    refine zt_iadd zy_37 (show q_ins q_k37 12 = some (.iadd, 0, 0) from rfl) ?_
    refine zt_goto zy_37 (show q_ins q_k37 13 = some (.goto 4, 17, 0) from rfl) ?_
    exact zt_wk (zt_cov_nil) (S_Su_behind_17  ht0 _ _ _ h)
  · rw [if_neg hc] at h
    refine zt_iconst zy_37 (show q_ins q_k37 16 = some (.iconst 0, 0, 0) from rfl) ?_
    exact zt_wk (zt_cov_nil) (S_Su_behind_17  ht0 _ _ _ h)
theorem S_Tb_allHands_4 {X : q_X} {t0 : Nat} (ht0 : t0 ∈ zt_tabs) : ∀ (n : Nat) (v1 : Int64) (v3 : Int) (σ : zt_S) (o : (Int64 × zt_S)), F_Tb_allHands_4 t0 n v1 v3 σ = some o → zt_Ex X 0 62 4 [(0, .ref t0), (1, .long v1), (3, .int (Int32.ofInt v3))] [] (zt_M T σ) (zo_L T o) := by
  intro n
  induction n with
  | zero => intro v1 v3 σ o  h; cases h
  | succ n ih =>
  intro v1 v3 σ o  h
  rw [F_Tb_allHands_4] at h
  refine zt_iload_n zy_62 (show q_ins q_k62 4 = some (.iload_n 3, 0, 0) from rfl) (v := Int32.ofInt v3) rfl ?_
  refine zt_aload_n zy_62 (show q_ins q_k62 5 = some (.aload_n 0, 0, 0) from rfl) (v := t0) rfl ?_
  refine zt_getR zy_62 (show q_ins q_k62 6 = some (.getfield 18, 6, 2) from rfl) (r := (t0 + 2)) (zk_T_2 ht0) ?_
  refine zt_alen zy_62 (show q_ins q_k62 9 = some (.arraylength, 0, 0) from rfl) (za_T2 ht0) (by decide) ?_
  obtain ⟨hg, h⟩ := zt_ckE h
  refine zt_icmp_ge zy_62 (show q_ins q_k62 10 = some (.if_icmp .ge 18, 28, 0) from rfl) (⟨hg, by decide⟩) (fun hc => ?_) (fun hc => ?_)
  · rw [if_pos hc] at h
    refine zt_lload_n zy_62 (show q_ins q_k62 13 = some (.lload_n 1, 0, 0) from rfl) (v := v1) rfl ?_
    refine zt_aload_n zy_62 (show q_ins q_k62 14 = some (.aload_n 0, 0, 0) from rfl) (v := t0) rfl ?_
    refine zt_getR zy_62 (show q_ins q_k62 15 = some (.getfield 18, 6, 2) from rfl) (r := (t0 + 2)) (zk_T_2 ht0) ?_
    refine zt_iload_n zy_62 (show q_ins q_k62 18 = some (.iload_n 3, 0, 0) from rfl) (v := Int32.ofInt v3) rfl ?_
    obtain ⟨hg, h⟩ := zt_ckE h
    refine zt_lld zy_62 (show q_ins q_k62 19 = some (.laload, 0, 0) from rfl) (za_T2 ht0) (by decide) hg ?_
    refine zt_lor zy_62 (show q_ins q_k62 20 = some (.lor, 0, 0) from rfl) ?_
    refine zt_lstore_n zy_62 (show q_ins q_k62 21 = some (.lstore_n 1, 0, 0) from rfl) (by decide) ?_
    refine zt_iinc zy_62 (show q_ins q_k62 22 = some (.iinc 3 1, 0, 0) from rfl) (v := v3) (by decide) rfl ?_
    refine zt_goto zy_62 (show q_ins q_k62 25 = some (.goto (-21), 4, 0) from rfl) ?_
    exact zt_wk (zt_cov_cons rfl (zt_cov_cons rfl (zt_cov_cons rfl (zt_cov_nil)))) (ih _ _ _ _ h)
  · rw [if_neg hc] at h
    refine zt_lload_n zy_62 (show q_ins q_k62 28 = some (.lload_n 1, 0, 0) from rfl) (v := v1) rfl ?_
    cases h
    exact zt_lret zy_62 (show q_ins q_k62 29 = some (.lreturn, 0, 0) from rfl)
theorem S_Tb_allHands {X : q_X} {t0 : Nat} (ht0 : t0 ∈ zt_tabs)  {σ : zt_S} {o : (Int64 × zt_S)} (h : F_Tb_allHands t0  σ = some o) : zt_Ex X 0 62 0 (lv_args 0 [.ref t0]) [] (zt_M T σ) (zo_L T o) := by
  unfold F_Tb_allHands at h
  refine zt_lconst zy_62 (show q_ins q_k62 0 = some (.lconst 0, 0, 0) from rfl) (v := (0 : Int64)) (by decide) ?_
  refine zt_lstore_n zy_62 (show q_ins q_k62 1 = some (.lstore_n 1, 0, 0) from rfl) (by decide) ?_
  refine zt_iconst zy_62 (show q_ins q_k62 2 = some (.iconst 0, 0, 0) from rfl) ?_
  refine zt_istore_n zy_62 (show q_ins q_k62 3 = some (.istore_n 3, 0, 0) from rfl) (by decide) ?_
  exact zt_wk (zt_cov_cons rfl (zt_cov_cons rfl (zt_cov_cons rfl (zt_cov_nil)))) (S_Tb_allHands_4  ht0 _ _ _ _ _ h)
theorem S_J_bitCount {X : q_X}   {v0 : Int64} {σ : zt_S} {o : (Int × zt_S)} (h : F_J_bitCount  v0 σ = some o) : zt_Ex X 0 352 0 (lv_args 0 [.long v0]) [] (zt_M T σ) (zo_I T o) := by
  unfold F_J_bitCount at h
  refine zt_lload_n zy_352 (show q_ins q_k352 0 = some (.lload_n 0, 0, 0) from rfl) (v := v0) rfl ?_
  refine zt_lload_n zy_352 (show q_ins q_k352 1 = some (.lload_n 0, 0, 0) from rfl) (v := v0) rfl ?_
  refine zt_iconst zy_352 (show q_ins q_k352 2 = some (.iconst 1, 0, 0) from rfl) ?_
  refine zt_lushr zy_352 (show q_ins q_k352 3 = some (.lushr, 0, 0) from rfl) ?_
  refine zt_ldc2 zy_352 (show q_ins q_k352 4 = some (.ldc2_w 314, 0, 6148914691236517205) from rfl) (v := (6148914691236517205 : Int64)) (by decide) ?_
  refine zt_land zy_352 (show q_ins q_k352 7 = some (.land, 0, 0) from rfl) ?_
  refine zt_lsub zy_352 (show q_ins q_k352 8 = some (.lsub, 0, 0) from rfl) ?_
  refine zt_lstore_n zy_352 (show q_ins q_k352 9 = some (.lstore_n 0, 0, 0) from rfl) (by decide) ?_
  refine zt_lload_n zy_352 (show q_ins q_k352 10 = some (.lload_n 0, 0, 0) from rfl) (v := (v0 - ((zt_us v0 (1 : Int)) &&& (6148914691236517205 : Int64)))) rfl ?_
  refine zt_ldc2 zy_352 (show q_ins q_k352 11 = some (.ldc2_w 316, 0, 3689348814741910323) from rfl) (v := (3689348814741910323 : Int64)) (by decide) ?_
  refine zt_land zy_352 (show q_ins q_k352 14 = some (.land, 0, 0) from rfl) ?_
  refine zt_lload_n zy_352 (show q_ins q_k352 15 = some (.lload_n 0, 0, 0) from rfl) (v := (v0 - ((zt_us v0 (1 : Int)) &&& (6148914691236517205 : Int64)))) rfl ?_
  refine zt_iconst zy_352 (show q_ins q_k352 16 = some (.iconst 2, 0, 0) from rfl) ?_
  refine zt_lushr zy_352 (show q_ins q_k352 17 = some (.lushr, 0, 0) from rfl) ?_
  refine zt_ldc2 zy_352 (show q_ins q_k352 18 = some (.ldc2_w 316, 0, 3689348814741910323) from rfl) (v := (3689348814741910323 : Int64)) (by decide) ?_
  refine zt_land zy_352 (show q_ins q_k352 21 = some (.land, 0, 0) from rfl) ?_
  refine zt_ladd zy_352 (show q_ins q_k352 22 = some (.ladd, 0, 0) from rfl) ?_
  refine zt_lstore_n zy_352 (show q_ins q_k352 23 = some (.lstore_n 0, 0, 0) from rfl) (by decide) ?_
  refine zt_lload_n zy_352 (show q_ins q_k352 24 = some (.lload_n 0, 0, 0) from rfl) (v := (((v0 - ((zt_us v0 (1 : Int)) &&& (6148914691236517205 : Int64))) &&& (3689348814741910323 : Int64)) + ((zt_us (v0 - ((zt_us v0 (1 : Int)) &&& (6148914691236517205 : Int64))) (2 : Int)) &&& (3689348814741910323 : Int64)))) rfl ?_
  refine zt_lload_n zy_352 (show q_ins q_k352 25 = some (.lload_n 0, 0, 0) from rfl) (v := (((v0 - ((zt_us v0 (1 : Int)) &&& (6148914691236517205 : Int64))) &&& (3689348814741910323 : Int64)) + ((zt_us (v0 - ((zt_us v0 (1 : Int)) &&& (6148914691236517205 : Int64))) (2 : Int)) &&& (3689348814741910323 : Int64)))) rfl ?_
  refine zt_iconst zy_352 (show q_ins q_k352 26 = some (.iconst 4, 0, 0) from rfl) ?_
  refine zt_lushr zy_352 (show q_ins q_k352 27 = some (.lushr, 0, 0) from rfl) ?_
  refine zt_ladd zy_352 (show q_ins q_k352 28 = some (.ladd, 0, 0) from rfl) ?_
  refine zt_ldc2 zy_352 (show q_ins q_k352 29 = some (.ldc2_w 318, 0, 1085102592571150095) from rfl) (v := (1085102592571150095 : Int64)) (by decide) ?_
  refine zt_land zy_352 (show q_ins q_k352 32 = some (.land, 0, 0) from rfl) ?_
  refine zt_lstore_n zy_352 (show q_ins q_k352 33 = some (.lstore_n 0, 0, 0) from rfl) (by decide) ?_
  refine zt_lload_n zy_352 (show q_ins q_k352 34 = some (.lload_n 0, 0, 0) from rfl) (v := (((((v0 - ((zt_us v0 (1 : Int)) &&& (6148914691236517205 : Int64))) &&& (3689348814741910323 : Int64)) + ((zt_us (v0 - ((zt_us v0 (1 : Int)) &&& (6148914691236517205 : Int64))) (2 : Int)) &&& (3689348814741910323 : Int64))) + (zt_us (((v0 - ((zt_us v0 (1 : Int)) &&& (6148914691236517205 : Int64))) &&& (3689348814741910323 : Int64)) + ((zt_us (v0 - ((zt_us v0 (1 : Int)) &&& (6148914691236517205 : Int64))) (2 : Int)) &&& (3689348814741910323 : Int64))) (4 : Int))) &&& (1085102592571150095 : Int64))) rfl ?_
  refine zt_lload_n zy_352 (show q_ins q_k352 35 = some (.lload_n 0, 0, 0) from rfl) (v := (((((v0 - ((zt_us v0 (1 : Int)) &&& (6148914691236517205 : Int64))) &&& (3689348814741910323 : Int64)) + ((zt_us (v0 - ((zt_us v0 (1 : Int)) &&& (6148914691236517205 : Int64))) (2 : Int)) &&& (3689348814741910323 : Int64))) + (zt_us (((v0 - ((zt_us v0 (1 : Int)) &&& (6148914691236517205 : Int64))) &&& (3689348814741910323 : Int64)) + ((zt_us (v0 - ((zt_us v0 (1 : Int)) &&& (6148914691236517205 : Int64))) (2 : Int)) &&& (3689348814741910323 : Int64))) (4 : Int))) &&& (1085102592571150095 : Int64))) rfl ?_
  refine zt_bipush zy_352 (show q_ins q_k352 36 = some (.bipush 8, 0, 0) from rfl) (by decide) ?_
  refine zt_lushr zy_352 (show q_ins q_k352 38 = some (.lushr, 0, 0) from rfl) ?_
  refine zt_ladd zy_352 (show q_ins q_k352 39 = some (.ladd, 0, 0) from rfl) ?_
  refine zt_lstore_n zy_352 (show q_ins q_k352 40 = some (.lstore_n 0, 0, 0) from rfl) (by decide) ?_
  refine zt_lload_n zy_352 (show q_ins q_k352 41 = some (.lload_n 0, 0, 0) from rfl) (v := ((((((v0 - ((zt_us v0 (1 : Int)) &&& (6148914691236517205 : Int64))) &&& (3689348814741910323 : Int64)) + ((zt_us (v0 - ((zt_us v0 (1 : Int)) &&& (6148914691236517205 : Int64))) (2 : Int)) &&& (3689348814741910323 : Int64))) + (zt_us (((v0 - ((zt_us v0 (1 : Int)) &&& (6148914691236517205 : Int64))) &&& (3689348814741910323 : Int64)) + ((zt_us (v0 - ((zt_us v0 (1 : Int)) &&& (6148914691236517205 : Int64))) (2 : Int)) &&& (3689348814741910323 : Int64))) (4 : Int))) &&& (1085102592571150095 : Int64)) + (zt_us (((((v0 - ((zt_us v0 (1 : Int)) &&& (6148914691236517205 : Int64))) &&& (3689348814741910323 : Int64)) + ((zt_us (v0 - ((zt_us v0 (1 : Int)) &&& (6148914691236517205 : Int64))) (2 : Int)) &&& (3689348814741910323 : Int64))) + (zt_us (((v0 - ((zt_us v0 (1 : Int)) &&& (6148914691236517205 : Int64))) &&& (3689348814741910323 : Int64)) + ((zt_us (v0 - ((zt_us v0 (1 : Int)) &&& (6148914691236517205 : Int64))) (2 : Int)) &&& (3689348814741910323 : Int64))) (4 : Int))) &&& (1085102592571150095 : Int64)) (8 : Int)))) rfl ?_
  refine zt_lload_n zy_352 (show q_ins q_k352 42 = some (.lload_n 0, 0, 0) from rfl) (v := ((((((v0 - ((zt_us v0 (1 : Int)) &&& (6148914691236517205 : Int64))) &&& (3689348814741910323 : Int64)) + ((zt_us (v0 - ((zt_us v0 (1 : Int)) &&& (6148914691236517205 : Int64))) (2 : Int)) &&& (3689348814741910323 : Int64))) + (zt_us (((v0 - ((zt_us v0 (1 : Int)) &&& (6148914691236517205 : Int64))) &&& (3689348814741910323 : Int64)) + ((zt_us (v0 - ((zt_us v0 (1 : Int)) &&& (6148914691236517205 : Int64))) (2 : Int)) &&& (3689348814741910323 : Int64))) (4 : Int))) &&& (1085102592571150095 : Int64)) + (zt_us (((((v0 - ((zt_us v0 (1 : Int)) &&& (6148914691236517205 : Int64))) &&& (3689348814741910323 : Int64)) + ((zt_us (v0 - ((zt_us v0 (1 : Int)) &&& (6148914691236517205 : Int64))) (2 : Int)) &&& (3689348814741910323 : Int64))) + (zt_us (((v0 - ((zt_us v0 (1 : Int)) &&& (6148914691236517205 : Int64))) &&& (3689348814741910323 : Int64)) + ((zt_us (v0 - ((zt_us v0 (1 : Int)) &&& (6148914691236517205 : Int64))) (2 : Int)) &&& (3689348814741910323 : Int64))) (4 : Int))) &&& (1085102592571150095 : Int64)) (8 : Int)))) rfl ?_
  refine zt_bipush zy_352 (show q_ins q_k352 43 = some (.bipush 16, 0, 0) from rfl) (by decide) ?_
  refine zt_lushr zy_352 (show q_ins q_k352 45 = some (.lushr, 0, 0) from rfl) ?_
  refine zt_ladd zy_352 (show q_ins q_k352 46 = some (.ladd, 0, 0) from rfl) ?_
  refine zt_lstore_n zy_352 (show q_ins q_k352 47 = some (.lstore_n 0, 0, 0) from rfl) (by decide) ?_
  refine zt_lload_n zy_352 (show q_ins q_k352 48 = some (.lload_n 0, 0, 0) from rfl) (v := (((((((v0 - ((zt_us v0 (1 : Int)) &&& (6148914691236517205 : Int64))) &&& (3689348814741910323 : Int64)) + ((zt_us (v0 - ((zt_us v0 (1 : Int)) &&& (6148914691236517205 : Int64))) (2 : Int)) &&& (3689348814741910323 : Int64))) + (zt_us (((v0 - ((zt_us v0 (1 : Int)) &&& (6148914691236517205 : Int64))) &&& (3689348814741910323 : Int64)) + ((zt_us (v0 - ((zt_us v0 (1 : Int)) &&& (6148914691236517205 : Int64))) (2 : Int)) &&& (3689348814741910323 : Int64))) (4 : Int))) &&& (1085102592571150095 : Int64)) + (zt_us (((((v0 - ((zt_us v0 (1 : Int)) &&& (6148914691236517205 : Int64))) &&& (3689348814741910323 : Int64)) + ((zt_us (v0 - ((zt_us v0 (1 : Int)) &&& (6148914691236517205 : Int64))) (2 : Int)) &&& (3689348814741910323 : Int64))) + (zt_us (((v0 - ((zt_us v0 (1 : Int)) &&& (6148914691236517205 : Int64))) &&& (3689348814741910323 : Int64)) + ((zt_us (v0 - ((zt_us v0 (1 : Int)) &&& (6148914691236517205 : Int64))) (2 : Int)) &&& (3689348814741910323 : Int64))) (4 : Int))) &&& (1085102592571150095 : Int64)) (8 : Int))) + (zt_us ((((((v0 - ((zt_us v0 (1 : Int)) &&& (6148914691236517205 : Int64))) &&& (3689348814741910323 : Int64)) + ((zt_us (v0 - ((zt_us v0 (1 : Int)) &&& (6148914691236517205 : Int64))) (2 : Int)) &&& (3689348814741910323 : Int64))) + (zt_us (((v0 - ((zt_us v0 (1 : Int)) &&& (6148914691236517205 : Int64))) &&& (3689348814741910323 : Int64)) + ((zt_us (v0 - ((zt_us v0 (1 : Int)) &&& (6148914691236517205 : Int64))) (2 : Int)) &&& (3689348814741910323 : Int64))) (4 : Int))) &&& (1085102592571150095 : Int64)) + (zt_us (((((v0 - ((zt_us v0 (1 : Int)) &&& (6148914691236517205 : Int64))) &&& (3689348814741910323 : Int64)) + ((zt_us (v0 - ((zt_us v0 (1 : Int)) &&& (6148914691236517205 : Int64))) (2 : Int)) &&& (3689348814741910323 : Int64))) + (zt_us (((v0 - ((zt_us v0 (1 : Int)) &&& (6148914691236517205 : Int64))) &&& (3689348814741910323 : Int64)) + ((zt_us (v0 - ((zt_us v0 (1 : Int)) &&& (6148914691236517205 : Int64))) (2 : Int)) &&& (3689348814741910323 : Int64))) (4 : Int))) &&& (1085102592571150095 : Int64)) (8 : Int))) (16 : Int)))) rfl ?_
  refine zt_lload_n zy_352 (show q_ins q_k352 49 = some (.lload_n 0, 0, 0) from rfl) (v := (((((((v0 - ((zt_us v0 (1 : Int)) &&& (6148914691236517205 : Int64))) &&& (3689348814741910323 : Int64)) + ((zt_us (v0 - ((zt_us v0 (1 : Int)) &&& (6148914691236517205 : Int64))) (2 : Int)) &&& (3689348814741910323 : Int64))) + (zt_us (((v0 - ((zt_us v0 (1 : Int)) &&& (6148914691236517205 : Int64))) &&& (3689348814741910323 : Int64)) + ((zt_us (v0 - ((zt_us v0 (1 : Int)) &&& (6148914691236517205 : Int64))) (2 : Int)) &&& (3689348814741910323 : Int64))) (4 : Int))) &&& (1085102592571150095 : Int64)) + (zt_us (((((v0 - ((zt_us v0 (1 : Int)) &&& (6148914691236517205 : Int64))) &&& (3689348814741910323 : Int64)) + ((zt_us (v0 - ((zt_us v0 (1 : Int)) &&& (6148914691236517205 : Int64))) (2 : Int)) &&& (3689348814741910323 : Int64))) + (zt_us (((v0 - ((zt_us v0 (1 : Int)) &&& (6148914691236517205 : Int64))) &&& (3689348814741910323 : Int64)) + ((zt_us (v0 - ((zt_us v0 (1 : Int)) &&& (6148914691236517205 : Int64))) (2 : Int)) &&& (3689348814741910323 : Int64))) (4 : Int))) &&& (1085102592571150095 : Int64)) (8 : Int))) + (zt_us ((((((v0 - ((zt_us v0 (1 : Int)) &&& (6148914691236517205 : Int64))) &&& (3689348814741910323 : Int64)) + ((zt_us (v0 - ((zt_us v0 (1 : Int)) &&& (6148914691236517205 : Int64))) (2 : Int)) &&& (3689348814741910323 : Int64))) + (zt_us (((v0 - ((zt_us v0 (1 : Int)) &&& (6148914691236517205 : Int64))) &&& (3689348814741910323 : Int64)) + ((zt_us (v0 - ((zt_us v0 (1 : Int)) &&& (6148914691236517205 : Int64))) (2 : Int)) &&& (3689348814741910323 : Int64))) (4 : Int))) &&& (1085102592571150095 : Int64)) + (zt_us (((((v0 - ((zt_us v0 (1 : Int)) &&& (6148914691236517205 : Int64))) &&& (3689348814741910323 : Int64)) + ((zt_us (v0 - ((zt_us v0 (1 : Int)) &&& (6148914691236517205 : Int64))) (2 : Int)) &&& (3689348814741910323 : Int64))) + (zt_us (((v0 - ((zt_us v0 (1 : Int)) &&& (6148914691236517205 : Int64))) &&& (3689348814741910323 : Int64)) + ((zt_us (v0 - ((zt_us v0 (1 : Int)) &&& (6148914691236517205 : Int64))) (2 : Int)) &&& (3689348814741910323 : Int64))) (4 : Int))) &&& (1085102592571150095 : Int64)) (8 : Int))) (16 : Int)))) rfl ?_
  refine zt_bipush zy_352 (show q_ins q_k352 50 = some (.bipush 32, 0, 0) from rfl) (by decide) ?_
  refine zt_lushr zy_352 (show q_ins q_k352 52 = some (.lushr, 0, 0) from rfl) ?_
  refine zt_ladd zy_352 (show q_ins q_k352 53 = some (.ladd, 0, 0) from rfl) ?_
  refine zt_lstore_n zy_352 (show q_ins q_k352 54 = some (.lstore_n 0, 0, 0) from rfl) (by decide) ?_
  refine zt_lload_n zy_352 (show q_ins q_k352 55 = some (.lload_n 0, 0, 0) from rfl) (v := ((((((((v0 - ((zt_us v0 (1 : Int)) &&& (6148914691236517205 : Int64))) &&& (3689348814741910323 : Int64)) + ((zt_us (v0 - ((zt_us v0 (1 : Int)) &&& (6148914691236517205 : Int64))) (2 : Int)) &&& (3689348814741910323 : Int64))) + (zt_us (((v0 - ((zt_us v0 (1 : Int)) &&& (6148914691236517205 : Int64))) &&& (3689348814741910323 : Int64)) + ((zt_us (v0 - ((zt_us v0 (1 : Int)) &&& (6148914691236517205 : Int64))) (2 : Int)) &&& (3689348814741910323 : Int64))) (4 : Int))) &&& (1085102592571150095 : Int64)) + (zt_us (((((v0 - ((zt_us v0 (1 : Int)) &&& (6148914691236517205 : Int64))) &&& (3689348814741910323 : Int64)) + ((zt_us (v0 - ((zt_us v0 (1 : Int)) &&& (6148914691236517205 : Int64))) (2 : Int)) &&& (3689348814741910323 : Int64))) + (zt_us (((v0 - ((zt_us v0 (1 : Int)) &&& (6148914691236517205 : Int64))) &&& (3689348814741910323 : Int64)) + ((zt_us (v0 - ((zt_us v0 (1 : Int)) &&& (6148914691236517205 : Int64))) (2 : Int)) &&& (3689348814741910323 : Int64))) (4 : Int))) &&& (1085102592571150095 : Int64)) (8 : Int))) + (zt_us ((((((v0 - ((zt_us v0 (1 : Int)) &&& (6148914691236517205 : Int64))) &&& (3689348814741910323 : Int64)) + ((zt_us (v0 - ((zt_us v0 (1 : Int)) &&& (6148914691236517205 : Int64))) (2 : Int)) &&& (3689348814741910323 : Int64))) + (zt_us (((v0 - ((zt_us v0 (1 : Int)) &&& (6148914691236517205 : Int64))) &&& (3689348814741910323 : Int64)) + ((zt_us (v0 - ((zt_us v0 (1 : Int)) &&& (6148914691236517205 : Int64))) (2 : Int)) &&& (3689348814741910323 : Int64))) (4 : Int))) &&& (1085102592571150095 : Int64)) + (zt_us (((((v0 - ((zt_us v0 (1 : Int)) &&& (6148914691236517205 : Int64))) &&& (3689348814741910323 : Int64)) + ((zt_us (v0 - ((zt_us v0 (1 : Int)) &&& (6148914691236517205 : Int64))) (2 : Int)) &&& (3689348814741910323 : Int64))) + (zt_us (((v0 - ((zt_us v0 (1 : Int)) &&& (6148914691236517205 : Int64))) &&& (3689348814741910323 : Int64)) + ((zt_us (v0 - ((zt_us v0 (1 : Int)) &&& (6148914691236517205 : Int64))) (2 : Int)) &&& (3689348814741910323 : Int64))) (4 : Int))) &&& (1085102592571150095 : Int64)) (8 : Int))) (16 : Int))) + (zt_us (((((((v0 - ((zt_us v0 (1 : Int)) &&& (6148914691236517205 : Int64))) &&& (3689348814741910323 : Int64)) + ((zt_us (v0 - ((zt_us v0 (1 : Int)) &&& (6148914691236517205 : Int64))) (2 : Int)) &&& (3689348814741910323 : Int64))) + (zt_us (((v0 - ((zt_us v0 (1 : Int)) &&& (6148914691236517205 : Int64))) &&& (3689348814741910323 : Int64)) + ((zt_us (v0 - ((zt_us v0 (1 : Int)) &&& (6148914691236517205 : Int64))) (2 : Int)) &&& (3689348814741910323 : Int64))) (4 : Int))) &&& (1085102592571150095 : Int64)) + (zt_us (((((v0 - ((zt_us v0 (1 : Int)) &&& (6148914691236517205 : Int64))) &&& (3689348814741910323 : Int64)) + ((zt_us (v0 - ((zt_us v0 (1 : Int)) &&& (6148914691236517205 : Int64))) (2 : Int)) &&& (3689348814741910323 : Int64))) + (zt_us (((v0 - ((zt_us v0 (1 : Int)) &&& (6148914691236517205 : Int64))) &&& (3689348814741910323 : Int64)) + ((zt_us (v0 - ((zt_us v0 (1 : Int)) &&& (6148914691236517205 : Int64))) (2 : Int)) &&& (3689348814741910323 : Int64))) (4 : Int))) &&& (1085102592571150095 : Int64)) (8 : Int))) + (zt_us ((((((v0 - ((zt_us v0 (1 : Int)) &&& (6148914691236517205 : Int64))) &&& (3689348814741910323 : Int64)) + ((zt_us (v0 - ((zt_us v0 (1 : Int)) &&& (6148914691236517205 : Int64))) (2 : Int)) &&& (3689348814741910323 : Int64))) + (zt_us (((v0 - ((zt_us v0 (1 : Int)) &&& (6148914691236517205 : Int64))) &&& (3689348814741910323 : Int64)) + ((zt_us (v0 - ((zt_us v0 (1 : Int)) &&& (6148914691236517205 : Int64))) (2 : Int)) &&& (3689348814741910323 : Int64))) (4 : Int))) &&& (1085102592571150095 : Int64)) + (zt_us (((((v0 - ((zt_us v0 (1 : Int)) &&& (6148914691236517205 : Int64))) &&& (3689348814741910323 : Int64)) + ((zt_us (v0 - ((zt_us v0 (1 : Int)) &&& (6148914691236517205 : Int64))) (2 : Int)) &&& (3689348814741910323 : Int64))) + (zt_us (((v0 - ((zt_us v0 (1 : Int)) &&& (6148914691236517205 : Int64))) &&& (3689348814741910323 : Int64)) + ((zt_us (v0 - ((zt_us v0 (1 : Int)) &&& (6148914691236517205 : Int64))) (2 : Int)) &&& (3689348814741910323 : Int64))) (4 : Int))) &&& (1085102592571150095 : Int64)) (8 : Int))) (16 : Int))) (32 : Int)))) rfl ?_
  refine zt_l2i zy_352 (show q_ins q_k352 56 = some (.l2i, 0, 0) from rfl) ?_
  refine zt_bipush zy_352 (show q_ins q_k352 57 = some (.bipush 127, 0, 0) from rfl) (by decide) ?_
  refine zt_iand zy_352 (show q_ins q_k352 59 = some (.iand, 0, 0) from rfl) ?_
  cases h
  exact zt_iret zy_352 (show q_ins q_k352 60 = some (.ireturn, 0, 0) from rfl)
theorem S_Tr_place_56 {X : q_X} {t0 : Nat} {t1 : Nat} (ht0 : t0 ∈ zt_tris) (ht1 : t1 ∈ zt_sets) : ∀  (σ : zt_S) (o : (Unit × zt_S)), F_Tr_place_56 t0 t1  σ = some o → zt_Ex X 2 111 56 [(0, .ref t0), (1, .ref t1)] [] (zt_M T σ) (zo_V T o) := by
  intro  σ o  h
  unfold F_Tr_place_56 at h
  refine zt_aload_n zy_111 (show q_ins q_k111 56 = some (.aload_n 0, 0, 0) from rfl) (v := t0) rfl ?_
  refine zt_dup zy_111 (show q_ins q_k111 57 = some (.dup, 0, 0) from rfl) rfl ?_
  refine zt_getI zy_111 (show q_ins q_k111 58 = some (.getfield 30, 9, 2) from rfl) (j := 2) (zk_K_2 ht0) rfl ?_
  refine zt_iconst zy_111 (show q_ins q_k111 61 = some (.iconst 1, 0, 0) from rfl) ?_
  refine zt_iadd zy_111 (show q_ins q_k111 62 = some (.iadd, 0, 0) from rfl) ?_
  obtain ⟨s9, hs9, h⟩ := zt_letE h
  refine zt_putI zy_111 (show q_ins q_k111 63 = some (.putfield 30, 9, 2) from rfl) (j := 2) (zk_K_2 ht0) rfl rfl rfl ?_
  rw [← hs9]
  refine zt_aload_n zy_111 (show q_ins q_k111 66 = some (.aload_n 0, 0, 0) from rfl) (v := t0) rfl ?_
  refine zt_aload_n zy_111 (show q_ins q_k111 67 = some (.aload_n 1, 0, 0) from rfl) (v := t1) rfl ?_
  refine zt_aload_n zy_111 (show q_ins q_k111 68 = some (.aload_n 0, 0, 0) from rfl) (v := t0) rfl ?_
  refine zt_getI zy_111 (show q_ins q_k111 69 = some (.getfield 27, 9, 1) from rfl) (j := 1) (zk_K_1 ht0) rfl ?_
  obtain ⟨a10, s11, hca10, h⟩ := zt_bdE h
  refine zt_callV (d := 1) zy_111 (show q_ins q_k111 72 = some (.invokevirtual 52, 37, 1) from rfl) zy_37 (by decide) ⟨zq_lt (by decide), by decide⟩ rfl (by simp [Value.category]) (by simp [lg_sl, Value.category]) (zt_rcv (zc_S ht1)) (zt_dm (by decide) (S_Su_behind ht1 hca10)) ?_
  obtain ⟨s12, hs12, h⟩ := zt_letE h
  refine zt_putI zy_111 (show q_ins q_k111 75 = some (.putfield 27, 9, 1) from rfl) (j := 1) (zk_K_1 ht0) rfl rfl rfl ?_
  rw [← hs12]
  cases h
  exact zt_ret zy_111 (show q_ins q_k111 78 = some (.return_, 0, 0) from rfl)
theorem S_Tr_place_38 {X : q_X} {t0 : Nat} {t1 : Nat} (ht0 : t0 ∈ zt_tris) (ht1 : t1 ∈ zt_sets) : ∀ (v2 : Int) (v3 : Int) (σ : zt_S) (o : (Unit × zt_S)), F_Tr_place_38 t0 t1 v2 v3 σ = some o → zt_Ex X 2 111 38 [(0, .ref t0), (1, .ref t1), (2, .int (Int32.ofInt v2)), (3, .int (Int32.ofInt v3))] [] (zt_M T σ) (zo_V T o) := by
  intro v2 v3 σ o  h
  unfold F_Tr_place_38 at h
  refine zt_aload_n zy_111 (show q_ins q_k111 38 = some (.aload_n 0, 0, 0) from rfl) (v := t0) rfl ?_
  refine zt_iload_n zy_111 (show q_ins q_k111 39 = some (.iload_n 3, 0, 0) from rfl) (v := Int32.ofInt v3) rfl ?_
  obtain ⟨s6, hs6, h⟩ := zt_letE h
  refine zt_putI zy_111 (show q_ins q_k111 40 = some (.putfield 33, 9, 4) from rfl) (j := 4) (zk_K_4 ht0) rfl rfl rfl ?_
  rw [← hs6]
  refine zt_aload_n zy_111 (show q_ins q_k111 43 = some (.aload_n 0, 0, 0) from rfl) (v := t0) rfl ?_
  refine zt_iload_n zy_111 (show q_ins q_k111 44 = some (.iload_n 2, 0, 0) from rfl) (v := Int32.ofInt v2) rfl ?_
  obtain ⟨s7, hs7, h⟩ := zt_letE h
  refine zt_putI zy_111 (show q_ins q_k111 45 = some (.putfield 15, 9, 5) from rfl) (j := 5) (zk_K_5 ht0) rfl rfl rfl ?_
  rw [← hs7]
  refine zt_aload_n zy_111 (show q_ins q_k111 48 = some (.aload_n 0, 0, 0) from rfl) (v := t0) rfl ?_
  refine zt_aload_n zy_111 (show q_ins q_k111 49 = some (.aload_n 0, 0, 0) from rfl) (v := t0) rfl ?_
  refine zt_getI zy_111 (show q_ins q_k111 50 = some (.getfield 27, 9, 1) from rfl) (j := 1) (zk_K_1 ht0) rfl ?_
  obtain ⟨s8, hs8, h⟩ := zt_letE h
  refine zt_putI zy_111 (show q_ins q_k111 53 = some (.putfield 18, 9, 6) from rfl) (j := 6) (zk_K_6 ht0) rfl rfl rfl ?_
  rw [← hs8]
  exact zt_wk (zt_cov_cons rfl (zt_cov_cons rfl (zt_cov_nil))) (S_Tr_place_56  ht0 ht1 _ _ h)
theorem S_Tr_place_23 {X : q_X} {t0 : Nat} {t1 : Nat} (ht0 : t0 ∈ zt_tris) (ht1 : t1 ∈ zt_sets) : ∀ (v2 : Int) (v3 : Int) (σ : zt_S) (o : (Unit × zt_S)), F_Tr_place_23 t0 t1 v2 v3 σ = some o → zt_Ex X 2 111 23 [(0, .ref t0), (1, .ref t1), (2, .int (Int32.ofInt v2)), (3, .int (Int32.ofInt v3))] [] (zt_M T σ) (zo_V T o) := by
  intro v2 v3 σ o  h
  unfold F_Tr_place_23 at h
  refine zt_aload_n zy_111 (show q_ins q_k111 23 = some (.aload_n 0, 0, 0) from rfl) (v := t0) rfl ?_
  refine zt_getI zy_111 (show q_ins q_k111 24 = some (.getfield 30, 9, 2) from rfl) (j := 2) (zk_K_2 ht0) rfl ?_
  obtain ⟨hg, h⟩ := zt_ckE h
  refine zt_if_eq zy_111 (show q_ins q_k111 27 = some (.ifCond .eq 11, 38, 0) from rfl) (hg) (fun hc => ?_) (fun hc => ?_)
  · rw [if_pos hc] at h
    exact zt_wk (zt_cov_cons rfl (zt_cov_cons rfl (zt_cov_cons rfl (zt_cov_cons rfl (zt_cov_nil))))) (S_Tr_place_38  ht0 ht1 _ _ _ _ h)
  · rw [if_neg hc] at h
    refine zt_iload_n zy_111 (show q_ins q_k111 30 = some (.iload_n 3, 0, 0) from rfl) (v := Int32.ofInt v3) rfl ?_
    refine zt_aload_n zy_111 (show q_ins q_k111 31 = some (.aload_n 0, 0, 0) from rfl) (v := t0) rfl ?_
    refine zt_getI zy_111 (show q_ins q_k111 32 = some (.getfield 33, 9, 4) from rfl) (j := 4) (zk_K_4 ht0) rfl ?_
    obtain ⟨hg, h⟩ := zt_ckE h
    refine zt_icmp_le zy_111 (show q_ins q_k111 35 = some (.if_icmp .le 21, 56, 0) from rfl) (⟨hg.1, hg.2⟩) (fun hc => ?_) (fun hc => ?_)
    · rw [if_pos hc] at h
      exact zt_wk (zt_cov_cons rfl (zt_cov_cons rfl (zt_cov_cons rfl (zt_cov_cons rfl (zt_cov_nil))))) (S_Tr_place_38  ht0 ht1 _ _ _ _ h)
    · rw [if_neg hc] at h
      exact zt_wk (zt_cov_cons rfl (zt_cov_cons rfl (zt_cov_nil))) (S_Tr_place_56  ht0 ht1 _ _ h)
theorem S_Tr_place {X : q_X} {t0 : Nat} {t1 : Nat} (ht0 : t0 ∈ zt_tris) (ht1 : t1 ∈ zt_sets) {v2 : Int} {σ : zt_S} {o : (Unit × zt_S)} (h : F_Tr_place t0 t1 v2 σ = some o) : zt_Ex X 2 111 0 (lv_args 0 [.ref t0, .ref t1, .int (Int32.ofInt v2)]) [] (zt_M T σ) (zo_V T o) := by
  unfold F_Tr_place at h
  refine zt_aload_n zy_111 (show q_ins q_k111 0 = some (.aload_n 0, 0, 0) from rfl) (v := t0) rfl ?_
  refine zt_aload_n zy_111 (show q_ins q_k111 1 = some (.aload_n 1, 0, 0) from rfl) (v := t1) rfl ?_
  refine zt_iload_n zy_111 (show q_ins q_k111 2 = some (.iload_n 2, 0, 0) from rfl) (v := Int32.ofInt v2) rfl ?_
  obtain ⟨a1, s2, hca1, h⟩ := zt_bdE h
  refine zt_callV (d := 1) zy_111 (show q_ins q_k111 3 = some (.invokevirtual 48, 108, 2) from rfl) zy_108 (by decide) ⟨zq_lt (by decide), by decide⟩ rfl (by simp [Value.category]) (by simp [lg_sl, Value.category]) (zt_rcv (zc_K ht0)) (zt_dm (by decide) (S_Tr_powerOf ht0 ht1 hca1)) ?_
  refine zt_istore_n zy_111 (show q_ins q_k111 6 = some (.istore_n 3, 0, 0) from rfl) (by decide) ?_
  refine zt_aload_n zy_111 (show q_ins q_k111 7 = some (.aload_n 0, 0, 0) from rfl) (v := t0) rfl ?_
  refine zt_getI zy_111 (show q_ins q_k111 8 = some (.getfield 30, 9, 2) from rfl) (j := 2) (zk_K_2 ht0) rfl ?_
  obtain ⟨hg, h⟩ := zt_ckE h
  refine zt_if_ne zy_111 (show q_ins q_k111 11 = some (.ifCond .ne 12, 23, 0) from rfl) (hg) (fun hc => ?_) (fun hc => ?_)
  · rw [if_pos hc] at h
    refine zt_aload_n zy_111 (show q_ins q_k111 14 = some (.aload_n 0, 0, 0) from rfl) (v := t0) rfl ?_
    refine zt_aload_n zy_111 (show q_ins q_k111 15 = some (.aload_n 1, 0, 0) from rfl) (v := t1) rfl ?_
    refine zt_iload_n zy_111 (show q_ins q_k111 16 = some (.iload_n 2, 0, 0) from rfl) (v := Int32.ofInt v2) rfl ?_
    obtain ⟨a3, s4, hca3, h⟩ := zt_bdE h
    refine zt_callV (d := 1) zy_111 (show q_ins q_k111 17 = some (.invokevirtual 39, 33, 1) from rfl) zy_33 (by decide) ⟨zq_lt (by decide), by decide⟩ rfl (by simp [Value.category]) (by simp [lg_sl, Value.category]) (zt_rcv (zc_S ht1)) (zt_dm (by decide) (S_Su_suitOf ht1 hca3)) ?_
    obtain ⟨s5, hs5, h⟩ := zt_letE h
    refine zt_putI zy_111 (show q_ins q_k111 20 = some (.putfield 9, 9, 3) from rfl) (j := 3) (zk_K_3 ht0) rfl rfl rfl ?_
    rw [← hs5]
    exact zt_wk (zt_cov_cons rfl (zt_cov_cons rfl (zt_cov_cons rfl (zt_cov_cons rfl (zt_cov_nil))))) (S_Tr_place_23  ht0 ht1 _ _ _ _ h)
  · rw [if_neg hc] at h
    exact zt_wk (zt_cov_cons rfl (zt_cov_cons rfl (zt_cov_cons rfl (zt_cov_cons rfl (zt_cov_nil))))) (S_Tr_place_23  ht0 ht1 _ _ _ _ h)
theorem S_Tr_dim_63 {X : q_X} {t0 : Nat} {t1 : Nat} (ht0 : t0 ∈ zt_tris) (ht1 : t1 ∈ zt_sets) : ∀ (x0 : Int) (σ : zt_S) (o : (Unit × zt_S)), F_Tr_dim_63 t0 t1 x0 σ = some o → zt_Ex X 1 113 63 [] [.int (Int32.ofInt x0), .ref t0] (zt_M T σ) (zo_V T o) := by
  intro x0 σ o  h
  unfold F_Tr_dim_63 at h
  obtain ⟨s3, hs3, h⟩ := zt_letE h
  refine zt_putI zy_113 (show q_ins q_k113 63 = some (.putfield 36, 9, 8) from rfl) (j := 8) (zk_K_8 ht0) rfl rfl rfl ?_
  rw [← hs3]
  cases h
  exact zt_ret zy_113 (show q_ins q_k113 66 = some (.return_, 0, 0) from rfl)
theorem S_Tr_dim_47 {X : q_X} {t0 : Nat} {t1 : Nat} (ht0 : t0 ∈ zt_tris) (ht1 : t1 ∈ zt_sets) : ∀ (v3 : Int) (x0 : Int) (σ : zt_S) (o : (Unit × zt_S)), F_Tr_dim_47 t0 t1 v3 x0 σ = some o → zt_Ex X 1 113 47 [(0, .ref t0), (1, .ref t1), (3, .int (Int32.ofInt v3))] [.int (Int32.ofInt x0), .ref t0] (zt_M T σ) (zo_V T o) := by
  intro v3 x0 σ o  h
  unfold F_Tr_dim_47 at h
  obtain ⟨s2, hs2, h⟩ := zt_letE h
  refine zt_putI zy_113 (show q_ins q_k113 47 = some (.putfield 21, 9, 7) from rfl) (j := 7) (zk_K_7 ht0) rfl rfl rfl ?_
  rw [← hs2]
  refine zt_aload_n zy_113 (show q_ins q_k113 50 = some (.aload_n 0, 0, 0) from rfl) (v := t0) rfl ?_
  refine zt_iload_n zy_113 (show q_ins q_k113 51 = some (.iload_n 3, 0, 0) from rfl) (v := Int32.ofInt v3) rfl ?_
  obtain ⟨hg, h⟩ := zt_ckE h
  refine zt_if_eq zy_113 (show q_ins q_k113 52 = some (.ifCond .eq 10, 62, 0) from rfl) (hg) (fun hc => ?_) (fun hc => ?_)
  · rw [if_pos hc] at h
    refine zt_iconst zy_113 (show q_ins q_k113 62 = some (.iconst 0, 0, 0) from rfl) ?_
    exact zt_wk (zt_cov_nil) (S_Tr_dim_63  ht0 ht1 _ _ _ h)
  · rw [if_neg hc] at h
    refine zt_aload_n zy_113 (show q_ins q_k113 55 = some (.aload_n 1, 0, 0) from rfl) (v := t1) rfl ?_
    refine zt_getI zy_113 (show q_ins q_k113 56 = some (.getfield 69, 4, 3) from rfl) (j := 3) (zk_S_3 ht1) rfl ?_
    refine zt_goto zy_113 (show q_ins q_k113 59 = some (.goto 4, 63, 0) from rfl) ?_
    exact zt_wk (zt_cov_nil) (S_Tr_dim_63  ht0 ht1 _ _ _ h)
theorem S_Tr_dim {X : q_X} {t0 : Nat} {t1 : Nat} (ht0 : t0 ∈ zt_tris) (ht1 : t1 ∈ zt_sets) {v2 : Int} {v3 : Int} {σ : zt_S} {o : (Unit × zt_S)} (h : F_Tr_dim t0 t1 v2 v3 σ = some o) : zt_Ex X 1 113 0 (lv_args 0 [.ref t0, .ref t1, .int (Int32.ofInt v2), .int (Int32.ofInt v3)]) [] (zt_M T σ) (zo_V T o) := by
  unfold F_Tr_dim at h
  refine zt_aload_n zy_113 (show q_ins q_k113 0 = some (.aload_n 0, 0, 0) from rfl) (v := t0) rfl ?_
  refine zt_getI zy_113 (show q_ins q_k113 1 = some (.getfield 36, 9, 8) from rfl) (j := 8) (zk_K_8 ht0) rfl ?_
  obtain ⟨hg, h⟩ := zt_ckE h
  refine zt_if_ne zy_113 (show q_ins q_k113 4 = some (.ifCond .ne 4, 8, 0) from rfl) (hg) (fun hc => ?_) (fun hc => ?_)
  · rw [if_pos hc] at h
    cases h
    exact zt_ret zy_113 (show q_ins q_k113 7 = some (.return_, 0, 0) from rfl)
  · rw [if_neg hc] at h
    refine zt_aload_n zy_113 (show q_ins q_k113 8 = some (.aload_n 0, 0, 0) from rfl) (v := t0) rfl ?_
    refine zt_iconst zy_113 (show q_ins q_k113 9 = some (.iconst 0, 0, 0) from rfl) ?_
    refine zt_aload_n zy_113 (show q_ins q_k113 10 = some (.aload_n 0, 0, 0) from rfl) (v := t0) rfl ?_
    refine zt_getI zy_113 (show q_ins q_k113 11 = some (.getfield 36, 9, 8) from rfl) (j := 8) (zk_K_8 ht0) rfl ?_
    refine zt_iload_n zy_113 (show q_ins q_k113 14 = some (.iload_n 2, 0, 0) from rfl) (v := Int32.ofInt v2) rfl ?_
    refine zt_isub zy_113 (show q_ins q_k113 15 = some (.isub, 0, 0) from rfl) ?_
    obtain ⟨hg, h⟩ := zt_ckE h
    refine zt_max zy_113 (show q_ins q_k113 16 = some (.invokestatic 63, 910, 2) from rfl) rfl ⟨by decide, hg⟩ (by simp [Value.category]) ?_
    obtain ⟨s1, hs1, h⟩ := zt_letE h
    refine zt_putI zy_113 (show q_ins q_k113 19 = some (.putfield 36, 9, 8) from rfl) (j := 8) (zk_K_8 ht0) rfl rfl rfl ?_
    rw [← hs1]
    refine zt_aload_n zy_113 (show q_ins q_k113 22 = some (.aload_n 0, 0, 0) from rfl) (v := t0) rfl ?_
    refine zt_getI zy_113 (show q_ins q_k113 23 = some (.getfield 36, 9, 8) from rfl) (j := 8) (zk_K_8 ht0) rfl ?_
    obtain ⟨hg, h⟩ := zt_ckE h
    refine zt_if_le zy_113 (show q_ins q_k113 26 = some (.ifCond .le 4, 30, 0) from rfl) (hg) (fun hc => ?_) (fun hc => ?_)
    · rw [if_pos hc] at h
      cases h
      exact zt_ret zy_113 (show q_ins q_k113 29 = some (.return_, 0, 0) from rfl)
    · rw [if_neg hc] at h
      refine zt_aload_n zy_113 (show q_ins q_k113 30 = some (.aload_n 0, 0, 0) from rfl) (v := t0) rfl ?_
      refine zt_iload_n zy_113 (show q_ins q_k113 31 = some (.iload_n 3, 0, 0) from rfl) (v := Int32.ofInt v3) rfl ?_
      obtain ⟨hg, h⟩ := zt_ckE h
      refine zt_if_eq zy_113 (show q_ins q_k113 32 = some (.ifCond .eq 14, 46, 0) from rfl) (hg) (fun hc => ?_) (fun hc => ?_)
      · rw [if_pos hc] at h
        refine zt_iconst zy_113 (show q_ins q_k113 46 = some (.iconst (-1), 0, 0) from rfl) ?_
        exact zt_wk (zt_cov_cons rfl (zt_cov_cons rfl (zt_cov_cons rfl (zt_cov_nil)))) (S_Tr_dim_47  ht0 ht1 _ _ _ _ h)
      · rw [if_neg hc] at h
        refine zt_aload_n zy_113 (show q_ins q_k113 35 = some (.aload_n 1, 0, 0) from rfl) (v := t1) rfl ?_
        refine zt_aload_n zy_113 (show q_ins q_k113 36 = some (.aload_n 0, 0, 0) from rfl) (v := t0) rfl ?_
        refine zt_getI zy_113 (show q_ins q_k113 37 = some (.getfield 15, 9, 5) from rfl) (j := 5) (zk_K_5 ht0) rfl ?_
        obtain ⟨a4, s5, hca4, h⟩ := zt_bdE h
        refine zt_callV (d := 0) zy_113 (show q_ins q_k113 40 = some (.invokevirtual 39, 33, 1) from rfl) zy_33 (by decide) ⟨zq_lt (by decide), by decide⟩ rfl (by simp [Value.category]) (by simp [lg_sl, Value.category]) (zt_rcv (zc_S ht1)) (zt_dm (by decide) (S_Su_suitOf ht1 hca4)) ?_
        refine zt_goto zy_113 (show q_ins q_k113 43 = some (.goto 4, 47, 0) from rfl) ?_
        exact zt_wk (zt_cov_cons rfl (zt_cov_cons rfl (zt_cov_cons rfl (zt_cov_nil)))) (S_Tr_dim_47  ht0 ht1 _ _ _ _ h)
theorem S_Tr_begin {X : q_X} {t0 : Nat} (ht0 : t0 ∈ zt_tris) {v1 : Int} {σ : zt_S} {o : (Unit × zt_S)} (h : F_Tr_begin t0 v1 σ = some o) : zt_Ex X 0 107 0 (lv_args 0 [.ref t0, .int (Int32.ofInt v1)]) [] (zt_M T σ) (zo_V T o) := by
  unfold F_Tr_begin at h
  refine zt_aload_n zy_107 (show q_ins q_k107 0 = some (.aload_n 0, 0, 0) from rfl) (v := t0) rfl ?_
  refine zt_iload_n zy_107 (show q_ins q_k107 1 = some (.iload_n 1, 0, 0) from rfl) (v := Int32.ofInt v1) rfl ?_
  obtain ⟨s1, hs1, h⟩ := zt_letE h
  refine zt_putI zy_107 (show q_ins q_k107 2 = some (.putfield 24, 9, 0) from rfl) (j := 0) (zk_K_0 ht0) rfl rfl rfl ?_
  rw [← hs1]
  refine zt_aload_n zy_107 (show q_ins q_k107 5 = some (.aload_n 0, 0, 0) from rfl) (v := t0) rfl ?_
  refine zt_iload_n zy_107 (show q_ins q_k107 6 = some (.iload_n 1, 0, 0) from rfl) (v := Int32.ofInt v1) rfl ?_
  obtain ⟨s2, hs2, h⟩ := zt_letE h
  refine zt_putI zy_107 (show q_ins q_k107 7 = some (.putfield 27, 9, 1) from rfl) (j := 1) (zk_K_1 ht0) rfl rfl rfl ?_
  rw [← hs2]
  refine zt_aload_n zy_107 (show q_ins q_k107 10 = some (.aload_n 0, 0, 0) from rfl) (v := t0) rfl ?_
  refine zt_iconst zy_107 (show q_ins q_k107 11 = some (.iconst 0, 0, 0) from rfl) ?_
  obtain ⟨s3, hs3, h⟩ := zt_letE h
  refine zt_putI zy_107 (show q_ins q_k107 12 = some (.putfield 30, 9, 2) from rfl) (j := 2) (zk_K_2 ht0) rfl rfl rfl ?_
  rw [← hs3]
  refine zt_aload_n zy_107 (show q_ins q_k107 15 = some (.aload_n 0, 0, 0) from rfl) (v := t0) rfl ?_
  refine zt_iconst zy_107 (show q_ins q_k107 16 = some (.iconst (-1), 0, 0) from rfl) ?_
  obtain ⟨s4, hs4, h⟩ := zt_letE h
  refine zt_putI zy_107 (show q_ins q_k107 17 = some (.putfield 9, 9, 3) from rfl) (j := 3) (zk_K_3 ht0) rfl rfl rfl ?_
  rw [← hs4]
  refine zt_aload_n zy_107 (show q_ins q_k107 20 = some (.aload_n 0, 0, 0) from rfl) (v := t0) rfl ?_
  refine zt_iconst zy_107 (show q_ins q_k107 21 = some (.iconst 0, 0, 0) from rfl) ?_
  obtain ⟨s5, hs5, h⟩ := zt_letE h
  refine zt_putI zy_107 (show q_ins q_k107 22 = some (.putfield 33, 9, 4) from rfl) (j := 4) (zk_K_4 ht0) rfl rfl rfl ?_
  rw [← hs5]
  refine zt_aload_n zy_107 (show q_ins q_k107 25 = some (.aload_n 0, 0, 0) from rfl) (v := t0) rfl ?_
  refine zt_iconst zy_107 (show q_ins q_k107 26 = some (.iconst (-1), 0, 0) from rfl) ?_
  obtain ⟨s6, hs6, h⟩ := zt_letE h
  refine zt_putI zy_107 (show q_ins q_k107 27 = some (.putfield 15, 9, 5) from rfl) (j := 5) (zk_K_5 ht0) rfl rfl rfl ?_
  rw [← hs6]
  refine zt_aload_n zy_107 (show q_ins q_k107 30 = some (.aload_n 0, 0, 0) from rfl) (v := t0) rfl ?_
  refine zt_iconst zy_107 (show q_ins q_k107 31 = some (.iconst (-1), 0, 0) from rfl) ?_
  obtain ⟨s7, hs7, h⟩ := zt_letE h
  refine zt_putI zy_107 (show q_ins q_k107 32 = some (.putfield 18, 9, 6) from rfl) (j := 6) (zk_K_6 ht0) rfl rfl rfl ?_
  rw [← hs7]
  cases h
  exact zt_ret zy_107 (show q_ins q_k107 35 = some (.return_, 0, 0) from rfl)
theorem S_Tr_finish {X : q_X} {t0 : Nat} {t1 : Nat} (ht0 : t0 ∈ zt_tris) (ht1 : t1 ∈ zt_sets) {v2 : Int} {v3 : Int} {σ : zt_S} {o : (Unit × zt_S)} (h : F_Tr_finish t0 t1 v2 v3 σ = some o) : zt_Ex X 2 112 0 (lv_args 0 [.ref t0, .ref t1, .int (Int32.ofInt v2), .int (Int32.ofInt v3)]) [] (zt_M T σ) (zo_V T o) := by
  unfold F_Tr_finish at h
  refine zt_aload_n zy_112 (show q_ins q_k112 0 = some (.aload_n 0, 0, 0) from rfl) (v := t0) rfl ?_
  refine zt_aload_n zy_112 (show q_ins q_k112 1 = some (.aload_n 1, 0, 0) from rfl) (v := t1) rfl ?_
  refine zt_iload_n zy_112 (show q_ins q_k112 2 = some (.iload_n 2, 0, 0) from rfl) (v := Int32.ofInt v2) rfl ?_
  refine zt_iload_n zy_112 (show q_ins q_k112 3 = some (.iload_n 3, 0, 0) from rfl) (v := Int32.ofInt v3) rfl ?_
  obtain ⟨a1, s2, hca1, h⟩ := zt_bdE h
  refine zt_callV (d := 1) zy_112 (show q_ins q_k112 4 = some (.invokevirtual 55, 113, 3) from rfl) zy_113 (by decide) ⟨zq_lt (by decide), by decide⟩ rfl (by simp [Value.category]) (by simp [lg_sl, Value.category]) (zt_rcv (zc_K ht0)) (zt_dm (by decide) (S_Tr_dim ht0 ht1 hca1)) ?_
  refine zt_aload_n zy_112 (show q_ins q_k112 7 = some (.aload_n 0, 0, 0) from rfl) (v := t0) rfl ?_
  refine zt_aload_n zy_112 (show q_ins q_k112 8 = some (.aload_n 0, 0, 0) from rfl) (v := t0) rfl ?_
  refine zt_getI zy_112 (show q_ins q_k112 9 = some (.getfield 18, 9, 6) from rfl) (j := 6) (zk_K_6 ht0) rfl ?_
  obtain ⟨a3, s4, hca3, h⟩ := zt_bdE h
  refine zt_callV (d := 1) zy_112 (show q_ins q_k112 12 = some (.invokevirtual 59, 107, 1) from rfl) zy_107 (by decide) ⟨zq_lt (by decide), by decide⟩ rfl (by simp [Value.category]) (by simp [lg_sl, Value.category]) (zt_rcv (zc_K ht0)) (zt_dm (by decide) (S_Tr_begin ht0 hca3)) ?_
  cases h
  exact zt_ret zy_112 (show q_ins q_k112 15 = some (.return_, 0, 0) from rfl)
theorem S_Rw_without {X : q_X}   {v0 : Int64} {v2 : Int} {σ : zt_S} {o : (Int64 × zt_S)} (h : F_Rw_without  v0 v2 σ = some o) : zt_Ex X 0 316 0 (lv_args 0 [.long v0, .int (Int32.ofInt v2)]) [] (zt_M T σ) (zo_L T o) := by
  unfold F_Rw_without at h
  refine zt_lload_n zy_316 (show q_ins q_k316 0 = some (.lload_n 0, 0, 0) from rfl) (v := v0) rfl ?_
  refine zt_lconst zy_316 (show q_ins q_k316 1 = some (.lconst 1, 0, 0) from rfl) (v := (1 : Int64)) (by decide) ?_
  refine zt_iload_n zy_316 (show q_ins q_k316 2 = some (.iload_n 2, 0, 0) from rfl) (v := Int32.ofInt v2) rfl ?_
  refine zt_lshl zy_316 (show q_ins q_k316 3 = some (.lshl, 0, 0) from rfl) ?_
  refine zt_ldc2 zy_316 (show q_ins q_k316 4 = some (.ldc2_w 19, 0, 18446744073709551615) from rfl) (v := (-1 : Int64)) (by decide) ?_
  refine zt_lxor zy_316 (show q_ins q_k316 7 = some (.lxor, 0, 0) from rfl) ?_
  refine zt_land zy_316 (show q_ins q_k316 8 = some (.land, 0, 0) from rfl) ?_
  cases h
  exact zt_lret zy_316 (show q_ins q_k316 9 = some (.lreturn, 0, 0) from rfl)
end TT
