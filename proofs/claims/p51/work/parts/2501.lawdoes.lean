/-! the mini-machine does what the law's functions say (by program) -/
set_option maxRecDepth 100000 in
theorem S_P_writes_2 {X : q_X} {w1 : Nat} (hw1 : zt_isS w1) : ∀ (n : Nat) (v2 : Int) (σ : zt_S) (T : zt_T) (o : (Unit × zt_S × zt_T)), F_P_writes_2 w1 n v2 σ T = some o → zt_Ex X 0 171 2 [(0, .ref 163), (1, .ref w1), (2, .int (Int32.ofInt v2))] [] (zt_M T σ) (zl_V o) := by
  intro n
  induction n with
  | zero => intro v2 σ T o  h; cases h
  | succ n ih =>
  intro v2 σ T o  h
  rw [F_P_writes_2] at h
  refine zt_iload_n zy_171 (show q_ins q_k171 2 = some (.iload_n 2, 0, 0) from rfl) (v := Int32.ofInt v2) rfl ?_
  refine zt_aload_n zy_171 (show q_ins q_k171 3 = some (.aload_n 1, 0, 0) from rfl) (v := w1) rfl ?_
  refine zt_sln zy_171 (show q_ins q_k171 4 = some (.invokevirtual 13, 900, 0) from rfl) rfl hw1 (by simp [Value.category]) ?_
  obtain ⟨hg, h⟩ := zt_ckE h
  refine zt_icmp_ge zy_171 (show q_ins q_k171 7 = some (.if_icmp .ge 33, 40, 0) from rfl) (⟨hg.1, hg.2⟩) (fun hc => ?_) (fun hc => ?_)
  · rw [if_pos hc] at h
    refine zt_aload_n zy_171 (show q_ins q_k171 10 = some (.aload_n 0, 0, 0) from rfl) (v := 163) rfl ?_
    obtain ⟨hg, h⟩ := zt_ckE h
    refine zt_tgR zy_171 (show q_ins q_k171 11 = some (.getfield 7, 11, 0) from rfl) hg ?_
    refine zt_aload_n zy_171 (show q_ins q_k171 14 = some (.aload_n 0, 0, 0) from rfl) (v := 163) rfl ?_
    obtain ⟨hg, h⟩ := zt_ckE h
    refine zt_tgI zy_171 (show q_ins q_k171 15 = some (.getfield 19, 11, 1) from rfl) hg ?_
    refine zt_aload_n zy_171 (show q_ins q_k171 18 = some (.aload_n 1, 0, 0) from rfl) (v := w1) rfl ?_
    refine zt_iload_n zy_171 (show q_ins q_k171 19 = some (.iload_n 2, 0, 0) from rfl) (v := Int32.ofInt v2) rfl ?_
    obtain ⟨hg, h⟩ := zt_ckE h
    refine zt_sch zy_171 (show q_ins q_k171 20 = some (.invokevirtual 23, 901, 1) from rfl) rfl hw1 hg (zt_sl_le hw1) (by simp [Value.category]) ?_
    obtain ⟨hg, h⟩ := zt_ckE h
    obtain ⟨t1, ht1, h⟩ := zt_letE h
    refine zt_tst zy_171 (show q_ins q_k171 23 = some (.iastore, 0, 0) from rfl) hg ?_
    rw [← ht1]
    refine zt_aload_n zy_171 (show q_ins q_k171 24 = some (.aload_n 0, 0, 0) from rfl) (v := 163) rfl ?_
    refine zt_dup zy_171 (show q_ins q_k171 25 = some (.dup, 0, 0) from rfl) rfl ?_
    obtain ⟨hg, h⟩ := zt_ckE h
    refine zt_tgI zy_171 (show q_ins q_k171 26 = some (.getfield 19, 11, 1) from rfl) hg ?_
    refine zt_iconst zy_171 (show q_ins q_k171 29 = some (.iconst 1, 0, 0) from rfl) ?_
    refine zt_iadd zy_171 (show q_ins q_k171 30 = some (.iadd, 0, 0) from rfl) ?_
    obtain ⟨hg, h⟩ := zt_ckE h
    obtain ⟨t2, ht2, h⟩ := zt_letE h
    refine zt_tpI zy_171 (show q_ins q_k171 31 = some (.putfield 19, 11, 1) from rfl) hg ?_
    rw [← ht2]
    refine zt_iinc zy_171 (show q_ins q_k171 34 = some (.iinc 2 1, 0, 0) from rfl) (v := v2) (by decide) rfl ?_
    refine zt_goto zy_171 (show q_ins q_k171 37 = some (.goto (-35), 2, 0) from rfl) ?_
    exact zt_wk (zt_cov_cons rfl (zt_cov_cons rfl (zt_cov_cons rfl (zt_cov_nil)))) (ih _ _ _ _ h)
  · rw [if_neg hc] at h
    cases h
    exact zt_ret zy_171 (show q_ins q_k171 40 = some (.return_, 0, 0) from rfl)
set_option maxRecDepth 100000 in
theorem S_P_writes {X : q_X} {w1 : Nat} (hw1 : zt_isS w1)  {σ : zt_S} {T : zt_T} {o : (Unit × zt_S × zt_T)} (h : F_P_writes w1  σ T = some o) : zt_Ex X 0 171 0 (lv_args 0 [.ref 163, .ref w1]) [] (zt_M T σ) (zl_V o) := by
  unfold F_P_writes at h
  refine zt_iconst zy_171 (show q_ins q_k171 0 = some (.iconst 0, 0, 0) from rfl) ?_
  refine zt_istore_n zy_171 (show q_ins q_k171 1 = some (.istore_n 2, 0, 0) from rfl) (by decide) ?_
  exact zt_wk (zt_cov_cons rfl (zt_cov_cons rfl (zt_cov_cons rfl (zt_cov_nil)))) (S_P_writes_2  hw1 _ _ _ _ _ h)
set_option maxRecDepth 100000 in
theorem S_P_spaced_24 {X : q_X}   : ∀ (n : Nat) (v1 : Int) (v2 : Int) (σ : zt_S) (T : zt_T) (o : (Unit × zt_S × zt_T)), F_P_spaced_24  n v1 v2 σ T = some o → zt_Ex X 1 172 24 [(0, .ref 163), (1, .int (Int32.ofInt v1)), (2, .int (Int32.ofInt v2))] [] (zt_M T σ) (zl_V o) := by
  intro n
  induction n with
  | zero => intro v1 v2 σ T o  h; cases h
  | succ n ih =>
  intro v1 v2 σ T o  h
  rw [F_P_spaced_24] at h
  refine zt_iload_n zy_172 (show q_ins q_k172 24 = some (.iload_n 2, 0, 0) from rfl) (v := Int32.ofInt v2) rfl ?_
  obtain ⟨hg, h⟩ := zt_ckE h
  refine zt_if_le zy_172 (show q_ins q_k172 25 = some (.ifCond .le 39, 64, 0) from rfl) (hg) (fun hc => ?_) (fun hc => ?_)
  · rw [if_pos hc] at h
    refine zt_aload_n zy_172 (show q_ins q_k172 28 = some (.aload_n 0, 0, 0) from rfl) (v := 163) rfl ?_
    obtain ⟨hg, h⟩ := zt_ckE h
    refine zt_tgR zy_172 (show q_ins q_k172 29 = some (.getfield 7, 11, 0) from rfl) hg ?_
    refine zt_aload_n zy_172 (show q_ins q_k172 32 = some (.aload_n 0, 0, 0) from rfl) (v := 163) rfl ?_
    obtain ⟨hg, h⟩ := zt_ckE h
    refine zt_tgI zy_172 (show q_ins q_k172 33 = some (.getfield 19, 11, 1) from rfl) hg ?_
    refine zt_bipush zy_172 (show q_ins q_k172 36 = some (.bipush 48, 0, 0) from rfl) (by decide) ?_
    refine zt_iload_n zy_172 (show q_ins q_k172 38 = some (.iload_n 1, 0, 0) from rfl) (v := Int32.ofInt v1) rfl ?_
    refine zt_iload_n zy_172 (show q_ins q_k172 39 = some (.iload_n 2, 0, 0) from rfl) (v := Int32.ofInt v2) rfl ?_
    obtain ⟨hg, h⟩ := zt_ckE h
    refine zt_idiv zy_172 (show q_ins q_k172 40 = some (.idiv, 0, 0) from rfl) hg.1 hg.2 ?_
    refine zt_bipush zy_172 (show q_ins q_k172 41 = some (.bipush 10, 0, 0) from rfl) (by decide) ?_
    obtain ⟨hg, h⟩ := zt_ckE h
    refine zt_irem zy_172 (show q_ins q_k172 43 = some (.irem, 0, 0) from rfl) hg (by decide) ?_
    refine zt_iadd zy_172 (show q_ins q_k172 44 = some (.iadd, 0, 0) from rfl) ?_
    obtain ⟨hg, h⟩ := zt_ckE h
    obtain ⟨t4, ht4, h⟩ := zt_letE h
    refine zt_tst zy_172 (show q_ins q_k172 45 = some (.iastore, 0, 0) from rfl) hg ?_
    rw [← ht4]
    refine zt_aload_n zy_172 (show q_ins q_k172 46 = some (.aload_n 0, 0, 0) from rfl) (v := 163) rfl ?_
    refine zt_dup zy_172 (show q_ins q_k172 47 = some (.dup, 0, 0) from rfl) rfl ?_
    obtain ⟨hg, h⟩ := zt_ckE h
    refine zt_tgI zy_172 (show q_ins q_k172 48 = some (.getfield 19, 11, 1) from rfl) hg ?_
    refine zt_iconst zy_172 (show q_ins q_k172 51 = some (.iconst 1, 0, 0) from rfl) ?_
    refine zt_iadd zy_172 (show q_ins q_k172 52 = some (.iadd, 0, 0) from rfl) ?_
    obtain ⟨hg, h⟩ := zt_ckE h
    obtain ⟨t5, ht5, h⟩ := zt_letE h
    refine zt_tpI zy_172 (show q_ins q_k172 53 = some (.putfield 19, 11, 1) from rfl) hg ?_
    rw [← ht5]
    refine zt_iload_n zy_172 (show q_ins q_k172 56 = some (.iload_n 2, 0, 0) from rfl) (v := Int32.ofInt v2) rfl ?_
    refine zt_bipush zy_172 (show q_ins q_k172 57 = some (.bipush 10, 0, 0) from rfl) (by decide) ?_
    obtain ⟨hg, h⟩ := zt_ckE h
    refine zt_idiv zy_172 (show q_ins q_k172 59 = some (.idiv, 0, 0) from rfl) hg (by decide) ?_
    refine zt_istore_n zy_172 (show q_ins q_k172 60 = some (.istore_n 2, 0, 0) from rfl) (by decide) ?_
    refine zt_goto zy_172 (show q_ins q_k172 61 = some (.goto (-37), 24, 0) from rfl) ?_
    exact zt_wk (zt_cov_cons rfl (zt_cov_cons rfl (zt_cov_cons rfl (zt_cov_nil)))) (ih _ _ _ _ _ h)
  · rw [if_neg hc] at h
    cases h
    exact zt_ret zy_172 (show q_ins q_k172 64 = some (.return_, 0, 0) from rfl)
set_option maxRecDepth 100000 in
theorem S_P_spaced_8 {X : q_X}   : ∀ (n : Nat) (v1 : Int) (v2 : Int) (σ : zt_S) (T : zt_T) (o : (Unit × zt_S × zt_T)), F_P_spaced_8  n v1 v2 σ T = some o → zt_Ex X 1 172 8 [(0, .ref 163), (1, .int (Int32.ofInt v1)), (2, .int (Int32.ofInt v2))] [] (zt_M T σ) (zl_V o) := by
  intro n
  induction n with
  | zero => intro v1 v2 σ T o  h; cases h
  | succ n ih =>
  intro v1 v2 σ T o  h
  rw [F_P_spaced_8] at h
  refine zt_iload_n zy_172 (show q_ins q_k172 8 = some (.iload_n 1, 0, 0) from rfl) (v := Int32.ofInt v1) rfl ?_
  refine zt_iload_n zy_172 (show q_ins q_k172 9 = some (.iload_n 2, 0, 0) from rfl) (v := Int32.ofInt v2) rfl ?_
  obtain ⟨hg, h⟩ := zt_ckE h
  refine zt_idiv zy_172 (show q_ins q_k172 10 = some (.idiv, 0, 0) from rfl) hg.1 hg.2 ?_
  refine zt_bipush zy_172 (show q_ins q_k172 11 = some (.bipush 9, 0, 0) from rfl) (by decide) ?_
  obtain ⟨hg, h⟩ := zt_ckE h
  refine zt_icmp_le zy_172 (show q_ins q_k172 13 = some (.if_icmp .le 11, 24, 0) from rfl) (⟨hg, by decide⟩) (fun hc => ?_) (fun hc => ?_)
  · rw [if_pos hc] at h
    refine zt_iload_n zy_172 (show q_ins q_k172 16 = some (.iload_n 2, 0, 0) from rfl) (v := Int32.ofInt v2) rfl ?_
    refine zt_bipush zy_172 (show q_ins q_k172 17 = some (.bipush 10, 0, 0) from rfl) (by decide) ?_
    refine zt_imul zy_172 (show q_ins q_k172 19 = some (.imul, 0, 0) from rfl) ?_
    refine zt_istore_n zy_172 (show q_ins q_k172 20 = some (.istore_n 2, 0, 0) from rfl) (by decide) ?_
    refine zt_goto zy_172 (show q_ins q_k172 21 = some (.goto (-13), 8, 0) from rfl) ?_
    exact zt_wk (zt_cov_cons rfl (zt_cov_cons rfl (zt_cov_cons rfl (zt_cov_nil)))) (ih _ _ _ _ _ h)
  · rw [if_neg hc] at h
    exact zt_wk (zt_cov_cons rfl (zt_cov_cons rfl (zt_cov_cons rfl (zt_cov_nil)))) (S_P_spaced_24  _ _ _ _ _ _ h)
set_option maxRecDepth 100000 in
theorem S_P_spaced {X : q_X}   {v1 : Int} {σ : zt_S} {T : zt_T} {o : (Unit × zt_S × zt_T)} (h : F_P_spaced  v1 σ T = some o) : zt_Ex X 1 172 0 (lv_args 0 [.ref 163, .int (Int32.ofInt v1)]) [] (zt_M T σ) (zl_V o) := by
  unfold F_P_spaced at h
  refine zt_aload_n zy_172 (show q_ins q_k172 0 = some (.aload_n 0, 0, 0) from rfl) (v := 163) rfl ?_
  refine zt_ldcS zy_172 (show q_ins q_k172 1 = some (.ldc 27, 1, 11) from rfl) (by decide) ?_
  obtain ⟨hT, h⟩ := zt_ckE h
  obtain ⟨a1, s2, t3, hca1, h⟩ := zt_btE h
  refine zt_callV (d := 0) zy_172 (show q_ins q_k172 3 = some (.invokevirtual 29, 171, 1) from rfl) zy_171 (by decide) ⟨zq_lt (by decide), by decide⟩ rfl (by simp [Value.category]) (by simp [lg_sl, Value.category]) (zt_rcvT hT) (zt_dm (by decide) (S_P_writes zw_11 hca1)) ?_
  refine zt_iconst zy_172 (show q_ins q_k172 6 = some (.iconst 1, 0, 0) from rfl) ?_
  refine zt_istore_n zy_172 (show q_ins q_k172 7 = some (.istore_n 2, 0, 0) from rfl) (by decide) ?_
  exact zt_wk (zt_cov_cons rfl (zt_cov_cons rfl (zt_cov_cons rfl (zt_cov_nil)))) (S_P_spaced_8  _ _ _ _ _ _ h)
set_option maxRecDepth 100000 in
theorem S_P_cell_16 {X : q_X} (hX : X.1 ≤ 1000000)   : ∀ (x0 : Int) (σ : zt_S) (T : zt_T) (o : (Int × zt_S × zt_T)), F_P_cell_16 X  x0 σ T = some o → zt_Ex X 0 173 16 [] [.int (Int32.ofInt x0)] (zt_M T σ) (zl_I o) := by
  intro x0 σ T o  h
  unfold F_P_cell_16 at h
  cases h
  exact zt_iret zy_173 (show q_ins q_k173 16 = some (.ireturn, 0, 0) from rfl)
set_option maxRecDepth 100000 in
theorem S_P_cell {X : q_X} (hX : X.1 ≤ 1000000)   {v1 : Int} {σ : zt_S} {T : zt_T} {o : (Int × zt_S × zt_T)} (h : F_P_cell X  v1 σ T = some o) : zt_Ex X 0 173 0 (lv_args 0 [.ref q_big, .int (Int32.ofInt v1)]) [] (zt_M T σ) (zl_I o) := by
  unfold F_P_cell at h
  refine zt_iload_n zy_173 (show q_ins q_k173 0 = some (.iload_n 1, 0, 0) from rfl) (v := Int32.ofInt v1) rfl ?_
  refine zt_aload_n zy_173 (show q_ins q_k173 1 = some (.aload_n 0, 0, 0) from rfl) (v := q_big) rfl ?_
  refine zt_slen zy_173 (show q_ins q_k173 2 = some (.arraylength, 0, 0) from rfl) ?_
  obtain ⟨hg, h⟩ := zt_ckE h
  refine zt_icmp_ge zy_173 (show q_ins q_k173 3 = some (.if_icmp .ge 12, 15, 0) from rfl) (⟨hg.1, hg.2⟩) (fun hc => ?_) (fun hc => ?_)
  · rw [if_pos hc] at h
    refine zt_aload_n zy_173 (show q_ins q_k173 6 = some (.aload_n 0, 0, 0) from rfl) (v := q_big) rfl ?_
    refine zt_iload_n zy_173 (show q_ins q_k173 7 = some (.iload_n 1, 0, 0) from rfl) (v := Int32.ofInt v1) rfl ?_
    obtain ⟨hg, h⟩ := zt_ckE h
    refine zt_sld zy_173 (show q_ins q_k173 8 = some (.iaload, 0, 0) from rfl) hg hX ?_
    refine zt_ldcI zy_173 (show q_ins q_k173 9 = some (.ldc 33, 0, 1073741823) from rfl) (n := (1073741823 : Int)) rfl (by decide) ?_
    refine zt_iand zy_173 (show q_ins q_k173 11 = some (.iand, 0, 0) from rfl) ?_
    refine zt_goto zy_173 (show q_ins q_k173 12 = some (.goto 4, 16, 0) from rfl) ?_
    exact zt_wk (zt_cov_nil) (S_P_cell_16 hX  _ _ _ _ h)
  · rw [if_neg hc] at h
    refine zt_iconst zy_173 (show q_ins q_k173 15 = some (.iconst 0, 0, 0) from rfl) ?_
    exact zt_wk (zt_cov_nil) (S_P_cell_16 hX  _ _ _ _ h)
set_option maxRecDepth 100000 in
theorem S_P_feeds_63 {X : q_X}   {r2 : Int → zt_S → zt_T → Option (Int × zt_S × zt_T)} (hr2 : ∀ (v2 : Int) (σ : zt_S) (T : zt_T) (o : (Int × zt_S × zt_T)), r2 v2 σ T = some o → zt_Ex X 2 174 2 [(0, .ref 163), (1, .ref 0), (2, .int (Int32.ofInt v2))] [] (zt_M T σ) (zl_I o)) {r17 : Int → Nat → Int → zt_S → zt_T → Option (Int × zt_S × zt_T)} (hr17 : ∀ (v2 : Int) (v3 : Nat) (v4 : Int) (σ : zt_S) (T : zt_T) (o : (Int × zt_S × zt_T)), r17 v2 v3 v4 σ T = some o → zt_Ex X 2 174 17 [(0, .ref 163), (1, .ref 0), (2, .int (Int32.ofInt v2)), (3, .ref (163 + v3)), (4, .int (Int32.ofInt v4))] [] (zt_M T σ) (zl_I o)) : ∀ (v2 : Int) (v3 : Nat) (v4 : Int) (x0 : Int) (x1 : Int) (x2 : Int) (x3 : Nat) (σ : zt_S) (T : zt_T) (o : (Int × zt_S × zt_T)), F_P_feeds_63  r2 r17 v2 v3 v4 x0 x1 x2 x3 σ T = some o → zt_Ex X 2 174 63 [(0, .ref 163), (1, .ref 0), (2, .int (Int32.ofInt v2)), (3, .ref (163 + v3)), (4, .int (Int32.ofInt v4))] [.int (Int32.ofInt x0), .int (Int32.ofInt x1), .int (Int32.ofInt x2), .ref (163 + x3)] (zt_M T σ) (zl_I o) := by
  intro v2 v3 v4 x0 x1 x2 x3 σ T o  h
  unfold F_P_feeds_63 at h
  refine zt_ior zy_174 (show q_ins q_k174 63 = some (.ior, 0, 0) from rfl) ?_
  obtain ⟨hg, h⟩ := zt_ckE h
  obtain ⟨t3, ht3, h⟩ := zt_letE h
  refine zt_tst zy_174 (show q_ins q_k174 64 = some (.iastore, 0, 0) from rfl) hg ?_
  rw [← ht3]
  refine zt_iinc zy_174 (show q_ins q_k174 65 = some (.iinc 4 1, 0, 0) from rfl) (v := v4) (by decide) rfl ?_
  refine zt_goto zy_174 (show q_ins q_k174 68 = some (.goto (-51), 17, 0) from rfl) ?_
  exact zt_wk (zt_cov_cons rfl (zt_cov_cons rfl (zt_cov_cons rfl (zt_cov_cons rfl (zt_cov_cons rfl (zt_cov_nil)))))) (hr17 _ _ _ _ _ _ h)
set_option maxRecDepth 100000 in
theorem S_P_feeds_71 {X : q_X}   {r2 : Int → zt_S → zt_T → Option (Int × zt_S × zt_T)} (hr2 : ∀ (v2 : Int) (σ : zt_S) (T : zt_T) (o : (Int × zt_S × zt_T)), r2 v2 σ T = some o → zt_Ex X 2 174 2 [(0, .ref 163), (1, .ref 0), (2, .int (Int32.ofInt v2))] [] (zt_M T σ) (zl_I o)) : ∀ (v2 : Int) (v3 : Nat) (σ : zt_S) (T : zt_T) (o : (Int × zt_S × zt_T)), F_P_feeds_71  r2 v2 v3 σ T = some o → zt_Ex X 2 174 71 [(0, .ref 163), (1, .ref 0), (2, .int (Int32.ofInt v2)), (3, .ref (163 + v3))] [] (zt_M T σ) (zl_I o) := by
  intro v2 v3 σ T o  h
  unfold F_P_feeds_71 at h
  refine zt_aload_n zy_174 (show q_ins q_k174 71 = some (.aload_n 1, 0, 0) from rfl) (v := 0) rfl ?_
  refine zt_aload_n zy_174 (show q_ins q_k174 72 = some (.aload_n 3, 0, 0) from rfl) (v := (163 + v3)) rfl ?_
  refine zt_iconst zy_174 (show q_ins q_k174 73 = some (.iconst 0, 0, 0) from rfl) ?_
  obtain ⟨hg, h⟩ := zt_ckE h
  refine zt_tld zy_174 (show q_ins q_k174 74 = some (.iaload, 0, 0) from rfl) hg ?_
  refine zt_aload_n zy_174 (show q_ins q_k174 75 = some (.aload_n 3, 0, 0) from rfl) (v := (163 + v3)) rfl ?_
  refine zt_iconst zy_174 (show q_ins q_k174 76 = some (.iconst 1, 0, 0) from rfl) ?_
  obtain ⟨hg, h⟩ := zt_ckE h
  refine zt_tld zy_174 (show q_ins q_k174 77 = some (.iaload, 0, 0) from rfl) hg ?_
  refine zt_aload_n zy_174 (show q_ins q_k174 78 = some (.aload_n 3, 0, 0) from rfl) (v := (163 + v3)) rfl ?_
  refine zt_iconst zy_174 (show q_ins q_k174 79 = some (.iconst 2, 0, 0) from rfl) ?_
  obtain ⟨hg, h⟩ := zt_ckE h
  refine zt_tld zy_174 (show q_ins q_k174 80 = some (.iaload, 0, 0) from rfl) hg ?_
  refine zt_aload_n zy_174 (show q_ins q_k174 81 = some (.aload_n 3, 0, 0) from rfl) (v := (163 + v3)) rfl ?_
  refine zt_iconst zy_174 (show q_ins q_k174 82 = some (.iconst 3, 0, 0) from rfl) ?_
  obtain ⟨hg, h⟩ := zt_ckE h
  refine zt_tld zy_174 (show q_ins q_k174 83 = some (.iaload, 0, 0) from rfl) hg ?_
  refine zt_aload_n zy_174 (show q_ins q_k174 84 = some (.aload_n 3, 0, 0) from rfl) (v := (163 + v3)) rfl ?_
  refine zt_iconst zy_174 (show q_ins q_k174 85 = some (.iconst 4, 0, 0) from rfl) ?_
  obtain ⟨hg, h⟩ := zt_ckE h
  refine zt_tld zy_174 (show q_ins q_k174 86 = some (.iaload, 0, 0) from rfl) hg ?_
  obtain ⟨a4, s5, hca4, h⟩ := zt_bdE h
  refine zt_callV (d := 1) zy_174 (show q_ins q_k174 87 = some (.invokevirtual 34, 117, 5) from rfl) zy_117 (by decide) ⟨zq_lt (by decide), by decide⟩ rfl (by simp [Value.category]) (by simp [lg_sl, Value.category]) (zt_rcv zc_0) (zt_dm (by decide) (S_C_feed hca4)) ?_
  refine zt_pop zy_174 (show q_ins q_k174 90 = some (.pop, 0, 0) from rfl) rfl ?_
  refine zt_iinc zy_174 (show q_ins q_k174 91 = some (.iinc 2 20, 0, 0) from rfl) (v := v2) (by decide) rfl ?_
  refine zt_goto zy_174 (show q_ins q_k174 94 = some (.goto (-92), 2, 0) from rfl) ?_
  exact zt_wk (zt_cov_cons rfl (zt_cov_cons rfl (zt_cov_cons rfl (zt_cov_nil)))) (hr2 _ _ _ _ h)
set_option maxRecDepth 100000 in
theorem S_P_feeds_17 {X : q_X}   {r2 : Int → zt_S → zt_T → Option (Int × zt_S × zt_T)} (hr2 : ∀ (v2 : Int) (σ : zt_S) (T : zt_T) (o : (Int × zt_S × zt_T)), r2 v2 σ T = some o → zt_Ex X 2 174 2 [(0, .ref 163), (1, .ref 0), (2, .int (Int32.ofInt v2))] [] (zt_M T σ) (zl_I o)) : ∀ (n : Nat) (v2 : Int) (v3 : Nat) (v4 : Int) (σ : zt_S) (T : zt_T) (o : (Int × zt_S × zt_T)), F_P_feeds_17  r2 n v2 v3 v4 σ T = some o → zt_Ex X 2 174 17 [(0, .ref 163), (1, .ref 0), (2, .int (Int32.ofInt v2)), (3, .ref (163 + v3)), (4, .int (Int32.ofInt v4))] [] (zt_M T σ) (zl_I o) := by
  intro n
  induction n with
  | zero => intro v2 v3 v4 σ T o  h; cases h
  | succ n ih =>
  intro v2 v3 v4 σ T o  h
  rw [F_P_feeds_17] at h
  refine zt_iload zy_174 (show q_ins q_k174 17 = some (.iload 4, 0, 0) from rfl) (v := Int32.ofInt v4) rfl ?_
  refine zt_bipush zy_174 (show q_ins q_k174 19 = some (.bipush 20, 0, 0) from rfl) (by decide) ?_
  obtain ⟨hg, h⟩ := zt_ckE h
  refine zt_icmp_ge zy_174 (show q_ins q_k174 21 = some (.if_icmp .ge 50, 71, 0) from rfl) (⟨hg, by decide⟩) (fun hc => ?_) (fun hc => ?_)
  · rw [if_pos hc] at h
    refine zt_aload_n zy_174 (show q_ins q_k174 24 = some (.aload_n 3, 0, 0) from rfl) (v := (163 + v3)) rfl ?_
    refine zt_iload zy_174 (show q_ins q_k174 25 = some (.iload 4, 0, 0) from rfl) (v := Int32.ofInt v4) rfl ?_
    refine zt_iconst zy_174 (show q_ins q_k174 27 = some (.iconst 4, 0, 0) from rfl) ?_
    obtain ⟨hg, h⟩ := zt_ckE h
    refine zt_idiv zy_174 (show q_ins q_k174 28 = some (.idiv, 0, 0) from rfl) hg (by decide) ?_
    refine zt_aload_n zy_174 (show q_ins q_k174 29 = some (.aload_n 3, 0, 0) from rfl) (v := (163 + v3)) rfl ?_
    refine zt_iload zy_174 (show q_ins q_k174 30 = some (.iload 4, 0, 0) from rfl) (v := Int32.ofInt v4) rfl ?_
    refine zt_iconst zy_174 (show q_ins q_k174 32 = some (.iconst 4, 0, 0) from rfl) ?_
    obtain ⟨hg, h⟩ := zt_ckE h
    refine zt_idiv zy_174 (show q_ins q_k174 33 = some (.idiv, 0, 0) from rfl) hg (by decide) ?_
    obtain ⟨hg, h⟩ := zt_ckE h
    refine zt_tld zy_174 (show q_ins q_k174 34 = some (.iaload, 0, 0) from rfl) hg ?_
    refine zt_bipush zy_174 (show q_ins q_k174 35 = some (.bipush 8, 0, 0) from rfl) (by decide) ?_
    refine zt_ishl zy_174 (show q_ins q_k174 37 = some (.ishl, 0, 0) from rfl) ?_
    refine zt_iload_n zy_174 (show q_ins q_k174 38 = some (.iload_n 2, 0, 0) from rfl) (v := Int32.ofInt v2) rfl ?_
    refine zt_iload zy_174 (show q_ins q_k174 39 = some (.iload 4, 0, 0) from rfl) (v := Int32.ofInt v4) rfl ?_
    refine zt_iadd zy_174 (show q_ins q_k174 41 = some (.iadd, 0, 0) from rfl) ?_
    refine zt_aload_n zy_174 (show q_ins q_k174 42 = some (.aload_n 0, 0, 0) from rfl) (v := 163) rfl ?_
    obtain ⟨hg, h⟩ := zt_ckE h
    refine zt_tgI zy_174 (show q_ins q_k174 43 = some (.getfield 19, 11, 1) from rfl) hg ?_
    obtain ⟨hg, h⟩ := zt_ckE h
    refine zt_icmp_ge zy_174 (show q_ins q_k174 46 = some (.if_icmp .ge 15, 61, 0) from rfl) (⟨hg.1, hg.2⟩) (fun hc => ?_) (fun hc => ?_)
    · rw [if_pos hc] at h
      refine zt_aload_n zy_174 (show q_ins q_k174 49 = some (.aload_n 0, 0, 0) from rfl) (v := 163) rfl ?_
      obtain ⟨hg, h⟩ := zt_ckE h
      refine zt_tgR zy_174 (show q_ins q_k174 50 = some (.getfield 7, 11, 0) from rfl) hg ?_
      refine zt_iload_n zy_174 (show q_ins q_k174 53 = some (.iload_n 2, 0, 0) from rfl) (v := Int32.ofInt v2) rfl ?_
      refine zt_iload zy_174 (show q_ins q_k174 54 = some (.iload 4, 0, 0) from rfl) (v := Int32.ofInt v4) rfl ?_
      refine zt_iadd zy_174 (show q_ins q_k174 56 = some (.iadd, 0, 0) from rfl) ?_
      obtain ⟨hg, h⟩ := zt_ckE h
      refine zt_tld zy_174 (show q_ins q_k174 57 = some (.iaload, 0, 0) from rfl) hg ?_
      refine zt_goto zy_174 (show q_ins q_k174 58 = some (.goto 5, 63, 0) from rfl) ?_
      exact zt_wk (zt_cov_cons rfl (zt_cov_cons rfl (zt_cov_cons rfl (zt_cov_cons rfl (zt_cov_cons rfl (zt_cov_nil)))))) (S_P_feeds_63  hr2 ih _ _ _ _ _ _ _ _ _ _ h)
    · rw [if_neg hc] at h
      refine zt_bipush zy_174 (show q_ins q_k174 61 = some (.bipush 32, 0, 0) from rfl) (by decide) ?_
      exact zt_wk (zt_cov_cons rfl (zt_cov_cons rfl (zt_cov_cons rfl (zt_cov_cons rfl (zt_cov_cons rfl (zt_cov_nil)))))) (S_P_feeds_63  hr2 ih _ _ _ _ _ _ _ _ _ _ h)
  · rw [if_neg hc] at h
    exact zt_wk (zt_cov_cons rfl (zt_cov_cons rfl (zt_cov_cons rfl (zt_cov_cons rfl (zt_cov_nil))))) (S_P_feeds_71  hr2 _ _ _ _ _ h)
set_option maxRecDepth 100000 in
theorem S_P_feeds_97 {X : q_X}   : ∀  (σ : zt_S) (T : zt_T) (o : (Int × zt_S × zt_T)), F_P_feeds_97   σ T = some o → zt_Ex X 2 174 97 [(0, .ref 163)] [] (zt_M T σ) (zl_I o) := by
  intro  σ T o  h
  unfold F_P_feeds_97 at h
  refine zt_aload_n zy_174 (show q_ins q_k174 97 = some (.aload_n 0, 0, 0) from rfl) (v := 163) rfl ?_
  obtain ⟨hg, h⟩ := zt_ckE h
  refine zt_tgI zy_174 (show q_ins q_k174 98 = some (.getfield 19, 11, 1) from rfl) hg ?_
  refine zt_istore_n zy_174 (show q_ins q_k174 101 = some (.istore_n 2, 0, 0) from rfl) (by decide) ?_
  refine zt_aload_n zy_174 (show q_ins q_k174 102 = some (.aload_n 0, 0, 0) from rfl) (v := 163) rfl ?_
  refine zt_iconst zy_174 (show q_ins q_k174 103 = some (.iconst 0, 0, 0) from rfl) ?_
  obtain ⟨hg, h⟩ := zt_ckE h
  obtain ⟨t6, ht6, h⟩ := zt_letE h
  refine zt_tpI zy_174 (show q_ins q_k174 104 = some (.putfield 19, 11, 1) from rfl) hg ?_
  rw [← ht6]
  refine zt_iload_n zy_174 (show q_ins q_k174 107 = some (.iload_n 2, 0, 0) from rfl) (v := Int32.ofInt (T.2.2 0 1)) rfl ?_
  cases h
  exact zt_iret zy_174 (show q_ins q_k174 108 = some (.ireturn, 0, 0) from rfl)
set_option maxRecDepth 100000 in
theorem S_P_feeds_2 {X : q_X}   : ∀ (n : Nat) (v2 : Int) (σ : zt_S) (T : zt_T) (o : (Int × zt_S × zt_T)), F_P_feeds_2  n v2 σ T = some o → zt_Ex X 2 174 2 [(0, .ref 163), (1, .ref 0), (2, .int (Int32.ofInt v2))] [] (zt_M T σ) (zl_I o) := by
  intro n
  induction n with
  | zero => intro v2 σ T o  h; cases h
  | succ n ih =>
  intro v2 σ T o  h
  rw [F_P_feeds_2] at h
  refine zt_iload_n zy_174 (show q_ins q_k174 2 = some (.iload_n 2, 0, 0) from rfl) (v := Int32.ofInt v2) rfl ?_
  refine zt_aload_n zy_174 (show q_ins q_k174 3 = some (.aload_n 0, 0, 0) from rfl) (v := 163) rfl ?_
  obtain ⟨hg, h⟩ := zt_ckE h
  refine zt_tgI zy_174 (show q_ins q_k174 4 = some (.getfield 19, 11, 1) from rfl) hg ?_
  obtain ⟨hg, h⟩ := zt_ckE h
  refine zt_icmp_ge zy_174 (show q_ins q_k174 7 = some (.if_icmp .ge 90, 97, 0) from rfl) (⟨hg.1, hg.2⟩) (fun hc => ?_) (fun hc => ?_)
  · rw [if_pos hc] at h
    refine zt_iconst zy_174 (show q_ins q_k174 10 = some (.iconst 5, 0, 0) from rfl) ?_
    obtain ⟨hg, h⟩ := zt_ckE h
    obtain ⟨k2, t1, hk2, ht1, h⟩ := zt_lTE h
    refine zt_tnw (l := 5) zy_174 (show q_ins q_k174 11 = some (.newarray .int, 0, 0) from rfl) (by decide) hg.2 hg.1 ?_
    rw [← hk2, ← ht1]
    refine zt_astore_n zy_174 (show q_ins q_k174 13 = some (.astore_n 3, 0, 0) from rfl) (by decide) ?_
    refine zt_iconst zy_174 (show q_ins q_k174 14 = some (.iconst 0, 0, 0) from rfl) ?_
    refine zt_istore zy_174 (show q_ins q_k174 15 = some (.istore 4, 0, 0) from rfl) (by decide) ?_
    exact zt_wk (zt_cov_cons rfl (zt_cov_cons rfl (zt_cov_cons rfl (zt_cov_cons rfl (zt_cov_cons rfl (zt_cov_nil)))))) (S_P_feeds_17  ih _ _ _ _ _ _ _ h)
  · rw [if_neg hc] at h
    exact zt_wk (zt_cov_cons rfl (zt_cov_nil)) (S_P_feeds_97  _ _ _ h)
set_option maxRecDepth 100000 in
theorem S_P_feeds {X : q_X}    {σ : zt_S} {T : zt_T} {o : (Int × zt_S × zt_T)} (h : F_P_feeds   σ T = some o) : zt_Ex X 2 174 0 (lv_args 0 [.ref 163, .ref 0]) [] (zt_M T σ) (zl_I o) := by
  unfold F_P_feeds at h
  refine zt_iconst zy_174 (show q_ins q_k174 0 = some (.iconst 0, 0, 0) from rfl) ?_
  refine zt_istore_n zy_174 (show q_ins q_k174 1 = some (.istore_n 2, 0, 0) from rfl) (by decide) ?_
  exact zt_wk (zt_cov_cons rfl (zt_cov_cons rfl (zt_cov_cons rfl (zt_cov_nil)))) (S_P_feeds_2  _ _ _ _ _ h)
set_option maxRecDepth 100000 in
theorem S_P_areDealt_136 {X : q_X}   {r103 : Int → Int → Int → Nat → Int → zt_S → zt_T → Option (Int × zt_S × zt_T)} (hr103 : ∀ (v1 : Int) (v2 : Int) (v3 : Int) (v5 : Nat) (v7 : Int) (σ : zt_S) (T : zt_T) (o : (Int × zt_S × zt_T)), r103 v1 v2 v3 v5 v7 σ T = some o → zt_Ex X 3 176 103 [(0, .ref 0), (1, .int (Int32.ofInt v1)), (2, .int (Int32.ofInt v2)), (3, .int (Int32.ofInt v3)), (5, .ref (163 + v5)), (7, .int (Int32.ofInt v7))] [] (zt_M T σ) (zl_I o)) : ∀ (v1 : Int) (v2 : Int) (v3 : Int) (v5 : Nat) (v7 : Int) (x0 : Int) (x1 : Int) (σ : zt_S) (T : zt_T) (o : (Int × zt_S × zt_T)), F_P_areDealt_136  r103 v1 v2 v3 v5 v7 x0 x1 σ T = some o → zt_Ex X 3 176 136 [(0, .ref 0), (1, .int (Int32.ofInt v1)), (2, .int (Int32.ofInt v2)), (3, .int (Int32.ofInt v3)), (5, .ref (163 + v5)), (7, .int (Int32.ofInt v7))] [.int (Int32.ofInt x0), .int (Int32.ofInt x1)] (zt_M T σ) (zl_I o) := by
  intro v1 v2 v3 v5 v7 x0 x1 σ T o  h
  unfold F_P_areDealt_136 at h
  obtain ⟨hg, h⟩ := zt_ckE h
  refine zt_icmp_eq zy_176 (show q_ins q_k176 136 = some (.if_icmp .eq 5, 141, 0) from rfl) (⟨hg.1, hg.2⟩) (fun hc => ?_) (fun hc => ?_)
  · rw [if_pos hc] at h
    refine zt_iinc zy_176 (show q_ins q_k176 141 = some (.iinc 7 1, 0, 0) from rfl) (v := v7) (by decide) rfl ?_
    refine zt_goto zy_176 (show q_ins q_k176 144 = some (.goto (-41), 103, 0) from rfl) ?_
    exact zt_wk (zt_cov_cons rfl (zt_cov_cons rfl (zt_cov_cons rfl (zt_cov_cons rfl (zt_cov_cons rfl (zt_cov_cons rfl (zt_cov_nil))))))) (hr103 _ _ _ _ _ _ _ _ h)
  · rw [if_neg hc] at h
    refine zt_iconst zy_176 (show q_ins q_k176 139 = some (.iconst 0, 0, 0) from rfl) ?_
    cases h
    exact zt_zret zy_176 (show q_ins q_k176 140 = some (.ireturn, 0, 0) from rfl) (by decide)
set_option maxRecDepth 100000 in
theorem S_P_areDealt_103 {X : q_X}   : ∀ (n : Nat) (v1 : Int) (v2 : Int) (v3 : Int) (v5 : Nat) (v7 : Int) (σ : zt_S) (T : zt_T) (o : (Int × zt_S × zt_T)), F_P_areDealt_103  n v1 v2 v3 v5 v7 σ T = some o → zt_Ex X 3 176 103 [(0, .ref 0), (1, .int (Int32.ofInt v1)), (2, .int (Int32.ofInt v2)), (3, .int (Int32.ofInt v3)), (5, .ref (163 + v5)), (7, .int (Int32.ofInt v7))] [] (zt_M T σ) (zl_I o) := by
  intro n
  induction n with
  | zero => intro v1 v2 v3 v5 v7 σ T o  h; cases h
  | succ n ih =>
  intro v1 v2 v3 v5 v7 σ T o  h
  rw [F_P_areDealt_103] at h
  refine zt_iload zy_176 (show q_ins q_k176 103 = some (.iload 7, 0, 0) from rfl) (v := Int32.ofInt v7) rfl ?_
  refine zt_iconst zy_176 (show q_ins q_k176 105 = some (.iconst 4, 0, 0) from rfl) ?_
  refine zt_iload_n zy_176 (show q_ins q_k176 106 = some (.iload_n 1, 0, 0) from rfl) (v := Int32.ofInt v1) rfl ?_
  refine zt_imul zy_176 (show q_ins q_k176 107 = some (.imul, 0, 0) from rfl) ?_
  obtain ⟨hg, h⟩ := zt_ckE h
  refine zt_icmp_ge zy_176 (show q_ins q_k176 108 = some (.if_icmp .ge 39, 147, 0) from rfl) (⟨hg.1, hg.2⟩) (fun hc => ?_) (fun hc => ?_)
  · rw [if_pos hc] at h
    refine zt_aload_n zy_176 (show q_ins q_k176 111 = some (.aload_n 0, 0, 0) from rfl) (v := 0) rfl ?_
    refine zt_aload zy_176 (show q_ins q_k176 112 = some (.aload 5, 0, 0) from rfl) (v := (163 + v5)) rfl ?_
    refine zt_iload zy_176 (show q_ins q_k176 114 = some (.iload 7, 0, 0) from rfl) (v := Int32.ofInt v7) rfl ?_
    obtain ⟨hg, h⟩ := zt_ckE h
    refine zt_tld zy_176 (show q_ins q_k176 116 = some (.iaload, 0, 0) from rfl) hg ?_
    obtain ⟨a6, s7, hca6, h⟩ := zt_byE h
    refine zt_callV (d := 2) zy_176 (show q_ins q_k176 117 = some (.invokevirtual 93, 125, 1) from rfl) zy_125 (by decide) ⟨zq_lt (by decide), by decide⟩ rfl (by simp [Value.category]) (by simp [lg_sl, Value.category]) (zt_rcv zc_0) (zt_dm (by decide) (S_C_holder hca6)) ?_
    refine zt_iload zy_176 (show q_ins q_k176 120 = some (.iload 7, 0, 0) from rfl) (v := Int32.ofInt v7) rfl ?_
    refine zt_iload_n zy_176 (show q_ins q_k176 122 = some (.iload_n 2, 0, 0) from rfl) (v := Int32.ofInt v2) rfl ?_
    refine zt_iload_n zy_176 (show q_ins q_k176 123 = some (.iload_n 3, 0, 0) from rfl) (v := Int32.ofInt v3) rfl ?_
    refine zt_imul zy_176 (show q_ins q_k176 124 = some (.imul, 0, 0) from rfl) ?_
    obtain ⟨hg, h⟩ := zt_ckE h
    refine zt_icmp_ge zy_176 (show q_ins q_k176 125 = some (.if_icmp .ge 10, 135, 0) from rfl) (⟨hg.1, hg.2⟩) (fun hc => ?_) (fun hc => ?_)
    · rw [if_pos hc] at h
      refine zt_iload zy_176 (show q_ins q_k176 128 = some (.iload 7, 0, 0) from rfl) (v := Int32.ofInt v7) rfl ?_
      refine zt_iload_n zy_176 (show q_ins q_k176 130 = some (.iload_n 2, 0, 0) from rfl) (v := Int32.ofInt v2) rfl ?_
      obtain ⟨hg, h⟩ := zt_ckE h
      refine zt_irem zy_176 (show q_ins q_k176 131 = some (.irem, 0, 0) from rfl) hg.1 hg.2 ?_
      refine zt_goto zy_176 (show q_ins q_k176 132 = some (.goto 4, 136, 0) from rfl) ?_
      exact zt_wk (zt_cov_cons rfl (zt_cov_cons rfl (zt_cov_cons rfl (zt_cov_cons rfl (zt_cov_cons rfl (zt_cov_cons rfl (zt_cov_nil))))))) (S_P_areDealt_136  ih _ _ _ _ _ _ _ _ _ _ h)
    · rw [if_neg hc] at h
      refine zt_iconst zy_176 (show q_ins q_k176 135 = some (.iconst (-1), 0, 0) from rfl) ?_
      exact zt_wk (zt_cov_cons rfl (zt_cov_cons rfl (zt_cov_cons rfl (zt_cov_cons rfl (zt_cov_cons rfl (zt_cov_cons rfl (zt_cov_nil))))))) (S_P_areDealt_136  ih _ _ _ _ _ _ _ _ _ _ h)
  · rw [if_neg hc] at h
    refine zt_iconst zy_176 (show q_ins q_k176 147 = some (.iconst 1, 0, 0) from rfl) ?_
    cases h
    exact zt_zret zy_176 (show q_ins q_k176 148 = some (.ireturn, 0, 0) from rfl) (by decide)
set_option maxRecDepth 100000 in
theorem S_P_areDealt_40 {X : q_X}   : ∀ (n : Nat) (v1 : Int) (v2 : Int) (v3 : Int) (v5 : Nat) (v6 : Int) (v7 : Int) (σ : zt_S) (T : zt_T) (o : (Int × zt_S × zt_T)), F_P_areDealt_40  n v1 v2 v3 v5 v6 v7 σ T = some o → zt_Ex X 3 176 40 [(0, .ref 0), (1, .int (Int32.ofInt v1)), (2, .int (Int32.ofInt v2)), (3, .int (Int32.ofInt v3)), (5, .ref (163 + v5)), (6, .int (Int32.ofInt v6)), (7, .int (Int32.ofInt v7))] [] (zt_M T σ) (zl_I o) := by
  intro n
  induction n with
  | zero => intro v1 v2 v3 v5 v6 v7 σ T o  h; cases h
  | succ n ih =>
  intro v1 v2 v3 v5 v6 v7 σ T o  h
  rw [F_P_areDealt_40] at h
  refine zt_iload zy_176 (show q_ins q_k176 40 = some (.iload 7, 0, 0) from rfl) (v := Int32.ofInt v7) rfl ?_
  obtain ⟨hg, h⟩ := zt_ckE h
  refine zt_if_le zy_176 (show q_ins q_k176 42 = some (.ifCond .le 58, 100, 0) from rfl) (hg) (fun hc => ?_) (fun hc => ?_)
  · rw [if_pos hc] at h
    refine zt_iload zy_176 (show q_ins q_k176 45 = some (.iload 6, 0, 0) from rfl) (v := Int32.ofInt v6) rfl ?_
    refine zt_sipush zy_176 (show q_ins q_k176 47 = some (.sipush 1103, 0, 0) from rfl) (by decide) ?_
    refine zt_imul zy_176 (show q_ins q_k176 50 = some (.imul, 0, 0) from rfl) ?_
    refine zt_sipush zy_176 (show q_ins q_k176 51 = some (.sipush 12345, 0, 0) from rfl) (by decide) ?_
    refine zt_iadd zy_176 (show q_ins q_k176 54 = some (.iadd, 0, 0) from rfl) ?_
    refine zt_ldcI zy_176 (show q_ins q_k176 55 = some (.ldc 92, 0, 100003) from rfl) (n := (100003 : Int)) rfl (by decide) ?_
    obtain ⟨hg, h⟩ := zt_ckE h
    refine zt_irem zy_176 (show q_ins q_k176 57 = some (.irem, 0, 0) from rfl) hg (by decide) ?_
    refine zt_istore zy_176 (show q_ins q_k176 58 = some (.istore 6, 0, 0) from rfl) (by decide) ?_
    refine zt_aload zy_176 (show q_ins q_k176 60 = some (.aload 5, 0, 0) from rfl) (v := (163 + v5)) rfl ?_
    refine zt_iload zy_176 (show q_ins q_k176 62 = some (.iload 7, 0, 0) from rfl) (v := Int32.ofInt v7) rfl ?_
    obtain ⟨hg, h⟩ := zt_ckE h
    refine zt_tld zy_176 (show q_ins q_k176 64 = some (.iaload, 0, 0) from rfl) hg ?_
    refine zt_istore zy_176 (show q_ins q_k176 65 = some (.istore 8, 0, 0) from rfl) (by decide) ?_
    refine zt_aload zy_176 (show q_ins q_k176 67 = some (.aload 5, 0, 0) from rfl) (v := (163 + v5)) rfl ?_
    refine zt_iload zy_176 (show q_ins q_k176 69 = some (.iload 7, 0, 0) from rfl) (v := Int32.ofInt v7) rfl ?_
    refine zt_aload zy_176 (show q_ins q_k176 71 = some (.aload 5, 0, 0) from rfl) (v := (163 + v5)) rfl ?_
    refine zt_iload zy_176 (show q_ins q_k176 73 = some (.iload 6, 0, 0) from rfl) (v := Int32.ofInt (((v6 * (1103 : Int)) + (12345 : Int)) % (100003 : Int))) rfl ?_
    refine zt_iload zy_176 (show q_ins q_k176 75 = some (.iload 7, 0, 0) from rfl) (v := Int32.ofInt v7) rfl ?_
    refine zt_iconst zy_176 (show q_ins q_k176 77 = some (.iconst 1, 0, 0) from rfl) ?_
    refine zt_iadd zy_176 (show q_ins q_k176 78 = some (.iadd, 0, 0) from rfl) ?_
    obtain ⟨hg, h⟩ := zt_ckE h
    refine zt_irem zy_176 (show q_ins q_k176 79 = some (.irem, 0, 0) from rfl) hg.1 hg.2 ?_
    obtain ⟨hg, h⟩ := zt_ckE h
    refine zt_tld zy_176 (show q_ins q_k176 80 = some (.iaload, 0, 0) from rfl) hg ?_
    obtain ⟨hg, h⟩ := zt_ckE h
    obtain ⟨t4, ht4, h⟩ := zt_letE h
    refine zt_tst zy_176 (show q_ins q_k176 81 = some (.iastore, 0, 0) from rfl) hg ?_
    rw [← ht4]
    refine zt_aload zy_176 (show q_ins q_k176 82 = some (.aload 5, 0, 0) from rfl) (v := (163 + v5)) rfl ?_
    refine zt_iload zy_176 (show q_ins q_k176 84 = some (.iload 6, 0, 0) from rfl) (v := Int32.ofInt (((v6 * (1103 : Int)) + (12345 : Int)) % (100003 : Int))) rfl ?_
    refine zt_iload zy_176 (show q_ins q_k176 86 = some (.iload 7, 0, 0) from rfl) (v := Int32.ofInt v7) rfl ?_
    refine zt_iconst zy_176 (show q_ins q_k176 88 = some (.iconst 1, 0, 0) from rfl) ?_
    refine zt_iadd zy_176 (show q_ins q_k176 89 = some (.iadd, 0, 0) from rfl) ?_
    obtain ⟨hg, h⟩ := zt_ckE h
    refine zt_irem zy_176 (show q_ins q_k176 90 = some (.irem, 0, 0) from rfl) hg.1 hg.2 ?_
    refine zt_iload zy_176 (show q_ins q_k176 91 = some (.iload 8, 0, 0) from rfl) (v := Int32.ofInt (T.2.2 v5 v7)) rfl ?_
    obtain ⟨hg, h⟩ := zt_ckE h
    obtain ⟨t5, ht5, h⟩ := zt_letE h
    refine zt_tst zy_176 (show q_ins q_k176 93 = some (.iastore, 0, 0) from rfl) hg ?_
    rw [← ht5]
    refine zt_iinc zy_176 (show q_ins q_k176 94 = some (.iinc 7 (-1), 0, 0) from rfl) (v := v7) (by decide) rfl ?_
    refine zt_goto zy_176 (show q_ins q_k176 97 = some (.goto (-57), 40, 0) from rfl) ?_
    exact zt_wk (zt_cov_cons rfl (zt_cov_cons rfl (zt_cov_cons rfl (zt_cov_cons rfl (zt_cov_cons rfl (zt_cov_cons rfl (zt_cov_cons rfl (zt_cov_nil)))))))) (ih _ _ _ _ _ _ _ _ _ h)
  · rw [if_neg hc] at h
    refine zt_iconst zy_176 (show q_ins q_k176 100 = some (.iconst 0, 0, 0) from rfl) ?_
    refine zt_istore zy_176 (show q_ins q_k176 101 = some (.istore 7, 0, 0) from rfl) (by decide) ?_
    exact zt_wk (zt_cov_cons rfl (zt_cov_cons rfl (zt_cov_cons rfl (zt_cov_cons rfl (zt_cov_cons rfl (zt_cov_cons rfl (zt_cov_nil))))))) (S_P_areDealt_103  _ _ _ _ _ _ _ _ _ h)
set_option maxRecDepth 100000 in
theorem S_P_areDealt_9 {X : q_X}   : ∀ (n : Nat) (v1 : Int) (v2 : Int) (v3 : Int) (v4 : Int) (v5 : Nat) (v6 : Int) (σ : zt_S) (T : zt_T) (o : (Int × zt_S × zt_T)), F_P_areDealt_9  n v1 v2 v3 v4 v5 v6 σ T = some o → zt_Ex X 3 176 9 [(0, .ref 0), (1, .int (Int32.ofInt v1)), (2, .int (Int32.ofInt v2)), (3, .int (Int32.ofInt v3)), (4, .int (Int32.ofInt v4)), (5, .ref (163 + v5)), (6, .int (Int32.ofInt v6))] [] (zt_M T σ) (zl_I o) := by
  intro n
  induction n with
  | zero => intro v1 v2 v3 v4 v5 v6 σ T o  h; cases h
  | succ n ih =>
  intro v1 v2 v3 v4 v5 v6 σ T o  h
  rw [F_P_areDealt_9] at h
  refine zt_iload zy_176 (show q_ins q_k176 9 = some (.iload 6, 0, 0) from rfl) (v := Int32.ofInt v6) rfl ?_
  refine zt_bipush zy_176 (show q_ins q_k176 11 = some (.bipush 52, 0, 0) from rfl) (by decide) ?_
  obtain ⟨hg, h⟩ := zt_ckE h
  refine zt_icmp_ge zy_176 (show q_ins q_k176 13 = some (.if_icmp .ge 16, 29, 0) from rfl) (⟨hg, by decide⟩) (fun hc => ?_) (fun hc => ?_)
  · rw [if_pos hc] at h
    refine zt_aload zy_176 (show q_ins q_k176 16 = some (.aload 5, 0, 0) from rfl) (v := (163 + v5)) rfl ?_
    refine zt_iload zy_176 (show q_ins q_k176 18 = some (.iload 6, 0, 0) from rfl) (v := Int32.ofInt v6) rfl ?_
    refine zt_iload zy_176 (show q_ins q_k176 20 = some (.iload 6, 0, 0) from rfl) (v := Int32.ofInt v6) rfl ?_
    obtain ⟨hg, h⟩ := zt_ckE h
    obtain ⟨t3, ht3, h⟩ := zt_letE h
    refine zt_tst zy_176 (show q_ins q_k176 22 = some (.iastore, 0, 0) from rfl) hg ?_
    rw [← ht3]
    refine zt_iinc zy_176 (show q_ins q_k176 23 = some (.iinc 6 1, 0, 0) from rfl) (v := v6) (by decide) rfl ?_
    refine zt_goto zy_176 (show q_ins q_k176 26 = some (.goto (-17), 9, 0) from rfl) ?_
    exact zt_wk (zt_cov_cons rfl (zt_cov_cons rfl (zt_cov_cons rfl (zt_cov_cons rfl (zt_cov_cons rfl (zt_cov_cons rfl (zt_cov_cons rfl (zt_cov_nil)))))))) (ih _ _ _ _ _ _ _ _ _ h)
  · rw [if_neg hc] at h
    refine zt_iload zy_176 (show q_ins q_k176 29 = some (.iload 4, 0, 0) from rfl) (v := Int32.ofInt v4) rfl ?_
    refine zt_istore zy_176 (show q_ins q_k176 31 = some (.istore 6, 0, 0) from rfl) (by decide) ?_
    refine zt_iconst zy_176 (show q_ins q_k176 33 = some (.iconst 4, 0, 0) from rfl) ?_
    refine zt_iload_n zy_176 (show q_ins q_k176 34 = some (.iload_n 1, 0, 0) from rfl) (v := Int32.ofInt v1) rfl ?_
    refine zt_imul zy_176 (show q_ins q_k176 35 = some (.imul, 0, 0) from rfl) ?_
    refine zt_iconst zy_176 (show q_ins q_k176 36 = some (.iconst 1, 0, 0) from rfl) ?_
    refine zt_isub zy_176 (show q_ins q_k176 37 = some (.isub, 0, 0) from rfl) ?_
    refine zt_istore zy_176 (show q_ins q_k176 38 = some (.istore 7, 0, 0) from rfl) (by decide) ?_
    exact zt_wk (zt_cov_cons rfl (zt_cov_cons rfl (zt_cov_cons rfl (zt_cov_cons rfl (zt_cov_cons rfl (zt_cov_cons rfl (zt_cov_cons rfl (zt_cov_nil)))))))) (S_P_areDealt_40  _ _ _ _ _ _ _ _ _ _ h)
set_option maxRecDepth 100000 in
theorem S_P_areDealt {X : q_X}   {v1 : Int} {v2 : Int} {v3 : Int} {v4 : Int} {σ : zt_S} {T : zt_T} {o : (Int × zt_S × zt_T)} (h : F_P_areDealt  v1 v2 v3 v4 σ T = some o) : zt_Ex X 3 176 0 (lv_args 0 [.ref 0, .int (Int32.ofInt v1), .int (Int32.ofInt v2), .int (Int32.ofInt v3), .int (Int32.ofInt v4)]) [] (zt_M T σ) (zl_I o) := by
  unfold F_P_areDealt at h
  refine zt_bipush zy_176 (show q_ins q_k176 0 = some (.bipush 52, 0, 0) from rfl) (by decide) ?_
  obtain ⟨hg, h⟩ := zt_ckE h
  obtain ⟨k2, t1, hk2, ht1, h⟩ := zt_lTE h
  refine zt_tnw (l := 52) zy_176 (show q_ins q_k176 2 = some (.newarray .int, 0, 0) from rfl) (by decide) hg.2 hg.1 ?_
  rw [← hk2, ← ht1]
  refine zt_astore zy_176 (show q_ins q_k176 4 = some (.astore 5, 0, 0) from rfl) (by decide) ?_
  refine zt_iconst zy_176 (show q_ins q_k176 6 = some (.iconst 0, 0, 0) from rfl) ?_
  refine zt_istore zy_176 (show q_ins q_k176 7 = some (.istore 6, 0, 0) from rfl) (by decide) ?_
  exact zt_wk (zt_cov_cons rfl (zt_cov_cons rfl (zt_cov_cons rfl (zt_cov_cons rfl (zt_cov_cons rfl (zt_cov_cons rfl (zt_cov_cons rfl (zt_cov_nil)))))))) (S_P_areDealt_9  _ _ _ _ _ _ _ _ _ _ h)
set_option maxRecDepth 100000 in
theorem S_P_loads_362 {X : q_X} (hX : X.1 ≤ 1000000)   : ∀  (σ : zt_S) (T : zt_T) (o : (Int × zt_S × zt_T)), F_P_loads_362 X   σ T = some o → zt_Ex X 7 175 362 [] [] (zt_M T σ) (zl_I o) := by
  intro  σ T o  h
  unfold F_P_loads_362 at h
  refine zt_iconst zy_175 (show q_ins q_k175 362 = some (.iconst 0, 0, 0) from rfl) ?_
  cases h
  exact zt_zret zy_175 (show q_ins q_k175 363 = some (.ireturn, 0, 0) from rfl) (by decide)
set_option maxRecDepth 100000 in
theorem S_P_loads_330 {X : q_X} (hX : X.1 ≤ 1000000)   : ∀ (v4 : Int) (v5 : Int) (v6 : Int) (v12 : Int) (v13 : Int) (x0 : Int) (x1 : Int) (σ : zt_S) (T : zt_T) (o : (Int × zt_S × zt_T)), F_P_loads_330 X  v4 v5 v6 v12 v13 x0 x1 σ T = some o → zt_Ex X 7 175 330 [(1, .ref 0), (4, .int (Int32.ofInt v4)), (5, .int (Int32.ofInt v5)), (6, .int (Int32.ofInt v6)), (12, .int (Int32.ofInt v12)), (13, .int (Int32.ofInt v13))] [.int (Int32.ofInt x0), .int (Int32.ofInt x1)] (zt_M T σ) (zl_I o) := by
  intro v4 v5 v6 v12 v13 x0 x1 σ T o  h
  unfold F_P_loads_330 at h
  obtain ⟨hg, h⟩ := zt_ckE h
  refine zt_icmp_ne zy_175 (show q_ins q_k175 330 = some (.if_icmp .ne 32, 362, 0) from rfl) (⟨hg.1, hg.2⟩) (fun hc => ?_) (fun hc => ?_)
  · rw [if_pos hc] at h
    refine zt_aload_n zy_175 (show q_ins q_k175 333 = some (.aload_n 1, 0, 0) from rfl) (v := 0) rfl ?_
    refine zt_bipush zy_175 (show q_ins q_k175 334 = some (.bipush 9, 0, 0) from rfl) (by decide) ?_
    obtain ⟨a60, s61, hca60, h⟩ := zt_byE h
    refine zt_callV (d := 6) zy_175 (show q_ins q_k175 336 = some (.invokevirtual 86, 122, 1) from rfl) zy_122 (by decide) ⟨zq_lt (by decide), by decide⟩ rfl (by simp [Value.category]) (by simp [lg_sl, Value.category]) (zt_rcv zc_0) (zt_dm (by decide) (S_C_size hca60)) ?_
    refine zt_iload zy_175 (show q_ins q_k175 339 = some (.iload 12, 0, 0) from rfl) (v := Int32.ofInt v12) rfl ?_
    obtain ⟨hg, h⟩ := zt_ckE h
    refine zt_icmp_ne zy_175 (show q_ins q_k175 341 = some (.if_icmp .ne 21, 362, 0) from rfl) (⟨hg.1, hg.2⟩) (fun hc => ?_) (fun hc => ?_)
    · rw [if_pos hc] at h
      refine zt_aload_n zy_175 (show q_ins q_k175 344 = some (.aload_n 1, 0, 0) from rfl) (v := 0) rfl ?_
      refine zt_bipush zy_175 (show q_ins q_k175 345 = some (.bipush 12, 0, 0) from rfl) (by decide) ?_
      obtain ⟨a62, s63, hca62, h⟩ := zt_byE h
      refine zt_callV (d := 6) zy_175 (show q_ins q_k175 347 = some (.invokevirtual 86, 122, 1) from rfl) zy_122 (by decide) ⟨zq_lt (by decide), by decide⟩ rfl (by simp [Value.category]) (by simp [lg_sl, Value.category]) (zt_rcv zc_0) (zt_dm (by decide) (S_C_size hca62)) ?_
      obtain ⟨hg, h⟩ := zt_ckE h
      refine zt_if_ne zy_175 (show q_ins q_k175 350 = some (.ifCond .ne 12, 362, 0) from rfl) (hg) (fun hc => ?_) (fun hc => ?_)
      · rw [if_pos hc] at h
        refine zt_aload_n zy_175 (show q_ins q_k175 353 = some (.aload_n 1, 0, 0) from rfl) (v := 0) rfl ?_
        refine zt_bipush zy_175 (show q_ins q_k175 354 = some (.bipush 13, 0, 0) from rfl) (by decide) ?_
        obtain ⟨a64, s65, hca64, h⟩ := zt_byE h
        refine zt_callV (d := 6) zy_175 (show q_ins q_k175 356 = some (.invokevirtual 86, 122, 1) from rfl) zy_122 (by decide) ⟨zq_lt (by decide), by decide⟩ rfl (by simp [Value.category]) (by simp [lg_sl, Value.category]) (zt_rcv zc_0) (zt_dm (by decide) (S_C_size hca64)) ?_
        obtain ⟨hg, h⟩ := zt_ckE h
        refine zt_if_eq zy_175 (show q_ins q_k175 359 = some (.ifCond .eq 5, 364, 0) from rfl) (hg) (fun hc => ?_) (fun hc => ?_)
        · rw [if_pos hc] at h
          refine zt_aload_n zy_175 (show q_ins q_k175 364 = some (.aload_n 1, 0, 0) from rfl) (v := 0) rfl ?_
          refine zt_iload zy_175 (show q_ins q_k175 365 = some (.iload 4, 0, 0) from rfl) (v := Int32.ofInt v4) rfl ?_
          refine zt_iload zy_175 (show q_ins q_k175 367 = some (.iload 5, 0, 0) from rfl) (v := Int32.ofInt v5) rfl ?_
          refine zt_iload zy_175 (show q_ins q_k175 369 = some (.iload 6, 0, 0) from rfl) (v := Int32.ofInt v6) rfl ?_
          refine zt_iload zy_175 (show q_ins q_k175 371 = some (.iload 13, 0, 0) from rfl) (v := Int32.ofInt v13) rfl ?_
          obtain ⟨a66, s67, t68, hca66, h⟩ := zt_btE h
          refine zt_callS (d := 6) zy_175 (show q_ins q_k175 373 = some (.invokestatic 88, 176, 5) from rfl) zy_176 (by decide) ⟨zq_lt (by decide), by decide⟩ rfl (by simp [Value.category]) (by simp [lg_sl, Value.category]) rfl (zt_dm (by decide) (S_P_areDealt hca66)) ?_
          obtain ⟨hg, h⟩ := zt_ckE h
          cases h
          exact zt_zret zy_175 (show q_ins q_k175 376 = some (.ireturn, 0, 0) from rfl) hg
        · rw [if_neg hc] at h
          exact zt_wk (zt_cov_nil) (S_P_loads_362 hX  _ _ _ h)
      · rw [if_neg hc] at h
        exact zt_wk (zt_cov_nil) (S_P_loads_362 hX  _ _ _ h)
    · rw [if_neg hc] at h
      exact zt_wk (zt_cov_nil) (S_P_loads_362 hX  _ _ _ h)
  · rw [if_neg hc] at h
    exact zt_wk (zt_cov_nil) (S_P_loads_362 hX  _ _ _ h)
set_option maxRecDepth 100000 in
theorem S_P_loads_302 {X : q_X} (hX : X.1 ≤ 1000000)   : ∀  (σ : zt_S) (T : zt_T) (o : (Int × zt_S × zt_T)), F_P_loads_302 X   σ T = some o → zt_Ex X 7 175 302 [] [] (zt_M T σ) (zl_I o) := by
  intro  σ T o  h
  unfold F_P_loads_302 at h
  refine zt_iconst zy_175 (show q_ins q_k175 302 = some (.iconst 0, 0, 0) from rfl) ?_
  cases h
  exact zt_zret zy_175 (show q_ins q_k175 303 = some (.ireturn, 0, 0) from rfl) (by decide)
set_option maxRecDepth 100000 in
theorem S_P_loads_207 {X : q_X} (hX : X.1 ≤ 1000000)   : ∀ (v4 : Int) (v5 : Int) (v6 : Int) (v7 : Int) (v8 : Int) (v9 : Int) (v12 : Int) (v13 : Int) (σ : zt_S) (T : zt_T) (o : (Int × zt_S × zt_T)), F_P_loads_207 X  v4 v5 v6 v7 v8 v9 v12 v13 σ T = some o → zt_Ex X 7 175 207 [(0, .ref 163), (1, .ref 0), (4, .int (Int32.ofInt v4)), (5, .int (Int32.ofInt v5)), (6, .int (Int32.ofInt v6)), (7, .int (Int32.ofInt v7)), (8, .int (Int32.ofInt v8)), (9, .int (Int32.ofInt v9)), (12, .int (Int32.ofInt v12)), (13, .int (Int32.ofInt v13))] [] (zt_M T σ) (zl_I o) := by
  intro v4 v5 v6 v7 v8 v9 v12 v13 σ T o  h
  unfold F_P_loads_207 at h
  refine zt_aload_n zy_175 (show q_ins q_k175 207 = some (.aload_n 0, 0, 0) from rfl) (v := 163) rfl ?_
  refine zt_ldcS zy_175 (show q_ins q_k175 208 = some (.ldc 69, 1, 17) from rfl) (by decide) ?_
  obtain ⟨hT, h⟩ := zt_ckE h
  obtain ⟨a26, s27, t28, hca26, h⟩ := zt_btE h
  refine zt_callV (d := 6) zy_175 (show q_ins q_k175 210 = some (.invokevirtual 29, 171, 1) from rfl) zy_171 (by decide) ⟨zq_lt (by decide), by decide⟩ rfl (by simp [Value.category]) (by simp [lg_sl, Value.category]) (zt_rcvT hT) (zt_dm (by decide) (S_P_writes zw_17 hca26)) ?_
  refine zt_aload_n zy_175 (show q_ins q_k175 213 = some (.aload_n 0, 0, 0) from rfl) (v := 163) rfl ?_
  refine zt_iload zy_175 (show q_ins q_k175 214 = some (.iload 12, 0, 0) from rfl) (v := Int32.ofInt v12) rfl ?_
  obtain ⟨hT, h⟩ := zt_ckE h
  obtain ⟨a29, s30, t31, hca29, h⟩ := zt_btE h
  refine zt_callV (d := 6) zy_175 (show q_ins q_k175 216 = some (.invokevirtual 55, 172, 1) from rfl) zy_172 (by decide) ⟨zq_lt (by decide), by decide⟩ rfl (by simp [Value.category]) (by simp [lg_sl, Value.category]) (zt_rcvT hT) (zt_dm (by decide) (S_P_spaced hca29)) ?_
  refine zt_aload_n zy_175 (show q_ins q_k175 219 = some (.aload_n 0, 0, 0) from rfl) (v := 163) rfl ?_
  refine zt_ldcS zy_175 (show q_ins q_k175 220 = some (.ldc 71, 1, 18) from rfl) (by decide) ?_
  obtain ⟨hT, h⟩ := zt_ckE h
  obtain ⟨a32, s33, t34, hca32, h⟩ := zt_btE h
  refine zt_callV (d := 6) zy_175 (show q_ins q_k175 222 = some (.invokevirtual 29, 171, 1) from rfl) zy_171 (by decide) ⟨zq_lt (by decide), by decide⟩ rfl (by simp [Value.category]) (by simp [lg_sl, Value.category]) (zt_rcvT hT) (zt_dm (by decide) (S_P_writes zw_18 hca32)) ?_
  refine zt_aload_n zy_175 (show q_ins q_k175 225 = some (.aload_n 0, 0, 0) from rfl) (v := 163) rfl ?_
  refine zt_iload zy_175 (show q_ins q_k175 226 = some (.iload 13, 0, 0) from rfl) (v := Int32.ofInt v13) rfl ?_
  obtain ⟨hT, h⟩ := zt_ckE h
  obtain ⟨a35, s36, t37, hca35, h⟩ := zt_btE h
  refine zt_callV (d := 6) zy_175 (show q_ins q_k175 228 = some (.invokevirtual 55, 172, 1) from rfl) zy_172 (by decide) ⟨zq_lt (by decide), by decide⟩ rfl (by simp [Value.category]) (by simp [lg_sl, Value.category]) (zt_rcvT hT) (zt_dm (by decide) (S_P_spaced hca35)) ?_
  refine zt_aload_n zy_175 (show q_ins q_k175 231 = some (.aload_n 0, 0, 0) from rfl) (v := 163) rfl ?_
  refine zt_ldcS zy_175 (show q_ins q_k175 232 = some (.ldc 73, 1, 19) from rfl) (by decide) ?_
  obtain ⟨hT, h⟩ := zt_ckE h
  obtain ⟨a38, s39, t40, hca38, h⟩ := zt_btE h
  refine zt_callV (d := 6) zy_175 (show q_ins q_k175 234 = some (.invokevirtual 29, 171, 1) from rfl) zy_171 (by decide) ⟨zq_lt (by decide), by decide⟩ rfl (by simp [Value.category]) (by simp [lg_sl, Value.category]) (zt_rcvT hT) (zt_dm (by decide) (S_P_writes zw_19 hca38)) ?_
  refine zt_aload_n zy_175 (show q_ins q_k175 237 = some (.aload_n 1, 0, 0) from rfl) (v := 0) rfl ?_
  refine zt_aload_n zy_175 (show q_ins q_k175 238 = some (.aload_n 0, 0, 0) from rfl) (v := 163) rfl ?_
  refine zt_aload_n zy_175 (show q_ins q_k175 239 = some (.aload_n 1, 0, 0) from rfl) (v := 0) rfl ?_
  obtain ⟨hT, h⟩ := zt_ckE h
  obtain ⟨a41, s42, t43, hca41, h⟩ := zt_btE h
  refine zt_callV (d := 6) zy_175 (show q_ins q_k175 240 = some (.invokevirtual 75, 174, 1) from rfl) zy_174 (by decide) ⟨zq_lt (by decide), by decide⟩ rfl (by simp [Value.category]) (by simp [lg_sl, Value.category]) (zt_rcvT hT) (zt_dm (by decide) (S_P_feeds hca41)) ?_
  obtain ⟨a44, s45, hca44, h⟩ := zt_byE h
  refine zt_callV (d := 6) zy_175 (show q_ins q_k175 243 = some (.invokevirtual 79, 119, 1) from rfl) zy_119 (by decide) ⟨zq_lt (by decide), by decide⟩ rfl (by simp [Value.category]) (by simp [lg_sl, Value.category]) (zt_rcv zc_0) (zt_dm (by decide) (S_C_load hca44)) ?_
  refine zt_iload zy_175 (show q_ins q_k175 246 = some (.iload 5, 0, 0) from rfl) (v := Int32.ofInt v5) rfl ?_
  refine zt_iload zy_175 (show q_ins q_k175 248 = some (.iload 6, 0, 0) from rfl) (v := Int32.ofInt v6) rfl ?_
  refine zt_imul zy_175 (show q_ins q_k175 250 = some (.imul, 0, 0) from rfl) ?_
  obtain ⟨hg, h⟩ := zt_ckE h
  refine zt_icmp_ne zy_175 (show q_ins q_k175 251 = some (.if_icmp .ne 51, 302, 0) from rfl) (⟨hg.1, hg.2⟩) (fun hc => ?_) (fun hc => ?_)
  · rw [if_pos hc] at h
    refine zt_aload_n zy_175 (show q_ins q_k175 254 = some (.aload_n 1, 0, 0) from rfl) (v := 0) rfl ?_
    obtain ⟨a46, s47, hca46, h⟩ := zt_bdE h
    refine zt_callV (d := 6) zy_175 (show q_ins q_k175 255 = some (.invokevirtual 83, 120, 0) from rfl) zy_120 (by decide) ⟨zq_lt (by decide), by decide⟩ rfl (by simp [Value.category]) (by simp [lg_sl, Value.category]) (zt_rcv zc_0) (zt_dm (by decide) (S_C_errorPosition hca46)) ?_
    refine zt_iconst zy_175 (show q_ins q_k175 258 = some (.iconst (-1), 0, 0) from rfl) ?_
    obtain ⟨hg, h⟩ := zt_ckE h
    refine zt_icmp_ne zy_175 (show q_ins q_k175 259 = some (.if_icmp .ne 43, 302, 0) from rfl) (⟨hg, by decide⟩) (fun hc => ?_) (fun hc => ?_)
    · rw [if_pos hc] at h
      refine zt_aload_n zy_175 (show q_ins q_k175 262 = some (.aload_n 1, 0, 0) from rfl) (v := 0) rfl ?_
      refine zt_iconst zy_175 (show q_ins q_k175 263 = some (.iconst 0, 0, 0) from rfl) ?_
      obtain ⟨a48, s49, hca48, h⟩ := zt_byE h
      refine zt_callV (d := 6) zy_175 (show q_ins q_k175 264 = some (.invokevirtual 86, 122, 1) from rfl) zy_122 (by decide) ⟨zq_lt (by decide), by decide⟩ rfl (by simp [Value.category]) (by simp [lg_sl, Value.category]) (zt_rcv zc_0) (zt_dm (by decide) (S_C_size hca48)) ?_
      refine zt_iload zy_175 (show q_ins q_k175 267 = some (.iload 4, 0, 0) from rfl) (v := Int32.ofInt v4) rfl ?_
      obtain ⟨hg, h⟩ := zt_ckE h
      refine zt_icmp_ne zy_175 (show q_ins q_k175 269 = some (.if_icmp .ne 33, 302, 0) from rfl) (⟨hg.1, hg.2⟩) (fun hc => ?_) (fun hc => ?_)
      · rw [if_pos hc] at h
        refine zt_aload_n zy_175 (show q_ins q_k175 272 = some (.aload_n 1, 0, 0) from rfl) (v := 0) rfl ?_
        refine zt_iconst zy_175 (show q_ins q_k175 273 = some (.iconst 1, 0, 0) from rfl) ?_
        obtain ⟨a50, s51, hca50, h⟩ := zt_byE h
        refine zt_callV (d := 6) zy_175 (show q_ins q_k175 274 = some (.invokevirtual 86, 122, 1) from rfl) zy_122 (by decide) ⟨zq_lt (by decide), by decide⟩ rfl (by simp [Value.category]) (by simp [lg_sl, Value.category]) (zt_rcv zc_0) (zt_dm (by decide) (S_C_size hca50)) ?_
        refine zt_iload zy_175 (show q_ins q_k175 277 = some (.iload 5, 0, 0) from rfl) (v := Int32.ofInt v5) rfl ?_
        obtain ⟨hg, h⟩ := zt_ckE h
        refine zt_icmp_ne zy_175 (show q_ins q_k175 279 = some (.if_icmp .ne 23, 302, 0) from rfl) (⟨hg.1, hg.2⟩) (fun hc => ?_) (fun hc => ?_)
        · rw [if_pos hc] at h
          refine zt_aload_n zy_175 (show q_ins q_k175 282 = some (.aload_n 1, 0, 0) from rfl) (v := 0) rfl ?_
          refine zt_iconst zy_175 (show q_ins q_k175 283 = some (.iconst 2, 0, 0) from rfl) ?_
          obtain ⟨a52, s53, hca52, h⟩ := zt_byE h
          refine zt_callV (d := 6) zy_175 (show q_ins q_k175 284 = some (.invokevirtual 86, 122, 1) from rfl) zy_122 (by decide) ⟨zq_lt (by decide), by decide⟩ rfl (by simp [Value.category]) (by simp [lg_sl, Value.category]) (zt_rcv zc_0) (zt_dm (by decide) (S_C_size hca52)) ?_
          refine zt_iload zy_175 (show q_ins q_k175 287 = some (.iload 6, 0, 0) from rfl) (v := Int32.ofInt v6) rfl ?_
          obtain ⟨hg, h⟩ := zt_ckE h
          refine zt_icmp_ne zy_175 (show q_ins q_k175 289 = some (.if_icmp .ne 13, 302, 0) from rfl) (⟨hg.1, hg.2⟩) (fun hc => ?_) (fun hc => ?_)
          · rw [if_pos hc] at h
            refine zt_aload_n zy_175 (show q_ins q_k175 292 = some (.aload_n 1, 0, 0) from rfl) (v := 0) rfl ?_
            refine zt_iconst zy_175 (show q_ins q_k175 293 = some (.iconst 3, 0, 0) from rfl) ?_
            obtain ⟨a54, s55, hca54, h⟩ := zt_byE h
            refine zt_callV (d := 6) zy_175 (show q_ins q_k175 294 = some (.invokevirtual 86, 122, 1) from rfl) zy_122 (by decide) ⟨zq_lt (by decide), by decide⟩ rfl (by simp [Value.category]) (by simp [lg_sl, Value.category]) (zt_rcv zc_0) (zt_dm (by decide) (S_C_size hca54)) ?_
            refine zt_iload zy_175 (show q_ins q_k175 297 = some (.iload 7, 0, 0) from rfl) (v := Int32.ofInt v7) rfl ?_
            obtain ⟨hg, h⟩ := zt_ckE h
            refine zt_icmp_eq zy_175 (show q_ins q_k175 299 = some (.if_icmp .eq 5, 304, 0) from rfl) (⟨hg.1, hg.2⟩) (fun hc => ?_) (fun hc => ?_)
            · rw [if_pos hc] at h
              refine zt_aload_n zy_175 (show q_ins q_k175 304 = some (.aload_n 1, 0, 0) from rfl) (v := 0) rfl ?_
              refine zt_iconst zy_175 (show q_ins q_k175 305 = some (.iconst 4, 0, 0) from rfl) ?_
              obtain ⟨a56, s57, hca56, h⟩ := zt_byE h
              refine zt_callV (d := 6) zy_175 (show q_ins q_k175 306 = some (.invokevirtual 86, 122, 1) from rfl) zy_122 (by decide) ⟨zq_lt (by decide), by decide⟩ rfl (by simp [Value.category]) (by simp [lg_sl, Value.category]) (zt_rcv zc_0) (zt_dm (by decide) (S_C_size hca56)) ?_
              refine zt_iload zy_175 (show q_ins q_k175 309 = some (.iload 8, 0, 0) from rfl) (v := Int32.ofInt v8) rfl ?_
              obtain ⟨hg, h⟩ := zt_ckE h
              refine zt_icmp_ne zy_175 (show q_ins q_k175 311 = some (.if_icmp .ne 51, 362, 0) from rfl) (⟨hg.1, hg.2⟩) (fun hc => ?_) (fun hc => ?_)
              · rw [if_pos hc] at h
                refine zt_aload_n zy_175 (show q_ins q_k175 314 = some (.aload_n 1, 0, 0) from rfl) (v := 0) rfl ?_
                refine zt_iconst zy_175 (show q_ins q_k175 315 = some (.iconst 5, 0, 0) from rfl) ?_
                obtain ⟨a58, s59, hca58, h⟩ := zt_byE h
                refine zt_callV (d := 6) zy_175 (show q_ins q_k175 316 = some (.invokevirtual 86, 122, 1) from rfl) zy_122 (by decide) ⟨zq_lt (by decide), by decide⟩ rfl (by simp [Value.category]) (by simp [lg_sl, Value.category]) (zt_rcv zc_0) (zt_dm (by decide) (S_C_size hca58)) ?_
                refine zt_iload zy_175 (show q_ins q_k175 319 = some (.iload 8, 0, 0) from rfl) (v := Int32.ofInt v8) rfl ?_
                obtain ⟨hg, h⟩ := zt_ckE h
                refine zt_if_ge zy_175 (show q_ins q_k175 321 = some (.ifCond .ge 7, 328, 0) from rfl) (hg) (fun hc => ?_) (fun hc => ?_)
                · rw [if_pos hc] at h
                  refine zt_iconst zy_175 (show q_ins q_k175 324 = some (.iconst 0, 0, 0) from rfl) ?_
                  refine zt_goto zy_175 (show q_ins q_k175 325 = some (.goto 5, 330, 0) from rfl) ?_
                  exact zt_wk (zt_cov_cons rfl (zt_cov_cons rfl (zt_cov_cons rfl (zt_cov_cons rfl (zt_cov_cons rfl (zt_cov_cons rfl (zt_cov_nil))))))) (S_P_loads_330 hX  _ _ _ _ _ _ _ _ _ _ h)
                · rw [if_neg hc] at h
                  refine zt_iload zy_175 (show q_ins q_k175 328 = some (.iload 9, 0, 0) from rfl) (v := Int32.ofInt v9) rfl ?_
                  exact zt_wk (zt_cov_cons rfl (zt_cov_cons rfl (zt_cov_cons rfl (zt_cov_cons rfl (zt_cov_cons rfl (zt_cov_cons rfl (zt_cov_nil))))))) (S_P_loads_330 hX  _ _ _ _ _ _ _ _ _ _ h)
              · rw [if_neg hc] at h
                exact zt_wk (zt_cov_nil) (S_P_loads_362 hX  _ _ _ h)
            · rw [if_neg hc] at h
              exact zt_wk (zt_cov_nil) (S_P_loads_302 hX  _ _ _ h)
          · rw [if_neg hc] at h
            exact zt_wk (zt_cov_nil) (S_P_loads_302 hX  _ _ _ h)
        · rw [if_neg hc] at h
          exact zt_wk (zt_cov_nil) (S_P_loads_302 hX  _ _ _ h)
      · rw [if_neg hc] at h
        exact zt_wk (zt_cov_nil) (S_P_loads_302 hX  _ _ _ h)
    · rw [if_neg hc] at h
      exact zt_wk (zt_cov_nil) (S_P_loads_302 hX  _ _ _ h)
  · rw [if_neg hc] at h
    exact zt_wk (zt_cov_nil) (S_P_loads_302 hX  _ _ _ h)
set_option maxRecDepth 100000 in
theorem S_P_loads_98 {X : q_X} (hX : X.1 ≤ 1000000)   : ∀ (v3 : Int) (v4 : Int) (v5 : Int) (v6 : Int) (v7 : Int) (v8 : Int) (v9 : Int) (v10 : Int) (x0 : Int) (σ : zt_S) (T : zt_T) (o : (Int × zt_S × zt_T)), F_P_loads_98 X  v3 v4 v5 v6 v7 v8 v9 v10 x0 σ T = some o → zt_Ex X 7 175 98 [(0, .ref 163), (1, .ref 0), (2, .ref q_big), (3, .int (Int32.ofInt v3)), (4, .int (Int32.ofInt v4)), (5, .int (Int32.ofInt v5)), (6, .int (Int32.ofInt v6)), (7, .int (Int32.ofInt v7)), (8, .int (Int32.ofInt v8)), (9, .int (Int32.ofInt v9)), (10, .int (Int32.ofInt v10))] [.int (Int32.ofInt x0)] (zt_M T σ) (zl_I o) := by
  intro v3 v4 v5 v6 v7 v8 v9 v10 x0 σ T o  h
  unfold F_P_loads_98 at h
  refine zt_istore zy_175 (show q_ins q_k175 98 = some (.istore 11, 0, 0) from rfl) (by decide) ?_
  refine zt_iload_n zy_175 (show q_ins q_k175 100 = some (.iload_n 3, 0, 0) from rfl) (v := Int32.ofInt v3) rfl ?_
  refine zt_ldcI zy_175 (show q_ins q_k175 101 = some (.ldc 51, 0, 224640) from rfl) (n := (224640 : Int)) rfl (by decide) ?_
  obtain ⟨hg, h⟩ := zt_ckE h
  refine zt_idiv zy_175 (show q_ins q_k175 103 = some (.idiv, 0, 0) from rfl) hg (by decide) ?_
  refine zt_iload zy_175 (show q_ins q_k175 104 = some (.iload 5, 0, 0) from rfl) (v := Int32.ofInt v5) rfl ?_
  obtain ⟨hg, h⟩ := zt_ckE h
  refine zt_irem zy_175 (show q_ins q_k175 106 = some (.irem, 0, 0) from rfl) hg.1 hg.2 ?_
  refine zt_istore zy_175 (show q_ins q_k175 107 = some (.istore 12, 0, 0) from rfl) (by decide) ?_
  refine zt_aload_n zy_175 (show q_ins q_k175 109 = some (.aload_n 2, 0, 0) from rfl) (v := q_big) rfl ?_
  refine zt_iconst zy_175 (show q_ins q_k175 110 = some (.iconst 1, 0, 0) from rfl) ?_
  obtain ⟨a5, s6, t7, hca5, h⟩ := zt_btE h
  refine zt_callS (d := 6) zy_175 (show q_ins q_k175 111 = some (.invokestatic 40, 173, 2) from rfl) zy_173 (by decide) ⟨zq_lt (by decide), by decide⟩ rfl (by simp [Value.category]) (by simp [lg_sl, Value.category]) rfl (zt_dm (by decide) (S_P_cell hX hca5)) ?_
  refine zt_ldcI zy_175 (show q_ins q_k175 114 = some (.ldc 52, 0, 100000) from rfl) (n := (100000 : Int)) rfl (by decide) ?_
  obtain ⟨hg, h⟩ := zt_ckE h
  refine zt_irem zy_175 (show q_ins q_k175 116 = some (.irem, 0, 0) from rfl) hg (by decide) ?_
  refine zt_istore zy_175 (show q_ins q_k175 117 = some (.istore 13, 0, 0) from rfl) (by decide) ?_
  refine zt_aload_n zy_175 (show q_ins q_k175 119 = some (.aload_n 0, 0, 0) from rfl) (v := 163) rfl ?_
  refine zt_ldcS zy_175 (show q_ins q_k175 120 = some (.ldc 53, 1, 10) from rfl) (by decide) ?_
  obtain ⟨hT, h⟩ := zt_ckE h
  obtain ⟨a8, s9, t10, hca8, h⟩ := zt_btE h
  refine zt_callV (d := 6) zy_175 (show q_ins q_k175 122 = some (.invokevirtual 29, 171, 1) from rfl) zy_171 (by decide) ⟨zq_lt (by decide), by decide⟩ rfl (by simp [Value.category]) (by simp [lg_sl, Value.category]) (zt_rcvT hT) (zt_dm (by decide) (S_P_writes zw_10 hca8)) ?_
  refine zt_aload_n zy_175 (show q_ins q_k175 125 = some (.aload_n 0, 0, 0) from rfl) (v := 163) rfl ?_
  refine zt_iload zy_175 (show q_ins q_k175 126 = some (.iload 4, 0, 0) from rfl) (v := Int32.ofInt v4) rfl ?_
  obtain ⟨hT, h⟩ := zt_ckE h
  obtain ⟨a11, s12, t13, hca11, h⟩ := zt_btE h
  refine zt_callV (d := 6) zy_175 (show q_ins q_k175 128 = some (.invokevirtual 55, 172, 1) from rfl) zy_172 (by decide) ⟨zq_lt (by decide), by decide⟩ rfl (by simp [Value.category]) (by simp [lg_sl, Value.category]) (zt_rcvT hT) (zt_dm (by decide) (S_P_spaced hca11)) ?_
  refine zt_aload_n zy_175 (show q_ins q_k175 131 = some (.aload_n 0, 0, 0) from rfl) (v := 163) rfl ?_
  refine zt_iload zy_175 (show q_ins q_k175 132 = some (.iload 5, 0, 0) from rfl) (v := Int32.ofInt v5) rfl ?_
  obtain ⟨hT, h⟩ := zt_ckE h
  obtain ⟨a14, s15, t16, hca14, h⟩ := zt_btE h
  refine zt_callV (d := 6) zy_175 (show q_ins q_k175 134 = some (.invokevirtual 55, 172, 1) from rfl) zy_172 (by decide) ⟨zq_lt (by decide), by decide⟩ rfl (by simp [Value.category]) (by simp [lg_sl, Value.category]) (zt_rcvT hT) (zt_dm (by decide) (S_P_spaced hca14)) ?_
  refine zt_aload_n zy_175 (show q_ins q_k175 137 = some (.aload_n 0, 0, 0) from rfl) (v := 163) rfl ?_
  refine zt_iload zy_175 (show q_ins q_k175 138 = some (.iload 6, 0, 0) from rfl) (v := Int32.ofInt v6) rfl ?_
  obtain ⟨hT, h⟩ := zt_ckE h
  obtain ⟨a17, s18, t19, hca17, h⟩ := zt_btE h
  refine zt_callV (d := 6) zy_175 (show q_ins q_k175 140 = some (.invokevirtual 55, 172, 1) from rfl) zy_172 (by decide) ⟨zq_lt (by decide), by decide⟩ rfl (by simp [Value.category]) (by simp [lg_sl, Value.category]) (zt_rcvT hT) (zt_dm (by decide) (S_P_spaced hca17)) ?_
  refine zt_aload_n zy_175 (show q_ins q_k175 143 = some (.aload_n 0, 0, 0) from rfl) (v := 163) rfl ?_
  refine zt_ldcS zy_175 (show q_ins q_k175 144 = some (.ldc 59, 1, 12) from rfl) (by decide) ?_
  obtain ⟨hT, h⟩ := zt_ckE h
  obtain ⟨a20, s21, t22, hca20, h⟩ := zt_btE h
  refine zt_callV (d := 6) zy_175 (show q_ins q_k175 146 = some (.invokevirtual 29, 171, 1) from rfl) zy_171 (by decide) ⟨zq_lt (by decide), by decide⟩ rfl (by simp [Value.category]) (by simp [lg_sl, Value.category]) (zt_rcvT hT) (zt_dm (by decide) (S_P_writes zw_12 hca20)) ?_
  refine zt_aload_n zy_175 (show q_ins q_k175 149 = some (.aload_n 0, 0, 0) from rfl) (v := 163) rfl ?_
  refine zt_iload zy_175 (show q_ins q_k175 150 = some (.iload 7, 0, 0) from rfl) (v := Int32.ofInt v7) rfl ?_
  obtain ⟨hT, h⟩ := zt_ckE h
  obtain ⟨a23, s24, t25, hca23, h⟩ := zt_btE h
  refine zt_callV (d := 6) zy_175 (show q_ins q_k175 152 = some (.invokevirtual 55, 172, 1) from rfl) zy_172 (by decide) ⟨zq_lt (by decide), by decide⟩ rfl (by simp [Value.category]) (by simp [lg_sl, Value.category]) (zt_rcvT hT) (zt_dm (by decide) (S_P_spaced hca23)) ?_
  refine zt_iload zy_175 (show q_ins q_k175 155 = some (.iload 8, 0, 0) from rfl) (v := Int32.ofInt v8) rfl ?_
  obtain ⟨hg, h⟩ := zt_ckE h
  refine zt_if_lt zy_175 (show q_ins q_k175 157 = some (.ifCond .lt 50, 207, 0) from rfl) (hg) (fun hc => ?_) (fun hc => ?_)
  · rw [if_pos hc] at h
    exact zt_wk (zt_cov_cons rfl (zt_cov_cons rfl (zt_cov_cons rfl (zt_cov_cons rfl (zt_cov_cons rfl (zt_cov_cons rfl (zt_cov_cons rfl (zt_cov_cons rfl (zt_cov_cons rfl (zt_cov_cons rfl (zt_cov_nil))))))))))) (S_P_loads_207 hX  _ _ _ _ _ _ _ _ _ _ _ h)
  · rw [if_neg hc] at h
    refine zt_aload_n zy_175 (show q_ins q_k175 160 = some (.aload_n 0, 0, 0) from rfl) (v := 163) rfl ?_
    refine zt_ldcS zy_175 (show q_ins q_k175 161 = some (.ldc 61, 1, 13) from rfl) (by decide) ?_
    obtain ⟨hT, h⟩ := zt_ckE h
    obtain ⟨a69, s70, t71, hca69, h⟩ := zt_btE h
    refine zt_callV (d := 6) zy_175 (show q_ins q_k175 163 = some (.invokevirtual 29, 171, 1) from rfl) zy_171 (by decide) ⟨zq_lt (by decide), by decide⟩ rfl (by simp [Value.category]) (by simp [lg_sl, Value.category]) (zt_rcvT hT) (zt_dm (by decide) (S_P_writes zw_13 hca69)) ?_
    refine zt_aload_n zy_175 (show q_ins q_k175 166 = some (.aload_n 0, 0, 0) from rfl) (v := 163) rfl ?_
    refine zt_iload zy_175 (show q_ins q_k175 167 = some (.iload 8, 0, 0) from rfl) (v := Int32.ofInt v8) rfl ?_
    obtain ⟨hT, h⟩ := zt_ckE h
    obtain ⟨a72, s73, t74, hca72, h⟩ := zt_btE h
    refine zt_callV (d := 6) zy_175 (show q_ins q_k175 169 = some (.invokevirtual 55, 172, 1) from rfl) zy_172 (by decide) ⟨zq_lt (by decide), by decide⟩ rfl (by simp [Value.category]) (by simp [lg_sl, Value.category]) (zt_rcvT hT) (zt_dm (by decide) (S_P_spaced hca72)) ?_
    refine zt_aload_n zy_175 (show q_ins q_k175 172 = some (.aload_n 0, 0, 0) from rfl) (v := 163) rfl ?_
    refine zt_ldcS zy_175 (show q_ins q_k175 173 = some (.ldc 63, 1, 14) from rfl) (by decide) ?_
    obtain ⟨hT, h⟩ := zt_ckE h
    obtain ⟨a75, s76, t77, hca75, h⟩ := zt_btE h
    refine zt_callV (d := 6) zy_175 (show q_ins q_k175 175 = some (.invokevirtual 29, 171, 1) from rfl) zy_171 (by decide) ⟨zq_lt (by decide), by decide⟩ rfl (by simp [Value.category]) (by simp [lg_sl, Value.category]) (zt_rcvT hT) (zt_dm (by decide) (S_P_writes zw_14 hca75)) ?_
    refine zt_aload_n zy_175 (show q_ins q_k175 178 = some (.aload_n 0, 0, 0) from rfl) (v := 163) rfl ?_
    refine zt_iload zy_175 (show q_ins q_k175 179 = some (.iload 9, 0, 0) from rfl) (v := Int32.ofInt v9) rfl ?_
    obtain ⟨hT, h⟩ := zt_ckE h
    obtain ⟨a78, s79, t80, hca78, h⟩ := zt_btE h
    refine zt_callV (d := 6) zy_175 (show q_ins q_k175 181 = some (.invokevirtual 55, 172, 1) from rfl) zy_172 (by decide) ⟨zq_lt (by decide), by decide⟩ rfl (by simp [Value.category]) (by simp [lg_sl, Value.category]) (zt_rcvT hT) (zt_dm (by decide) (S_P_spaced hca78)) ?_
    refine zt_aload_n zy_175 (show q_ins q_k175 184 = some (.aload_n 0, 0, 0) from rfl) (v := 163) rfl ?_
    refine zt_ldcS zy_175 (show q_ins q_k175 185 = some (.ldc 65, 1, 15) from rfl) (by decide) ?_
    obtain ⟨hT, h⟩ := zt_ckE h
    obtain ⟨a81, s82, t83, hca81, h⟩ := zt_btE h
    refine zt_callV (d := 6) zy_175 (show q_ins q_k175 187 = some (.invokevirtual 29, 171, 1) from rfl) zy_171 (by decide) ⟨zq_lt (by decide), by decide⟩ rfl (by simp [Value.category]) (by simp [lg_sl, Value.category]) (zt_rcvT hT) (zt_dm (by decide) (S_P_writes zw_15 hca81)) ?_
    refine zt_aload_n zy_175 (show q_ins q_k175 190 = some (.aload_n 0, 0, 0) from rfl) (v := 163) rfl ?_
    refine zt_iload zy_175 (show q_ins q_k175 191 = some (.iload 10, 0, 0) from rfl) (v := Int32.ofInt v10) rfl ?_
    obtain ⟨hT, h⟩ := zt_ckE h
    obtain ⟨a84, s85, t86, hca84, h⟩ := zt_btE h
    refine zt_callV (d := 6) zy_175 (show q_ins q_k175 193 = some (.invokevirtual 55, 172, 1) from rfl) zy_172 (by decide) ⟨zq_lt (by decide), by decide⟩ rfl (by simp [Value.category]) (by simp [lg_sl, Value.category]) (zt_rcvT hT) (zt_dm (by decide) (S_P_spaced hca84)) ?_
    refine zt_iload zy_175 (show q_ins q_k175 196 = some (.iload 11, 0, 0) from rfl) (v := Int32.ofInt x0) rfl ?_
    obtain ⟨hg, h⟩ := zt_ckE h
    refine zt_if_eq zy_175 (show q_ins q_k175 198 = some (.ifCond .eq 9, 207, 0) from rfl) (hg) (fun hc => ?_) (fun hc => ?_)
    · rw [if_pos hc] at h
      exact zt_wk (zt_cov_cons rfl (zt_cov_cons rfl (zt_cov_cons rfl (zt_cov_cons rfl (zt_cov_cons rfl (zt_cov_cons rfl (zt_cov_cons rfl (zt_cov_cons rfl (zt_cov_cons rfl (zt_cov_cons rfl (zt_cov_nil))))))))))) (S_P_loads_207 hX  _ _ _ _ _ _ _ _ _ _ _ h)
    · rw [if_neg hc] at h
      refine zt_aload_n zy_175 (show q_ins q_k175 201 = some (.aload_n 0, 0, 0) from rfl) (v := 163) rfl ?_
      refine zt_ldcS zy_175 (show q_ins q_k175 202 = some (.ldc 67, 1, 16) from rfl) (by decide) ?_
      obtain ⟨hT, h⟩ := zt_ckE h
      obtain ⟨a87, s88, t89, hca87, h⟩ := zt_btE h
      refine zt_callV (d := 6) zy_175 (show q_ins q_k175 204 = some (.invokevirtual 29, 171, 1) from rfl) zy_171 (by decide) ⟨zq_lt (by decide), by decide⟩ rfl (by simp [Value.category]) (by simp [lg_sl, Value.category]) (zt_rcvT hT) (zt_dm (by decide) (S_P_writes zw_16 hca87)) ?_
      exact zt_wk (zt_cov_cons rfl (zt_cov_cons rfl (zt_cov_cons rfl (zt_cov_cons rfl (zt_cov_cons rfl (zt_cov_cons rfl (zt_cov_cons rfl (zt_cov_cons rfl (zt_cov_cons rfl (zt_cov_cons rfl (zt_cov_nil))))))))))) (S_P_loads_207 hX  _ _ _ _ _ _ _ _ _ _ _ h)
set_option maxRecDepth 100000 in
theorem S_P_loads {X : q_X} (hX : X.1 ≤ 1000000)    {σ : zt_S} {T : zt_T} {o : (Int × zt_S × zt_T)} (h : F_P_loads X   σ T = some o) : zt_Ex X 7 175 0 (lv_args 0 [.ref 163, .ref 0, .ref q_big]) [] (zt_M T σ) (zl_I o) := by
  unfold F_P_loads at h
  refine zt_aload_n zy_175 (show q_ins q_k175 0 = some (.aload_n 2, 0, 0) from rfl) (v := q_big) rfl ?_
  refine zt_iconst zy_175 (show q_ins q_k175 1 = some (.iconst 0, 0, 0) from rfl) ?_
  obtain ⟨a1, s2, t3, hca1, h⟩ := zt_btE h
  refine zt_callS (d := 6) zy_175 (show q_ins q_k175 2 = some (.invokestatic 40, 173, 2) from rfl) zy_173 (by decide) ⟨zq_lt (by decide), by decide⟩ rfl (by simp [Value.category]) (by simp [lg_sl, Value.category]) rfl (zt_dm (by decide) (S_P_cell hX hca1)) ?_
  refine zt_istore_n zy_175 (show q_ins q_k175 5 = some (.istore_n 3, 0, 0) from rfl) (by decide) ?_
  refine zt_iconst zy_175 (show q_ins q_k175 6 = some (.iconst 4, 0, 0) from rfl) ?_
  refine zt_iload_n zy_175 (show q_ins q_k175 7 = some (.iload_n 3, 0, 0) from rfl) (v := Int32.ofInt a1) rfl ?_
  refine zt_bipush zy_175 (show q_ins q_k175 8 = some (.bipush 6, 0, 0) from rfl) (by decide) ?_
  obtain ⟨hg, h⟩ := zt_ckE h
  refine zt_irem zy_175 (show q_ins q_k175 10 = some (.irem, 0, 0) from rfl) hg (by decide) ?_
  refine zt_iadd zy_175 (show q_ins q_k175 11 = some (.iadd, 0, 0) from rfl) ?_
  refine zt_istore zy_175 (show q_ins q_k175 12 = some (.istore 4, 0, 0) from rfl) (by decide) ?_
  refine zt_iconst zy_175 (show q_ins q_k175 14 = some (.iconst 2, 0, 0) from rfl) ?_
  refine zt_iload_n zy_175 (show q_ins q_k175 15 = some (.iload_n 3, 0, 0) from rfl) (v := Int32.ofInt a1) rfl ?_
  refine zt_bipush zy_175 (show q_ins q_k175 16 = some (.bipush 6, 0, 0) from rfl) (by decide) ?_
  obtain ⟨hg, h⟩ := zt_ckE h
  refine zt_idiv zy_175 (show q_ins q_k175 18 = some (.idiv, 0, 0) from rfl) hg (by decide) ?_
  refine zt_iconst zy_175 (show q_ins q_k175 19 = some (.iconst 3, 0, 0) from rfl) ?_
  obtain ⟨hg, h⟩ := zt_ckE h
  refine zt_irem zy_175 (show q_ins q_k175 20 = some (.irem, 0, 0) from rfl) hg (by decide) ?_
  refine zt_iadd zy_175 (show q_ins q_k175 21 = some (.iadd, 0, 0) from rfl) ?_
  refine zt_istore zy_175 (show q_ins q_k175 22 = some (.istore 5, 0, 0) from rfl) (by decide) ?_
  refine zt_iconst zy_175 (show q_ins q_k175 24 = some (.iconst 1, 0, 0) from rfl) ?_
  refine zt_iload_n zy_175 (show q_ins q_k175 25 = some (.iload_n 3, 0, 0) from rfl) (v := Int32.ofInt a1) rfl ?_
  refine zt_bipush zy_175 (show q_ins q_k175 26 = some (.bipush 18, 0, 0) from rfl) (by decide) ?_
  obtain ⟨hg, h⟩ := zt_ckE h
  refine zt_idiv zy_175 (show q_ins q_k175 28 = some (.idiv, 0, 0) from rfl) hg (by decide) ?_
  refine zt_bipush zy_175 (show q_ins q_k175 29 = some (.bipush 6, 0, 0) from rfl) (by decide) ?_
  refine zt_iconst zy_175 (show q_ins q_k175 31 = some (.iconst 4, 0, 0) from rfl) ?_
  refine zt_iload zy_175 (show q_ins q_k175 32 = some (.iload 4, 0, 0) from rfl) (v := Int32.ofInt ((4 : Int) + (a1 % (6 : Int)))) rfl ?_
  refine zt_imul zy_175 (show q_ins q_k175 34 = some (.imul, 0, 0) from rfl) ?_
  refine zt_iload zy_175 (show q_ins q_k175 35 = some (.iload 5, 0, 0) from rfl) (v := Int32.ofInt ((2 : Int) + ((a1 / (6 : Int)) % (3 : Int)))) rfl ?_
  obtain ⟨hg, h⟩ := zt_ckE h
  refine zt_idiv zy_175 (show q_ins q_k175 37 = some (.idiv, 0, 0) from rfl) hg.1 hg.2 ?_
  obtain ⟨hg, h⟩ := zt_ckE h
  refine zt_min zy_175 (show q_ins q_k175 38 = some (.invokestatic 44, 911, 2) from rfl) rfl ⟨by decide, hg⟩ (by simp [Value.category]) ?_
  obtain ⟨hg, h⟩ := zt_ckE h
  refine zt_irem zy_175 (show q_ins q_k175 41 = some (.irem, 0, 0) from rfl) hg.1 hg.2 ?_
  refine zt_iadd zy_175 (show q_ins q_k175 42 = some (.iadd, 0, 0) from rfl) ?_
  obtain ⟨e4, he4, h⟩ := zt_letE h
  rw [← he4]
  refine zt_istore zy_175 (show q_ins q_k175 43 = some (.istore 6, 0, 0) from rfl) (by decide) ?_
  refine zt_iload_n zy_175 (show q_ins q_k175 45 = some (.iload_n 3, 0, 0) from rfl) (v := Int32.ofInt a1) rfl ?_
  refine zt_bipush zy_175 (show q_ins q_k175 46 = some (.bipush 108, 0, 0) from rfl) (by decide) ?_
  obtain ⟨hg, h⟩ := zt_ckE h
  refine zt_idiv zy_175 (show q_ins q_k175 48 = some (.idiv, 0, 0) from rfl) hg (by decide) ?_
  refine zt_iconst zy_175 (show q_ins q_k175 49 = some (.iconst 4, 0, 0) from rfl) ?_
  obtain ⟨hg, h⟩ := zt_ckE h
  refine zt_irem zy_175 (show q_ins q_k175 50 = some (.irem, 0, 0) from rfl) hg (by decide) ?_
  refine zt_istore zy_175 (show q_ins q_k175 51 = some (.istore 7, 0, 0) from rfl) (by decide) ?_
  refine zt_iload_n zy_175 (show q_ins q_k175 53 = some (.iload_n 3, 0, 0) from rfl) (v := Int32.ofInt a1) rfl ?_
  refine zt_sipush zy_175 (show q_ins q_k175 54 = some (.sipush 432, 0, 0) from rfl) (by decide) ?_
  obtain ⟨hg, h⟩ := zt_ckE h
  refine zt_idiv zy_175 (show q_ins q_k175 57 = some (.idiv, 0, 0) from rfl) hg (by decide) ?_
  refine zt_iconst zy_175 (show q_ins q_k175 58 = some (.iconst 5, 0, 0) from rfl) ?_
  obtain ⟨hg, h⟩ := zt_ckE h
  refine zt_irem zy_175 (show q_ins q_k175 59 = some (.irem, 0, 0) from rfl) hg (by decide) ?_
  refine zt_iconst zy_175 (show q_ins q_k175 60 = some (.iconst 1, 0, 0) from rfl) ?_
  refine zt_isub zy_175 (show q_ins q_k175 61 = some (.isub, 0, 0) from rfl) ?_
  refine zt_istore zy_175 (show q_ins q_k175 62 = some (.istore 8, 0, 0) from rfl) (by decide) ?_
  refine zt_iload_n zy_175 (show q_ins q_k175 64 = some (.iload_n 3, 0, 0) from rfl) (v := Int32.ofInt a1) rfl ?_
  refine zt_sipush zy_175 (show q_ins q_k175 65 = some (.sipush 2160, 0, 0) from rfl) (by decide) ?_
  obtain ⟨hg, h⟩ := zt_ckE h
  refine zt_idiv zy_175 (show q_ins q_k175 68 = some (.idiv, 0, 0) from rfl) hg (by decide) ?_
  refine zt_bipush zy_175 (show q_ins q_k175 69 = some (.bipush 13, 0, 0) from rfl) (by decide) ?_
  obtain ⟨hg, h⟩ := zt_ckE h
  refine zt_irem zy_175 (show q_ins q_k175 71 = some (.irem, 0, 0) from rfl) hg (by decide) ?_
  refine zt_istore zy_175 (show q_ins q_k175 72 = some (.istore 9, 0, 0) from rfl) (by decide) ?_
  refine zt_iload_n zy_175 (show q_ins q_k175 74 = some (.iload_n 3, 0, 0) from rfl) (v := Int32.ofInt a1) rfl ?_
  refine zt_sipush zy_175 (show q_ins q_k175 75 = some (.sipush 28080, 0, 0) from rfl) (by decide) ?_
  obtain ⟨hg, h⟩ := zt_ckE h
  refine zt_idiv zy_175 (show q_ins q_k175 78 = some (.idiv, 0, 0) from rfl) hg (by decide) ?_
  refine zt_iconst zy_175 (show q_ins q_k175 79 = some (.iconst 4, 0, 0) from rfl) ?_
  obtain ⟨hg, h⟩ := zt_ckE h
  refine zt_irem zy_175 (show q_ins q_k175 80 = some (.irem, 0, 0) from rfl) hg (by decide) ?_
  refine zt_istore zy_175 (show q_ins q_k175 81 = some (.istore 10, 0, 0) from rfl) (by decide) ?_
  refine zt_iload_n zy_175 (show q_ins q_k175 83 = some (.iload_n 3, 0, 0) from rfl) (v := Int32.ofInt a1) rfl ?_
  refine zt_ldcI zy_175 (show q_ins q_k175 84 = some (.ldc 50, 0, 112320) from rfl) (n := (112320 : Int)) rfl (by decide) ?_
  obtain ⟨hg, h⟩ := zt_ckE h
  refine zt_idiv zy_175 (show q_ins q_k175 86 = some (.idiv, 0, 0) from rfl) hg (by decide) ?_
  refine zt_iconst zy_175 (show q_ins q_k175 87 = some (.iconst 2, 0, 0) from rfl) ?_
  obtain ⟨hg, h⟩ := zt_ckE h
  refine zt_irem zy_175 (show q_ins q_k175 88 = some (.irem, 0, 0) from rfl) hg (by decide) ?_
  refine zt_iconst zy_175 (show q_ins q_k175 89 = some (.iconst 1, 0, 0) from rfl) ?_
  obtain ⟨hg, h⟩ := zt_ckE h
  refine zt_icmp_ne zy_175 (show q_ins q_k175 90 = some (.if_icmp .ne 7, 97, 0) from rfl) (⟨hg, by decide⟩) (fun hc => ?_) (fun hc => ?_)
  · rw [if_pos hc] at h
    refine zt_iconst zy_175 (show q_ins q_k175 93 = some (.iconst 1, 0, 0) from rfl) ?_
    refine zt_goto zy_175 (show q_ins q_k175 94 = some (.goto 4, 98, 0) from rfl) ?_
    exact zt_wk (zt_cov_cons rfl (zt_cov_cons rfl (zt_cov_cons rfl (zt_cov_cons rfl (zt_cov_cons rfl (zt_cov_cons rfl (zt_cov_cons rfl (zt_cov_cons rfl (zt_cov_cons rfl (zt_cov_cons rfl (zt_cov_cons rfl (zt_cov_nil)))))))))))) (S_P_loads_98 hX  _ _ _ _ _ _ _ _ _ _ _ _ h)
  · rw [if_neg hc] at h
    refine zt_iconst zy_175 (show q_ins q_k175 97 = some (.iconst 0, 0, 0) from rfl) ?_
    exact zt_wk (zt_cov_cons rfl (zt_cov_cons rfl (zt_cov_cons rfl (zt_cov_cons rfl (zt_cov_cons rfl (zt_cov_cons rfl (zt_cov_cons rfl (zt_cov_cons rfl (zt_cov_cons rfl (zt_cov_cons rfl (zt_cov_cons rfl (zt_cov_nil)))))))))))) (S_P_loads_98 hX  _ _ _ _ _ _ _ _ _ _ _ _ h)
