/-! the mini-machine does what the functions say (by program) -/
section TT
variable {T : zt_T}
theorem S_Tr_wouldBeBest_25 {X : q_X} {t0 : Nat} {t1 : Nat} (ht0 : t0 ∈ zt_tris) (ht1 : t1 ∈ zt_sets) : ∀ (x0 : Int) (σ : zt_S) (o : (Int × zt_S)), F_Tr_wouldBeBest_25 t0 t1 x0 σ = some o → zt_Ex X 2 110 25 [] [.int (Int32.ofInt x0)] (zt_M T σ) (zo_I T o) := by
  intro x0 σ o  h
  unfold F_Tr_wouldBeBest_25 at h
  obtain ⟨hg, h⟩ := zt_ckE h
  cases h
  exact zt_zret zy_110 (show q_ins q_k110 25 = some (.ireturn, 0, 0) from rfl) hg
theorem S_Tr_wouldBeBest_20 {X : q_X} {t0 : Nat} {t1 : Nat} (ht0 : t0 ∈ zt_tris) (ht1 : t1 ∈ zt_sets) : ∀  (σ : zt_S) (o : (Int × zt_S)), F_Tr_wouldBeBest_20 t0 t1  σ = some o → zt_Ex X 2 110 20 [] [] (zt_M T σ) (zo_I T o) := by
  intro  σ o  h
  unfold F_Tr_wouldBeBest_20 at h
  refine zt_iconst zy_110 (show q_ins q_k110 20 = some (.iconst 1, 0, 0) from rfl) ?_
  refine zt_goto zy_110 (show q_ins q_k110 21 = some (.goto 4, 25, 0) from rfl) ?_
  exact zt_wk (zt_cov_nil) (S_Tr_wouldBeBest_25  ht0 ht1 _ _ _ h)
theorem S_Tr_wouldBeBest {X : q_X} {t0 : Nat} {t1 : Nat} (ht0 : t0 ∈ zt_tris) (ht1 : t1 ∈ zt_sets) {v2 : Int} {σ : zt_S} {o : (Int × zt_S)} (h : F_Tr_wouldBeBest t0 t1 v2 σ = some o) : zt_Ex X 2 110 0 (lv_args 0 [.ref t0, .ref t1, .int (Int32.ofInt v2)]) [] (zt_M T σ) (zo_I T o) := by
  unfold F_Tr_wouldBeBest at h
  refine zt_aload_n zy_110 (show q_ins q_k110 0 = some (.aload_n 0, 0, 0) from rfl) (v := t0) rfl ?_
  refine zt_getI zy_110 (show q_ins q_k110 1 = some (.getfield 30, 9, 2) from rfl) (j := 2) (zk_K_2 ht0) rfl ?_
  obtain ⟨hg, h⟩ := zt_ckE h
  refine zt_if_eq zy_110 (show q_ins q_k110 4 = some (.ifCond .eq 16, 20, 0) from rfl) (hg) (fun hc => ?_) (fun hc => ?_)
  · rw [if_pos hc] at h
    exact zt_wk (zt_cov_nil) (S_Tr_wouldBeBest_20  ht0 ht1 _ _ h)
  · rw [if_neg hc] at h
    refine zt_aload_n zy_110 (show q_ins q_k110 7 = some (.aload_n 0, 0, 0) from rfl) (v := t0) rfl ?_
    refine zt_aload_n zy_110 (show q_ins q_k110 8 = some (.aload_n 1, 0, 0) from rfl) (v := t1) rfl ?_
    refine zt_iload_n zy_110 (show q_ins q_k110 9 = some (.iload_n 2, 0, 0) from rfl) (v := Int32.ofInt v2) rfl ?_
    obtain ⟨a1, s2, hca1, h⟩ := zt_bdE h
    refine zt_callV (d := 1) zy_110 (show q_ins q_k110 10 = some (.invokevirtual 48, 108, 2) from rfl) zy_108 (by decide) ⟨zq_lt (by decide), by decide⟩ rfl (by simp [Value.category]) (by simp [lg_sl, Value.category]) (zt_rcv (zc_K ht0)) (zt_dm (by decide) (S_Tr_powerOf ht0 ht1 hca1)) ?_
    refine zt_aload_n zy_110 (show q_ins q_k110 13 = some (.aload_n 0, 0, 0) from rfl) (v := t0) rfl ?_
    refine zt_getI zy_110 (show q_ins q_k110 14 = some (.getfield 33, 9, 4) from rfl) (j := 4) (zk_K_4 ht0) rfl ?_
    obtain ⟨hg, h⟩ := zt_ckE h
    refine zt_icmp_le zy_110 (show q_ins q_k110 17 = some (.if_icmp .le 7, 24, 0) from rfl) (⟨hg.1, hg.2⟩) (fun hc => ?_) (fun hc => ?_)
    · rw [if_pos hc] at h
      exact zt_wk (zt_cov_nil) (S_Tr_wouldBeBest_20  ht0 ht1 _ _ h)
    · rw [if_neg hc] at h
      refine zt_iconst zy_110 (show q_ins q_k110 24 = some (.iconst 0, 0, 0) from rfl) ?_
      exact zt_wk (zt_cov_nil) (S_Tr_wouldBeBest_25  ht0 ht1 _ _ _ h)
theorem S_Tb_hasLessPower_37 {X : q_X} {t0 : Nat} (ht0 : t0 ∈ zt_tabs) : ∀ (x0 : Int) (σ : zt_S) (o : (Int × zt_S)), F_Tb_hasLessPower_37 t0 x0 σ = some o → zt_Ex X 2 77 37 [] [.int (Int32.ofInt x0)] (zt_M T σ) (zo_I T o) := by
  intro x0 σ o  h
  unfold F_Tb_hasLessPower_37 at h
  obtain ⟨hg, h⟩ := zt_ckE h
  cases h
  exact zt_zret zy_77 (show q_ins q_k77 37 = some (.ireturn, 0, 0) from rfl) hg
theorem S_Tb_hasLessPower_32 {X : q_X} {t0 : Nat} (ht0 : t0 ∈ zt_tabs) : ∀  (σ : zt_S) (o : (Int × zt_S)), F_Tb_hasLessPower_32 t0  σ = some o → zt_Ex X 2 77 32 [] [] (zt_M T σ) (zo_I T o) := by
  intro  σ o  h
  unfold F_Tb_hasLessPower_32 at h
  refine zt_iconst zy_77 (show q_ins q_k77 32 = some (.iconst 1, 0, 0) from rfl) ?_
  refine zt_goto zy_77 (show q_ins q_k77 33 = some (.goto 4, 37, 0) from rfl) ?_
  exact zt_wk (zt_cov_nil) (S_Tb_hasLessPower_37  ht0 _ _ _ h)
theorem S_Tb_hasLessPower {X : q_X} {t0 : Nat} (ht0 : t0 ∈ zt_tabs) {v1 : Int} {v2 : Int} {σ : zt_S} {o : (Int × zt_S)} (h : F_Tb_hasLessPower t0 v1 v2 σ = some o) : zt_Ex X 2 77 0 (lv_args 0 [.ref t0, .int (Int32.ofInt v1), .int (Int32.ofInt v2)]) [] (zt_M T σ) (zo_I T o) := by
  unfold F_Tb_hasLessPower at h
  refine zt_iload_n zy_77 (show q_ins q_k77 0 = some (.iload_n 2, 0, 0) from rfl) (v := Int32.ofInt v2) rfl ?_
  refine zt_iconst zy_77 (show q_ins q_k77 1 = some (.iconst (-1), 0, 0) from rfl) ?_
  obtain ⟨hg, h⟩ := zt_ckE h
  refine zt_icmp_eq zy_77 (show q_ins q_k77 2 = some (.if_icmp .eq 30, 32, 0) from rfl) (⟨hg, by decide⟩) (fun hc => ?_) (fun hc => ?_)
  · rw [if_pos hc] at h
    exact zt_wk (zt_cov_nil) (S_Tb_hasLessPower_32  ht0 _ _ h)
  · rw [if_neg hc] at h
    refine zt_aload_n zy_77 (show q_ins q_k77 5 = some (.aload_n 0, 0, 0) from rfl) (v := t0) rfl ?_
    refine zt_getR zy_77 (show q_ins q_k77 6 = some (.getfield 12, 6, 1) from rfl) (r := (t0 + 1)) (zk_T_1 ht0) ?_
    refine zt_aload_n zy_77 (show q_ins q_k77 9 = some (.aload_n 0, 0, 0) from rfl) (v := t0) rfl ?_
    refine zt_getR zy_77 (show q_ins q_k77 10 = some (.getfield 44, 6, 0) from rfl) (r := (zt_su t0)) (zk_T_0 ht0) ?_
    refine zt_iload_n zy_77 (show q_ins q_k77 13 = some (.iload_n 1, 0, 0) from rfl) (v := Int32.ofInt v1) rfl ?_
    obtain ⟨a1, s2, hca1, h⟩ := zt_bdE h
    refine zt_callV (d := 1) zy_77 (show q_ins q_k77 14 = some (.invokevirtual 265, 108, 2) from rfl) zy_108 (by decide) ⟨zq_lt (by decide), by decide⟩ rfl (by simp [Value.category]) (by simp [lg_sl, Value.category]) (zt_rcv (zc_K (zm_T1 ht0))) (zt_dm (by decide) (S_Tr_powerOf (zm_T1 ht0) (zm_T0 ht0) hca1)) ?_
    refine zt_aload_n zy_77 (show q_ins q_k77 17 = some (.aload_n 0, 0, 0) from rfl) (v := t0) rfl ?_
    refine zt_getR zy_77 (show q_ins q_k77 18 = some (.getfield 12, 6, 1) from rfl) (r := (t0 + 1)) (zk_T_1 ht0) ?_
    refine zt_aload_n zy_77 (show q_ins q_k77 21 = some (.aload_n 0, 0, 0) from rfl) (v := t0) rfl ?_
    refine zt_getR zy_77 (show q_ins q_k77 22 = some (.getfield 44, 6, 0) from rfl) (r := (zt_su t0)) (zk_T_0 ht0) ?_
    refine zt_iload_n zy_77 (show q_ins q_k77 25 = some (.iload_n 2, 0, 0) from rfl) (v := Int32.ofInt v2) rfl ?_
    obtain ⟨a3, s4, hca3, h⟩ := zt_bdE h
    refine zt_callV (d := 1) zy_77 (show q_ins q_k77 26 = some (.invokevirtual 265, 108, 2) from rfl) zy_108 (by decide) ⟨zq_lt (by decide), by decide⟩ rfl (by simp [Value.category]) (by simp [lg_sl, Value.category]) (zt_rcv (zc_K (zm_T1 ht0))) (zt_dm (by decide) (S_Tr_powerOf (zm_T1 ht0) (zm_T0 ht0) hca3)) ?_
    obtain ⟨hg, h⟩ := zt_ckE h
    refine zt_icmp_ge zy_77 (show q_ins q_k77 29 = some (.if_icmp .ge 7, 36, 0) from rfl) (⟨hg.1, hg.2⟩) (fun hc => ?_) (fun hc => ?_)
    · rw [if_pos hc] at h
      exact zt_wk (zt_cov_nil) (S_Tb_hasLessPower_32  ht0 _ _ h)
    · rw [if_neg hc] at h
      refine zt_iconst zy_77 (show q_ins q_k77 36 = some (.iconst 0, 0, 0) from rfl) ?_
      exact zt_wk (zt_cov_nil) (S_Tb_hasLessPower_37  ht0 _ _ _ h)
theorem S_Tb_cheapest_97 {X : q_X} {t0 : Nat} (ht0 : t0 ∈ zt_tabs) {r13 : Int64 → Int → Int → Int → zt_S → Option (Int × zt_S)} (hr13 : ∀ (v1 : Int64) (v3 : Int) (v4 : Int) (v5 : Int) (σ : zt_S) (o : (Int × zt_S)), r13 v1 v3 v4 v5 σ = some o → zt_Ex X 3 76 13 [(0, .ref t0), (1, .long v1), (3, .int (Int32.ofInt v3)), (4, .int (Int32.ofInt v4)), (5, .int (Int32.ofInt v5))] [] (zt_M T σ) (zo_I T o)) : ∀ (v1 : Int64) (v3 : Int) (v4 : Int) (v5 : Int) (σ : zt_S) (o : (Int × zt_S)), F_Tb_cheapest_97 t0 r13 v1 v3 v4 v5 σ = some o → zt_Ex X 3 76 97 [(0, .ref t0), (1, .long v1), (3, .int (Int32.ofInt v3)), (4, .int (Int32.ofInt v4)), (5, .int (Int32.ofInt v5))] [] (zt_M T σ) (zo_I T o) := by
  intro v1 v3 v4 v5 σ o  h
  unfold F_Tb_cheapest_97 at h
  refine zt_iinc zy_76 (show q_ins q_k76 97 = some (.iinc 5 1, 0, 0) from rfl) (v := v5) (by decide) rfl ?_
  refine zt_goto zy_76 (show q_ins q_k76 100 = some (.goto (-87), 13, 0) from rfl) ?_
  exact zt_wk (zt_cov_cons rfl (zt_cov_cons rfl (zt_cov_cons rfl (zt_cov_cons rfl (zt_cov_cons rfl (zt_cov_nil)))))) (hr13 _ _ _ _ _ _ h)
theorem S_Tb_cheapest_93 {X : q_X} {t0 : Nat} (ht0 : t0 ∈ zt_tabs) {r13 : Int64 → Int → Int → Int → zt_S → Option (Int × zt_S)} (hr13 : ∀ (v1 : Int64) (v3 : Int) (v4 : Int) (v5 : Int) (σ : zt_S) (o : (Int × zt_S)), r13 v1 v3 v4 v5 σ = some o → zt_Ex X 3 76 13 [(0, .ref t0), (1, .long v1), (3, .int (Int32.ofInt v3)), (4, .int (Int32.ofInt v4)), (5, .int (Int32.ofInt v5))] [] (zt_M T σ) (zo_I T o)) : ∀ (v1 : Int64) (v3 : Int) (v5 : Int) (σ : zt_S) (o : (Int × zt_S)), F_Tb_cheapest_93 t0 r13 v1 v3 v5 σ = some o → zt_Ex X 3 76 93 [(0, .ref t0), (1, .long v1), (3, .int (Int32.ofInt v3)), (5, .int (Int32.ofInt v5))] [] (zt_M T σ) (zo_I T o) := by
  intro v1 v3 v5 σ o  h
  unfold F_Tb_cheapest_93 at h
  refine zt_iload zy_76 (show q_ins q_k76 93 = some (.iload 5, 0, 0) from rfl) (v := Int32.ofInt v5) rfl ?_
  refine zt_istore zy_76 (show q_ins q_k76 95 = some (.istore 4, 0, 0) from rfl) (by decide) ?_
  exact zt_wk (zt_cov_cons rfl (zt_cov_cons rfl (zt_cov_cons rfl (zt_cov_cons rfl (zt_cov_cons rfl (zt_cov_nil)))))) (S_Tb_cheapest_97  ht0 hr13 _ _ _ _ _ _ h)
theorem S_Tb_cheapest_66 {X : q_X} {t0 : Nat} (ht0 : t0 ∈ zt_tabs) {r13 : Int64 → Int → Int → Int → zt_S → Option (Int × zt_S)} (hr13 : ∀ (v1 : Int64) (v3 : Int) (v4 : Int) (v5 : Int) (σ : zt_S) (o : (Int × zt_S)), r13 v1 v3 v4 v5 σ = some o → zt_Ex X 3 76 13 [(0, .ref t0), (1, .long v1), (3, .int (Int32.ofInt v3)), (4, .int (Int32.ofInt v4)), (5, .int (Int32.ofInt v5))] [] (zt_M T σ) (zo_I T o)) : ∀ (v1 : Int64) (v3 : Int) (v4 : Int) (v5 : Int) (σ : zt_S) (o : (Int × zt_S)), F_Tb_cheapest_66 t0 r13 v1 v3 v4 v5 σ = some o → zt_Ex X 3 76 66 [(0, .ref t0), (1, .long v1), (3, .int (Int32.ofInt v3)), (4, .int (Int32.ofInt v4)), (5, .int (Int32.ofInt v5))] [] (zt_M T σ) (zo_I T o) := by
  intro v1 v3 v4 v5 σ o  h
  unfold F_Tb_cheapest_66 at h
  refine zt_iload zy_76 (show q_ins q_k76 66 = some (.iload 4, 0, 0) from rfl) (v := Int32.ofInt v4) rfl ?_
  refine zt_iconst zy_76 (show q_ins q_k76 68 = some (.iconst (-1), 0, 0) from rfl) ?_
  obtain ⟨hg, h⟩ := zt_ckE h
  refine zt_icmp_eq zy_76 (show q_ins q_k76 69 = some (.if_icmp .eq 24, 93, 0) from rfl) (⟨hg, by decide⟩) (fun hc => ?_) (fun hc => ?_)
  · rw [if_pos hc] at h
    exact zt_wk (zt_cov_cons rfl (zt_cov_cons rfl (zt_cov_cons rfl (zt_cov_cons rfl (zt_cov_nil))))) (S_Tb_cheapest_93  ht0 hr13 _ _ _ _ _ h)
  · rw [if_neg hc] at h
    refine zt_aload_n zy_76 (show q_ins q_k76 72 = some (.aload_n 0, 0, 0) from rfl) (v := t0) rfl ?_
    refine zt_getR zy_76 (show q_ins q_k76 73 = some (.getfield 44, 6, 0) from rfl) (r := (zt_su t0)) (zk_T_0 ht0) ?_
    refine zt_iload zy_76 (show q_ins q_k76 76 = some (.iload 5, 0, 0) from rfl) (v := Int32.ofInt v5) rfl ?_
    obtain ⟨a9, s10, hca9, h⟩ := zt_bdE h
    refine zt_callV (d := 2) zy_76 (show q_ins q_k76 78 = some (.invokevirtual 276, 34, 1) from rfl) zy_34 (by decide) ⟨zq_lt (by decide), by decide⟩ rfl (by simp [Value.category]) (by simp [lg_sl, Value.category]) (zt_rcv (zc_S (zm_T0 ht0))) (zt_dm (by decide) (S_Su_rankOf (zm_T0 ht0) hca9)) ?_
    refine zt_aload_n zy_76 (show q_ins q_k76 81 = some (.aload_n 0, 0, 0) from rfl) (v := t0) rfl ?_
    refine zt_getR zy_76 (show q_ins q_k76 82 = some (.getfield 44, 6, 0) from rfl) (r := (zt_su t0)) (zk_T_0 ht0) ?_
    refine zt_iload zy_76 (show q_ins q_k76 85 = some (.iload 4, 0, 0) from rfl) (v := Int32.ofInt v4) rfl ?_
    obtain ⟨a11, s12, hca11, h⟩ := zt_bdE h
    refine zt_callV (d := 2) zy_76 (show q_ins q_k76 87 = some (.invokevirtual 276, 34, 1) from rfl) zy_34 (by decide) ⟨zq_lt (by decide), by decide⟩ rfl (by simp [Value.category]) (by simp [lg_sl, Value.category]) (zt_rcv (zc_S (zm_T0 ht0))) (zt_dm (by decide) (S_Su_rankOf (zm_T0 ht0) hca11)) ?_
    obtain ⟨hg, h⟩ := zt_ckE h
    refine zt_icmp_ge zy_76 (show q_ins q_k76 90 = some (.if_icmp .ge 7, 97, 0) from rfl) (⟨hg.1, hg.2⟩) (fun hc => ?_) (fun hc => ?_)
    · rw [if_pos hc] at h
      exact zt_wk (zt_cov_cons rfl (zt_cov_cons rfl (zt_cov_cons rfl (zt_cov_cons rfl (zt_cov_nil))))) (S_Tb_cheapest_93  ht0 hr13 _ _ _ _ _ h)
    · rw [if_neg hc] at h
      exact zt_wk (zt_cov_cons rfl (zt_cov_cons rfl (zt_cov_cons rfl (zt_cov_cons rfl (zt_cov_cons rfl (zt_cov_nil)))))) (S_Tb_cheapest_97  ht0 hr13 _ _ _ _ _ _ h)
theorem S_Tb_cheapest_114 {X : q_X} {t0 : Nat} (ht0 : t0 ∈ zt_tabs) : ∀ (x0 : Int) (σ : zt_S) (o : (Int × zt_S)), F_Tb_cheapest_114 t0 x0 σ = some o → zt_Ex X 3 76 114 [] [.int (Int32.ofInt x0)] (zt_M T σ) (zo_I T o) := by
  intro x0 σ o  h
  unfold F_Tb_cheapest_114 at h
  cases h
  exact zt_iret zy_76 (show q_ins q_k76 114 = some (.ireturn, 0, 0) from rfl)
theorem S_Tb_cheapest_103 {X : q_X} {t0 : Nat} (ht0 : t0 ∈ zt_tabs) : ∀ (v3 : Int) (v4 : Int) (σ : zt_S) (o : (Int × zt_S)), F_Tb_cheapest_103 t0 v3 v4 σ = some o → zt_Ex X 3 76 103 [(3, .int (Int32.ofInt v3)), (4, .int (Int32.ofInt v4))] [] (zt_M T σ) (zo_I T o) := by
  intro v3 v4 σ o  h
  unfold F_Tb_cheapest_103 at h
  refine zt_iload_n zy_76 (show q_ins q_k76 103 = some (.iload_n 3, 0, 0) from rfl) (v := Int32.ofInt v3) rfl ?_
  refine zt_iconst zy_76 (show q_ins q_k76 104 = some (.iconst (-1), 0, 0) from rfl) ?_
  obtain ⟨hg, h⟩ := zt_ckE h
  refine zt_icmp_eq zy_76 (show q_ins q_k76 105 = some (.if_icmp .eq 7, 112, 0) from rfl) (⟨hg, by decide⟩) (fun hc => ?_) (fun hc => ?_)
  · rw [if_pos hc] at h
    refine zt_iload zy_76 (show q_ins q_k76 112 = some (.iload 4, 0, 0) from rfl) (v := Int32.ofInt v4) rfl ?_
    exact zt_wk (zt_cov_nil) (S_Tb_cheapest_114  ht0 _ _ _ h)
  · rw [if_neg hc] at h
    refine zt_iload_n zy_76 (show q_ins q_k76 108 = some (.iload_n 3, 0, 0) from rfl) (v := Int32.ofInt v3) rfl ?_
    refine zt_goto zy_76 (show q_ins q_k76 109 = some (.goto 5, 114, 0) from rfl) ?_
    exact zt_wk (zt_cov_nil) (S_Tb_cheapest_114  ht0 _ _ _ h)
theorem S_Tb_cheapest_13 {X : q_X} {t0 : Nat} (ht0 : t0 ∈ zt_tabs) : ∀ (n : Nat) (v1 : Int64) (v3 : Int) (v4 : Int) (v5 : Int) (σ : zt_S) (o : (Int × zt_S)), F_Tb_cheapest_13 t0 n v1 v3 v4 v5 σ = some o → zt_Ex X 3 76 13 [(0, .ref t0), (1, .long v1), (3, .int (Int32.ofInt v3)), (4, .int (Int32.ofInt v4)), (5, .int (Int32.ofInt v5))] [] (zt_M T σ) (zo_I T o) := by
  intro n
  induction n with
  | zero => intro v1 v3 v4 v5 σ o  h; cases h
  | succ n ih =>
  intro v1 v3 v4 v5 σ o  h
  rw [F_Tb_cheapest_13] at h
  refine zt_iload zy_76 (show q_ins q_k76 13 = some (.iload 5, 0, 0) from rfl) (v := Int32.ofInt v5) rfl ?_
  refine zt_aload_n zy_76 (show q_ins q_k76 15 = some (.aload_n 0, 0, 0) from rfl) (v := t0) rfl ?_
  refine zt_getR zy_76 (show q_ins q_k76 16 = some (.getfield 44, 6, 0) from rfl) (r := (zt_su t0)) (zk_T_0 ht0) ?_
  obtain ⟨a3, s4, hca3, h⟩ := zt_bdE h
  refine zt_callV (d := 2) zy_76 (show q_ins q_k76 19 = some (.invokevirtual 137, 30, 0) from rfl) zy_30 (by decide) ⟨zq_lt (by decide), by decide⟩ rfl (by simp [Value.category]) (by simp [lg_sl, Value.category]) (zt_rcv (zc_S (zm_T0 ht0))) (zt_dm (by decide) (S_Su_cardCount (zm_T0 ht0) hca3)) ?_
  obtain ⟨hg, h⟩ := zt_ckE h
  refine zt_icmp_ge zy_76 (show q_ins q_k76 22 = some (.if_icmp .ge 81, 103, 0) from rfl) (⟨hg.1, hg.2⟩) (fun hc => ?_) (fun hc => ?_)
  · rw [if_pos hc] at h
    refine zt_lload_n zy_76 (show q_ins q_k76 25 = some (.lload_n 1, 0, 0) from rfl) (v := v1) rfl ?_
    refine zt_iload zy_76 (show q_ins q_k76 26 = some (.iload 5, 0, 0) from rfl) (v := Int32.ofInt v5) rfl ?_
    obtain ⟨a5, s6, hca5, h⟩ := zt_bdE h
    refine zt_callS (d := 2) zy_76 (show q_ins q_k76 28 = some (.invokestatic 174, 314, 2) from rfl) zy_314 (by decide) ⟨zq_lt (by decide), by decide⟩ rfl (by simp [Value.category]) (by simp [lg_sl, Value.category]) rfl (zt_dm (by decide) (S_Rw_has hca5)) ?_
    obtain ⟨hg, h⟩ := zt_ckE h
    refine zt_if_ne zy_76 (show q_ins q_k76 31 = some (.ifCond .ne 6, 37, 0) from rfl) (hg) (fun hc => ?_) (fun hc => ?_)
    · rw [if_pos hc] at h
      refine zt_goto zy_76 (show q_ins q_k76 34 = some (.goto 63, 97, 0) from rfl) ?_
      exact zt_wk (zt_cov_cons rfl (zt_cov_cons rfl (zt_cov_cons rfl (zt_cov_cons rfl (zt_cov_cons rfl (zt_cov_nil)))))) (S_Tb_cheapest_97  ht0 ih _ _ _ _ _ _ h)
    · rw [if_neg hc] at h
      refine zt_aload_n zy_76 (show q_ins q_k76 37 = some (.aload_n 0, 0, 0) from rfl) (v := t0) rfl ?_
      refine zt_getR zy_76 (show q_ins q_k76 38 = some (.getfield 12, 6, 1) from rfl) (r := (t0 + 1)) (zk_T_1 ht0) ?_
      refine zt_aload_n zy_76 (show q_ins q_k76 41 = some (.aload_n 0, 0, 0) from rfl) (v := t0) rfl ?_
      refine zt_getR zy_76 (show q_ins q_k76 42 = some (.getfield 44, 6, 0) from rfl) (r := (zt_su t0)) (zk_T_0 ht0) ?_
      refine zt_iload zy_76 (show q_ins q_k76 45 = some (.iload 5, 0, 0) from rfl) (v := Int32.ofInt v5) rfl ?_
      obtain ⟨a7, s8, hca7, h⟩ := zt_bdE h
      refine zt_callV (d := 2) zy_76 (show q_ins q_k76 47 = some (.invokevirtual 268, 110, 2) from rfl) zy_110 (by decide) ⟨zq_lt (by decide), by decide⟩ rfl (by simp [Value.category]) (by simp [lg_sl, Value.category]) (zt_rcv (zc_K (zm_T1 ht0))) (zt_dm (by decide) (S_Tr_wouldBeBest (zm_T1 ht0) (zm_T0 ht0) hca7)) ?_
      obtain ⟨hg, h⟩ := zt_ckE h
      refine zt_if_eq zy_76 (show q_ins q_k76 50 = some (.ifCond .eq 16, 66, 0) from rfl) (hg) (fun hc => ?_) (fun hc => ?_)
      · rw [if_pos hc] at h
        exact zt_wk (zt_cov_cons rfl (zt_cov_cons rfl (zt_cov_cons rfl (zt_cov_cons rfl (zt_cov_cons rfl (zt_cov_nil)))))) (S_Tb_cheapest_66  ht0 ih _ _ _ _ _ _ h)
      · rw [if_neg hc] at h
        refine zt_aload_n zy_76 (show q_ins q_k76 53 = some (.aload_n 0, 0, 0) from rfl) (v := t0) rfl ?_
        refine zt_iload zy_76 (show q_ins q_k76 54 = some (.iload 5, 0, 0) from rfl) (v := Int32.ofInt v5) rfl ?_
        refine zt_iload_n zy_76 (show q_ins q_k76 56 = some (.iload_n 3, 0, 0) from rfl) (v := Int32.ofInt v3) rfl ?_
        obtain ⟨a13, s14, hca13, h⟩ := zt_bdE h
        refine zt_callV (d := 2) zy_76 (show q_ins q_k76 57 = some (.invokevirtual 272, 77, 2) from rfl) zy_77 (by decide) ⟨zq_lt (by decide), by decide⟩ rfl (by simp [Value.category]) (by simp [lg_sl, Value.category]) (zt_rcv (zc_T ht0)) (zt_dm (by decide) (S_Tb_hasLessPower ht0 hca13)) ?_
        obtain ⟨hg, h⟩ := zt_ckE h
        refine zt_if_eq zy_76 (show q_ins q_k76 60 = some (.ifCond .eq 6, 66, 0) from rfl) (hg) (fun hc => ?_) (fun hc => ?_)
        · rw [if_pos hc] at h
          exact zt_wk (zt_cov_cons rfl (zt_cov_cons rfl (zt_cov_cons rfl (zt_cov_cons rfl (zt_cov_cons rfl (zt_cov_nil)))))) (S_Tb_cheapest_66  ht0 ih _ _ _ _ _ _ h)
        · rw [if_neg hc] at h
          refine zt_iload zy_76 (show q_ins q_k76 63 = some (.iload 5, 0, 0) from rfl) (v := Int32.ofInt v5) rfl ?_
          refine zt_istore_n zy_76 (show q_ins q_k76 65 = some (.istore_n 3, 0, 0) from rfl) (by decide) ?_
          exact zt_wk (zt_cov_cons rfl (zt_cov_cons rfl (zt_cov_cons rfl (zt_cov_cons rfl (zt_cov_cons rfl (zt_cov_nil)))))) (S_Tb_cheapest_66  ht0 ih _ _ _ _ _ _ h)
  · rw [if_neg hc] at h
    exact zt_wk (zt_cov_cons rfl (zt_cov_cons rfl (zt_cov_nil))) (S_Tb_cheapest_103  ht0 _ _ _ _ h)
theorem S_Tb_cheapest {X : q_X} {t0 : Nat} (ht0 : t0 ∈ zt_tabs)  {σ : zt_S} {o : (Int × zt_S)} (h : F_Tb_cheapest t0  σ = some o) : zt_Ex X 3 76 0 (lv_args 0 [.ref t0]) [] (zt_M T σ) (zo_I T o) := by
  unfold F_Tb_cheapest at h
  refine zt_aload_n zy_76 (show q_ins q_k76 0 = some (.aload_n 0, 0, 0) from rfl) (v := t0) rfl ?_
  obtain ⟨a1, s2, hca1, h⟩ := zt_bdE h
  refine zt_callV (d := 2) zy_76 (show q_ins q_k76 1 = some (.invokevirtual 262, 65, 0) from rfl) zy_65 (by decide) ⟨zq_lt (by decide), by decide⟩ rfl (by simp [Value.category]) (by simp [lg_sl, Value.category]) (zt_rcv (zc_T ht0)) (zt_dm (by decide) (S_Tb_allowedCards ht0 hca1)) ?_
  refine zt_lstore_n zy_76 (show q_ins q_k76 4 = some (.lstore_n 1, 0, 0) from rfl) (by decide) ?_
  refine zt_iconst zy_76 (show q_ins q_k76 5 = some (.iconst (-1), 0, 0) from rfl) ?_
  refine zt_istore_n zy_76 (show q_ins q_k76 6 = some (.istore_n 3, 0, 0) from rfl) (by decide) ?_
  refine zt_iconst zy_76 (show q_ins q_k76 7 = some (.iconst (-1), 0, 0) from rfl) ?_
  refine zt_istore zy_76 (show q_ins q_k76 8 = some (.istore 4, 0, 0) from rfl) (by decide) ?_
  refine zt_iconst zy_76 (show q_ins q_k76 10 = some (.iconst 0, 0, 0) from rfl) ?_
  refine zt_istore zy_76 (show q_ins q_k76 11 = some (.istore 5, 0, 0) from rfl) (by decide) ?_
  exact zt_wk (zt_cov_cons rfl (zt_cov_cons rfl (zt_cov_cons rfl (zt_cov_cons rfl (zt_cov_cons rfl (zt_cov_nil)))))) (S_Tb_cheapest_13  ht0 _ _ _ _ _ _ _ h)
theorem S_Tb_choice_21 {X : q_X} {t0 : Nat} (ht0 : t0 ∈ zt_tabs) : ∀ (x0 : Int) (σ : zt_S) (o : (Int × zt_S)), F_Tb_choice_21 t0 x0 σ = some o → zt_Ex X 4 74 21 [] [.int (Int32.ofInt x0)] (zt_M T σ) (zo_I T o) := by
  intro x0 σ o  h
  unfold F_Tb_choice_21 at h
  cases h
  exact zt_iret zy_74 (show q_ins q_k74 21 = some (.ireturn, 0, 0) from rfl)
theorem S_Tb_choice {X : q_X} {t0 : Nat} (ht0 : t0 ∈ zt_tabs)  {σ : zt_S} {o : (Int × zt_S)} (h : F_Tb_choice t0  σ = some o) : zt_Ex X 4 74 0 (lv_args 0 [.ref t0]) [] (zt_M T σ) (zo_I T o) := by
  unfold F_Tb_choice at h
  refine zt_aload_n zy_74 (show q_ins q_k74 0 = some (.aload_n 0, 0, 0) from rfl) (v := t0) rfl ?_
  refine zt_getR zy_74 (show q_ins q_k74 1 = some (.getfield 12, 6, 1) from rfl) (r := (t0 + 1)) (zk_T_1 ht0) ?_
  refine zt_getI zy_74 (show q_ins q_k74 4 = some (.getfield 206, 9, 2) from rfl) (j := 2) (zk_K_2 (zm_T1 ht0)) rfl ?_
  obtain ⟨hg, h⟩ := zt_ckE h
  refine zt_if_ne zy_74 (show q_ins q_k74 7 = some (.ifCond .ne 10, 17, 0) from rfl) (hg) (fun hc => ?_) (fun hc => ?_)
  · rw [if_pos hc] at h
    refine zt_aload_n zy_74 (show q_ins q_k74 10 = some (.aload_n 0, 0, 0) from rfl) (v := t0) rfl ?_
    obtain ⟨a1, s2, hca1, h⟩ := zt_bdE h
    refine zt_callV (d := 3) zy_74 (show q_ins q_k74 11 = some (.invokevirtual 256, 75, 0) from rfl) zy_75 (by decide) ⟨zq_lt (by decide), by decide⟩ rfl (by simp [Value.category]) (by simp [lg_sl, Value.category]) (zt_rcv (zc_T ht0)) (zt_dm (by decide) (S_Tb_strongest ht0 hca1)) ?_
    refine zt_goto zy_74 (show q_ins q_k74 14 = some (.goto 7, 21, 0) from rfl) ?_
    exact zt_wk (zt_cov_nil) (S_Tb_choice_21  ht0 _ _ _ h)
  · rw [if_neg hc] at h
    refine zt_aload_n zy_74 (show q_ins q_k74 17 = some (.aload_n 0, 0, 0) from rfl) (v := t0) rfl ?_
    obtain ⟨a3, s4, hca3, h⟩ := zt_bdE h
    refine zt_callV (d := 3) zy_74 (show q_ins q_k74 18 = some (.invokevirtual 259, 76, 0) from rfl) zy_76 (by decide) ⟨zq_lt (by decide), by decide⟩ rfl (by simp [Value.category]) (by simp [lg_sl, Value.category]) (zt_rcv (zc_T ht0)) (zt_dm (by decide) (S_Tb_cheapest ht0 hca3)) ?_
    exact zt_wk (zt_cov_nil) (S_Tb_choice_21  ht0 _ _ _ h)
theorem S_TR_readSizes_92 {X : q_X}   : ∀  (σ : zt_S) (o : (Unit × zt_S)), F_TR_readSizes_92   σ = some o → zt_Ex X 4 80 92 [] [] (zt_M T σ) (zo_V T o) := by
  intro  σ o  h
  unfold F_TR_readSizes_92 at h
  cases h
  exact zt_ret zy_80 (show q_ins q_k80 92 = some (.return_, 0, 0) from rfl)
theorem S_TR_readSizes {X : q_X}    {σ : zt_S} {o : (Unit × zt_S)} (h : F_TR_readSizes   σ = some o) : zt_Ex X 4 80 0 (lv_args 0 [.ref 128]) [] (zt_M T σ) (zo_V T o) := by
  unfold F_TR_readSizes at h
  refine zt_aload_n zy_80 (show q_ins q_k80 0 = some (.aload_n 0, 0, 0) from rfl) (v := 128) rfl ?_
  refine zt_getR zy_80 (show q_ins q_k80 1 = some (.getfield 27, 7, 2) from rfl) (r := 2) zk_128_2 ?_
  refine zt_ldcS zy_80 (show q_ins q_k80 4 = some (.ldc 70, 1, 0) from rfl) (by decide) ?_
  obtain ⟨a1, s2, hca1, h⟩ := zt_bdE h
  refine zt_callV (d := 3) zy_80 (show q_ins q_k80 6 = some (.invokevirtual 72, 101, 1) from rfl) zy_101 (by decide) ⟨zq_lt (by decide), by decide⟩ rfl (by simp [Value.category]) (by simp [lg_sl, Value.category]) (zt_rcv zc_2) (zt_dm (by decide) (S_Tk_needWord zw_0 hca1)) ?_
  refine zt_aload_n zy_80 (show q_ins q_k80 9 = some (.aload_n 0, 0, 0) from rfl) (v := 128) rfl ?_
  refine zt_getR zy_80 (show q_ins q_k80 10 = some (.getfield 12, 7, 0) from rfl) (r := 129) zk_128_0 ?_
  refine zt_aload_n zy_80 (show q_ins q_k80 13 = some (.aload_n 0, 0, 0) from rfl) (v := 128) rfl ?_
  refine zt_getR zy_80 (show q_ins q_k80 14 = some (.getfield 27, 7, 2) from rfl) (r := 2) zk_128_2 ?_
  refine zt_iconst zy_80 (show q_ins q_k80 17 = some (.iconst 4, 0, 0) from rfl) ?_
  refine zt_bipush zy_80 (show q_ins q_k80 18 = some (.bipush 13, 0, 0) from rfl) (by decide) ?_
  obtain ⟨a3, s4, hca3, h⟩ := zt_bdE h
  refine zt_callV (d := 3) zy_80 (show q_ins q_k80 20 = some (.invokevirtual 76, 104, 2) from rfl) zy_104 (by decide) ⟨zq_lt (by decide), by decide⟩ rfl (by simp [Value.category]) (by simp [lg_sl, Value.category]) (zt_rcv zc_2) (zt_dm (by decide) (S_Tk_takeNumber hca3)) ?_
  obtain ⟨s5, hs5, h⟩ := zt_letE h
  refine zt_putI zy_80 (show q_ins q_k80 23 = some (.putfield 80, 4, 0) from rfl) (j := 0) zk_129_0 rfl rfl rfl ?_
  rw [← hs5]
  refine zt_aload_n zy_80 (show q_ins q_k80 26 = some (.aload_n 0, 0, 0) from rfl) (v := 128) rfl ?_
  refine zt_getR zy_80 (show q_ins q_k80 27 = some (.getfield 12, 7, 0) from rfl) (r := 129) zk_128_0 ?_
  refine zt_aload_n zy_80 (show q_ins q_k80 30 = some (.aload_n 0, 0, 0) from rfl) (v := 128) rfl ?_
  refine zt_getR zy_80 (show q_ins q_k80 31 = some (.getfield 27, 7, 2) from rfl) (r := 2) zk_128_2 ?_
  refine zt_iconst zy_80 (show q_ins q_k80 34 = some (.iconst 2, 0, 0) from rfl) ?_
  refine zt_iconst zy_80 (show q_ins q_k80 35 = some (.iconst 4, 0, 0) from rfl) ?_
  obtain ⟨a6, s7, hca6, h⟩ := zt_bdE h
  refine zt_callV (d := 3) zy_80 (show q_ins q_k80 36 = some (.invokevirtual 76, 104, 2) from rfl) zy_104 (by decide) ⟨zq_lt (by decide), by decide⟩ rfl (by simp [Value.category]) (by simp [lg_sl, Value.category]) (zt_rcv zc_2) (zt_dm (by decide) (S_Tk_takeNumber hca6)) ?_
  obtain ⟨s8, hs8, h⟩ := zt_letE h
  refine zt_putI zy_80 (show q_ins q_k80 39 = some (.putfield 83, 4, 1) from rfl) (j := 1) zk_129_1 rfl rfl rfl ?_
  rw [← hs8]
  refine zt_aload_n zy_80 (show q_ins q_k80 42 = some (.aload_n 0, 0, 0) from rfl) (v := 128) rfl ?_
  refine zt_getR zy_80 (show q_ins q_k80 43 = some (.getfield 12, 7, 0) from rfl) (r := 129) zk_128_0 ?_
  refine zt_aload_n zy_80 (show q_ins q_k80 46 = some (.aload_n 0, 0, 0) from rfl) (v := 128) rfl ?_
  refine zt_getR zy_80 (show q_ins q_k80 47 = some (.getfield 27, 7, 2) from rfl) (r := 2) zk_128_2 ?_
  refine zt_iconst zy_80 (show q_ins q_k80 50 = some (.iconst 1, 0, 0) from rfl) ?_
  refine zt_aload_n zy_80 (show q_ins q_k80 51 = some (.aload_n 0, 0, 0) from rfl) (v := 128) rfl ?_
  refine zt_getR zy_80 (show q_ins q_k80 52 = some (.getfield 12, 7, 0) from rfl) (r := 129) zk_128_0 ?_
  obtain ⟨a9, s10, hca9, h⟩ := zt_bdE h
  refine zt_callV (d := 3) zy_80 (show q_ins q_k80 55 = some (.invokevirtual 86, 32, 0) from rfl) zy_32 (by decide) ⟨zq_lt (by decide), by decide⟩ rfl (by simp [Value.category]) (by simp [lg_sl, Value.category]) (zt_rcv zc_129) (zt_dm (by decide) (S_Su_mostHeld (by decide) hca9)) ?_
  obtain ⟨a11, s12, hca11, h⟩ := zt_bdE h
  refine zt_callV (d := 3) zy_80 (show q_ins q_k80 58 = some (.invokevirtual 76, 104, 2) from rfl) zy_104 (by decide) ⟨zq_lt (by decide), by decide⟩ rfl (by simp [Value.category]) (by simp [lg_sl, Value.category]) (zt_rcv zc_2) (zt_dm (by decide) (S_Tk_takeNumber hca11)) ?_
  obtain ⟨s13, hs13, h⟩ := zt_letE h
  refine zt_putI zy_80 (show q_ins q_k80 61 = some (.putfield 90, 4, 2) from rfl) (j := 2) zk_129_2 rfl rfl rfl ?_
  rw [← hs13]
  refine zt_aload_n zy_80 (show q_ins q_k80 64 = some (.aload_n 0, 0, 0) from rfl) (v := 128) rfl ?_
  refine zt_getR zy_80 (show q_ins q_k80 65 = some (.getfield 27, 7, 2) from rfl) (r := 2) zk_128_2 ?_
  refine zt_ldcS zy_80 (show q_ins q_k80 68 = some (.ldc 93, 1, 1) from rfl) (by decide) ?_
  obtain ⟨a14, s15, hca14, h⟩ := zt_bdE h
  refine zt_callV (d := 3) zy_80 (show q_ins q_k80 70 = some (.invokevirtual 95, 99, 1) from rfl) zy_99 (by decide) ⟨zq_lt (by decide), by decide⟩ rfl (by simp [Value.category]) (by simp [lg_sl, Value.category]) (zt_rcv zc_2) (zt_dm (by decide) (S_Tk_takeWord zw_1 hca14)) ?_
  obtain ⟨hg, h⟩ := zt_ckE h
  refine zt_if_eq zy_80 (show q_ins q_k80 73 = some (.ifCond .eq 19, 92, 0) from rfl) (hg) (fun hc => ?_) (fun hc => ?_)
  · rw [if_pos hc] at h
    exact zt_wk (zt_cov_nil) (S_TR_readSizes_92  _ _ h)
  · rw [if_neg hc] at h
    refine zt_aload_n zy_80 (show q_ins q_k80 76 = some (.aload_n 0, 0, 0) from rfl) (v := 128) rfl ?_
    refine zt_getR zy_80 (show q_ins q_k80 77 = some (.getfield 23, 7, 1) from rfl) (r := 130) zk_128_1 ?_
    refine zt_aload_n zy_80 (show q_ins q_k80 80 = some (.aload_n 0, 0, 0) from rfl) (v := 128) rfl ?_
    refine zt_getR zy_80 (show q_ins q_k80 81 = some (.getfield 27, 7, 2) from rfl) (r := 2) zk_128_2 ?_
    refine zt_iconst zy_80 (show q_ins q_k80 84 = some (.iconst 0, 0, 0) from rfl) ?_
    refine zt_iconst zy_80 (show q_ins q_k80 85 = some (.iconst 3, 0, 0) from rfl) ?_
    obtain ⟨a16, s17, hca16, h⟩ := zt_bdE h
    refine zt_callV (d := 3) zy_80 (show q_ins q_k80 86 = some (.invokevirtual 76, 104, 2) from rfl) zy_104 (by decide) ⟨zq_lt (by decide), by decide⟩ rfl (by simp [Value.category]) (by simp [lg_sl, Value.category]) (zt_rcv zc_2) (zt_dm (by decide) (S_Tk_takeNumber hca16)) ?_
    obtain ⟨s18, hs18, h⟩ := zt_letE h
    refine zt_putI zy_80 (show q_ins q_k80 89 = some (.putfield 99, 6, 11) from rfl) (j := 11) zk_130_11 rfl rfl rfl ?_
    rw [← hs18]
    exact zt_wk (zt_cov_nil) (S_TR_readSizes_92  _ _ h)
theorem S_TR_readTrump_96 {X : q_X}   : ∀  (σ : zt_S) (o : (Unit × zt_S)), F_TR_readTrump_96   σ = some o → zt_Ex X 3 81 96 [(0, .ref 128)] [] (zt_M T σ) (zo_V T o) := by
  intro  σ o  h
  unfold F_TR_readTrump_96 at h
  refine zt_aload_n zy_81 (show q_ins q_k81 96 = some (.aload_n 0, 0, 0) from rfl) (v := 128) rfl ?_
  refine zt_getR zy_81 (show q_ins q_k81 97 = some (.getfield 23, 7, 1) from rfl) (r := 130) zk_128_1 ?_
  refine zt_aload_n zy_81 (show q_ins q_k81 100 = some (.aload_n 0, 0, 0) from rfl) (v := 128) rfl ?_
  refine zt_getR zy_81 (show q_ins q_k81 101 = some (.getfield 27, 7, 2) from rfl) (r := 2) zk_128_2 ?_
  refine zt_ldcS zy_81 (show q_ins q_k81 104 = some (.ldc 115, 1, 5) from rfl) (by decide) ?_
  obtain ⟨a11, s12, hca11, h⟩ := zt_bdE h
  refine zt_callV (d := 2) zy_81 (show q_ins q_k81 106 = some (.invokevirtual 95, 99, 1) from rfl) zy_99 (by decide) ⟨zq_lt (by decide), by decide⟩ rfl (by simp [Value.category]) (by simp [lg_sl, Value.category]) (zt_rcv zc_2) (zt_dm (by decide) (S_Tk_takeWord zw_5 hca11)) ?_
  obtain ⟨hg, h⟩ := zt_ckE h
  obtain ⟨s13, hs13, h⟩ := zt_letE h
  refine zt_putZ zy_81 (show q_ins q_k81 109 = some (.putfield 117, 6, 13) from rfl) (j := 13) zk_130_13 rfl rfl hg rfl ?_
  rw [← hs13]
  cases h
  exact zt_ret zy_81 (show q_ins q_k81 112 = some (.return_, 0, 0) from rfl)
theorem S_TR_readTrump_67 {X : q_X}   : ∀  (σ : zt_S) (o : (Unit × zt_S)), F_TR_readTrump_67   σ = some o → zt_Ex X 3 81 67 [(0, .ref 128)] [] (zt_M T σ) (zo_V T o) := by
  intro  σ o  h
  unfold F_TR_readTrump_67 at h
  refine zt_aload_n zy_81 (show q_ins q_k81 67 = some (.aload_n 0, 0, 0) from rfl) (v := 128) rfl ?_
  refine zt_getR zy_81 (show q_ins q_k81 68 = some (.getfield 27, 7, 2) from rfl) (r := 2) zk_128_2 ?_
  refine zt_ldcS zy_81 (show q_ins q_k81 71 = some (.ldc 111, 1, 4) from rfl) (by decide) ?_
  obtain ⟨a9, s10, hca9, h⟩ := zt_bdE h
  refine zt_callV (d := 2) zy_81 (show q_ins q_k81 73 = some (.invokevirtual 95, 99, 1) from rfl) zy_99 (by decide) ⟨zq_lt (by decide), by decide⟩ rfl (by simp [Value.category]) (by simp [lg_sl, Value.category]) (zt_rcv zc_2) (zt_dm (by decide) (S_Tk_takeWord zw_4 hca9)) ?_
  obtain ⟨hg, h⟩ := zt_ckE h
  refine zt_if_eq zy_81 (show q_ins q_k81 76 = some (.ifCond .eq 20, 96, 0) from rfl) (hg) (fun hc => ?_) (fun hc => ?_)
  · rw [if_pos hc] at h
    exact zt_wk (zt_cov_cons rfl (zt_cov_nil)) (S_TR_readTrump_96  _ _ h)
  · rw [if_neg hc] at h
    refine zt_aload_n zy_81 (show q_ins q_k81 79 = some (.aload_n 0, 0, 0) from rfl) (v := 128) rfl ?_
    refine zt_getR zy_81 (show q_ins q_k81 80 = some (.getfield 23, 7, 1) from rfl) (r := 130) zk_128_1 ?_
    refine zt_aload_n zy_81 (show q_ins q_k81 83 = some (.aload_n 0, 0, 0) from rfl) (v := 128) rfl ?_
    refine zt_getR zy_81 (show q_ins q_k81 84 = some (.getfield 27, 7, 2) from rfl) (r := 2) zk_128_2 ?_
    refine zt_iconst zy_81 (show q_ins q_k81 87 = some (.iconst 0, 0, 0) from rfl) ?_
    refine zt_bipush zy_81 (show q_ins q_k81 88 = some (.bipush 9, 0, 0) from rfl) (by decide) ?_
    obtain ⟨a14, s15, hca14, h⟩ := zt_bdE h
    refine zt_callV (d := 2) zy_81 (show q_ins q_k81 90 = some (.invokevirtual 76, 104, 2) from rfl) zy_104 (by decide) ⟨zq_lt (by decide), by decide⟩ rfl (by simp [Value.category]) (by simp [lg_sl, Value.category]) (zt_rcv zc_2) (zt_dm (by decide) (S_Tk_takeNumber hca14)) ?_
    obtain ⟨s16, hs16, h⟩ := zt_letE h
    refine zt_putI zy_81 (show q_ins q_k81 93 = some (.putfield 113, 6, 12) from rfl) (j := 12) zk_130_12 rfl rfl rfl ?_
    rw [← hs16]
    exact zt_wk (zt_cov_cons rfl (zt_cov_nil)) (S_TR_readTrump_96  _ _ h)
theorem S_TR_readTrump {X : q_X}    {σ : zt_S} {o : (Unit × zt_S)} (h : F_TR_readTrump   σ = some o) : zt_Ex X 3 81 0 (lv_args 0 [.ref 128]) [] (zt_M T σ) (zo_V T o) := by
  unfold F_TR_readTrump at h
  refine zt_aload_n zy_81 (show q_ins q_k81 0 = some (.aload_n 0, 0, 0) from rfl) (v := 128) rfl ?_
  refine zt_getR zy_81 (show q_ins q_k81 1 = some (.getfield 12, 7, 0) from rfl) (r := 129) zk_128_0 ?_
  refine zt_bipush zy_81 (show q_ins q_k81 4 = some (.bipush 10, 0, 0) from rfl) (by decide) ?_
  obtain ⟨s1, hs1, h⟩ := zt_letE h
  refine zt_putI zy_81 (show q_ins q_k81 6 = some (.putfield 101, 4, 3) from rfl) (j := 3) zk_129_3 rfl rfl rfl ?_
  rw [← hs1]
  refine zt_aload_n zy_81 (show q_ins q_k81 9 = some (.aload_n 0, 0, 0) from rfl) (v := 128) rfl ?_
  refine zt_getR zy_81 (show q_ins q_k81 10 = some (.getfield 27, 7, 2) from rfl) (r := 2) zk_128_2 ?_
  refine zt_ldcS zy_81 (show q_ins q_k81 13 = some (.ldc 104, 1, 2) from rfl) (by decide) ?_
  obtain ⟨a2, s3, hca2, h⟩ := zt_bdE h
  refine zt_callV (d := 2) zy_81 (show q_ins q_k81 15 = some (.invokevirtual 95, 99, 1) from rfl) zy_99 (by decide) ⟨zq_lt (by decide), by decide⟩ rfl (by simp [Value.category]) (by simp [lg_sl, Value.category]) (zt_rcv zc_2) (zt_dm (by decide) (S_Tk_takeWord zw_2 hca2)) ?_
  obtain ⟨hg, h⟩ := zt_ckE h
  refine zt_if_ne zy_81 (show q_ins q_k81 18 = some (.ifCond .ne 4, 22, 0) from rfl) (hg) (fun hc => ?_) (fun hc => ?_)
  · rw [if_pos hc] at h
    cases h
    exact zt_ret zy_81 (show q_ins q_k81 21 = some (.return_, 0, 0) from rfl)
  · rw [if_neg hc] at h
    refine zt_aload_n zy_81 (show q_ins q_k81 22 = some (.aload_n 0, 0, 0) from rfl) (v := 128) rfl ?_
    refine zt_getR zy_81 (show q_ins q_k81 23 = some (.getfield 23, 7, 1) from rfl) (r := 130) zk_128_1 ?_
    refine zt_aload_n zy_81 (show q_ins q_k81 26 = some (.aload_n 0, 0, 0) from rfl) (v := 128) rfl ?_
    refine zt_getR zy_81 (show q_ins q_k81 27 = some (.getfield 27, 7, 2) from rfl) (r := 2) zk_128_2 ?_
    refine zt_iconst zy_81 (show q_ins q_k81 30 = some (.iconst 0, 0, 0) from rfl) ?_
    refine zt_iconst zy_81 (show q_ins q_k81 31 = some (.iconst 3, 0, 0) from rfl) ?_
    obtain ⟨a4, s5, hca4, h⟩ := zt_bdE h
    refine zt_callV (d := 2) zy_81 (show q_ins q_k81 32 = some (.invokevirtual 76, 104, 2) from rfl) zy_104 (by decide) ⟨zq_lt (by decide), by decide⟩ rfl (by simp [Value.category]) (by simp [lg_sl, Value.category]) (zt_rcv zc_2) (zt_dm (by decide) (S_Tk_takeNumber hca4)) ?_
    obtain ⟨s6, hs6, h⟩ := zt_letE h
    refine zt_putI zy_81 (show q_ins q_k81 35 = some (.putfield 106, 6, 14) from rfl) (j := 14) zk_130_14 rfl rfl rfl ?_
    rw [← hs6]
    refine zt_aload_n zy_81 (show q_ins q_k81 38 = some (.aload_n 0, 0, 0) from rfl) (v := 128) rfl ?_
    refine zt_getR zy_81 (show q_ins q_k81 39 = some (.getfield 27, 7, 2) from rfl) (r := 2) zk_128_2 ?_
    refine zt_ldcS zy_81 (show q_ins q_k81 42 = some (.ldc 109, 1, 3) from rfl) (by decide) ?_
    obtain ⟨a7, s8, hca7, h⟩ := zt_bdE h
    refine zt_callV (d := 2) zy_81 (show q_ins q_k81 44 = some (.invokevirtual 95, 99, 1) from rfl) zy_99 (by decide) ⟨zq_lt (by decide), by decide⟩ rfl (by simp [Value.category]) (by simp [lg_sl, Value.category]) (zt_rcv zc_2) (zt_dm (by decide) (S_Tk_takeWord zw_3 hca7)) ?_
    obtain ⟨hg, h⟩ := zt_ckE h
    refine zt_if_eq zy_81 (show q_ins q_k81 47 = some (.ifCond .eq 20, 67, 0) from rfl) (hg) (fun hc => ?_) (fun hc => ?_)
    · rw [if_pos hc] at h
      exact zt_wk (zt_cov_cons rfl (zt_cov_nil)) (S_TR_readTrump_67  _ _ h)
    · rw [if_neg hc] at h
      refine zt_aload_n zy_81 (show q_ins q_k81 50 = some (.aload_n 0, 0, 0) from rfl) (v := 128) rfl ?_
      refine zt_getR zy_81 (show q_ins q_k81 51 = some (.getfield 12, 7, 0) from rfl) (r := 129) zk_128_0 ?_
      refine zt_aload_n zy_81 (show q_ins q_k81 54 = some (.aload_n 0, 0, 0) from rfl) (v := 128) rfl ?_
      refine zt_getR zy_81 (show q_ins q_k81 55 = some (.getfield 27, 7, 2) from rfl) (r := 2) zk_128_2 ?_
      refine zt_iconst zy_81 (show q_ins q_k81 58 = some (.iconst 0, 0, 0) from rfl) ?_
      refine zt_bipush zy_81 (show q_ins q_k81 59 = some (.bipush 30, 0, 0) from rfl) (by decide) ?_
      obtain ⟨a17, s18, hca17, h⟩ := zt_bdE h
      refine zt_callV (d := 2) zy_81 (show q_ins q_k81 61 = some (.invokevirtual 76, 104, 2) from rfl) zy_104 (by decide) ⟨zq_lt (by decide), by decide⟩ rfl (by simp [Value.category]) (by simp [lg_sl, Value.category]) (zt_rcv zc_2) (zt_dm (by decide) (S_Tk_takeNumber hca17)) ?_
      obtain ⟨s19, hs19, h⟩ := zt_letE h
      refine zt_putI zy_81 (show q_ins q_k81 64 = some (.putfield 101, 4, 3) from rfl) (j := 3) zk_129_3 rfl rfl rfl ?_
      rw [← hs19]
      exact zt_wk (zt_cov_cons rfl (zt_cov_nil)) (S_TR_readTrump_67  _ _ h)
theorem S_TR_readStart_67 {X : q_X}   : ∀  (σ : zt_S) (o : (Unit × zt_S)), F_TR_readStart_67   σ = some o → zt_Ex X 4 82 67 [(0, .ref 128)] [] (zt_M T σ) (zo_V T o) := by
  intro  σ o  h
  unfold F_TR_readStart_67 at h
  refine zt_aload_n zy_82 (show q_ins q_k82 67 = some (.aload_n 0, 0, 0) from rfl) (v := 128) rfl ?_
  refine zt_getR zy_82 (show q_ins q_k82 68 = some (.getfield 27, 7, 2) from rfl) (r := 2) zk_128_2 ?_
  refine zt_bipush zy_82 (show q_ins q_k82 71 = some (.bipush 59, 0, 0) from rfl) (by decide) ?_
  obtain ⟨a6, s7, hca6, h⟩ := zt_bdE h
  refine zt_callV (d := 3) zy_82 (show q_ins q_k82 73 = some (.invokevirtual 130, 102, 1) from rfl) zy_102 (by decide) ⟨zq_lt (by decide), by decide⟩ rfl (by simp [Value.category]) (by simp [lg_sl, Value.category]) (zt_rcv zc_2) (zt_dm (by decide) (S_Tk_needSign hca6)) ?_
  cases h
  exact zt_ret zy_82 (show q_ins q_k82 76 = some (.return_, 0, 0) from rfl)
theorem S_TR_readStart_41 {X : q_X}   : ∀  (σ : zt_S) (o : (Unit × zt_S)), F_TR_readStart_41   σ = some o → zt_Ex X 4 82 41 [(0, .ref 128)] [] (zt_M T σ) (zo_V T o) := by
  intro  σ o  h
  unfold F_TR_readStart_41 at h
  refine zt_aload_n zy_82 (show q_ins q_k82 41 = some (.aload_n 0, 0, 0) from rfl) (v := 128) rfl ?_
  refine zt_getR zy_82 (show q_ins q_k82 42 = some (.getfield 27, 7, 2) from rfl) (r := 2) zk_128_2 ?_
  refine zt_ldcS zy_82 (show q_ins q_k82 45 = some (.ldc 128, 1, 7) from rfl) (by decide) ?_
  obtain ⟨a4, s5, hca4, h⟩ := zt_bdE h
  refine zt_callV (d := 3) zy_82 (show q_ins q_k82 47 = some (.invokevirtual 95, 99, 1) from rfl) zy_99 (by decide) ⟨zq_lt (by decide), by decide⟩ rfl (by simp [Value.category]) (by simp [lg_sl, Value.category]) (zt_rcv zc_2) (zt_dm (by decide) (S_Tk_takeWord zw_7 hca4)) ?_
  obtain ⟨hg, h⟩ := zt_ckE h
  refine zt_if_eq zy_82 (show q_ins q_k82 50 = some (.ifCond .eq 17, 67, 0) from rfl) (hg) (fun hc => ?_) (fun hc => ?_)
  · rw [if_pos hc] at h
    exact zt_wk (zt_cov_cons rfl (zt_cov_nil)) (S_TR_readStart_67  _ _ h)
  · rw [if_neg hc] at h
    refine zt_aload_n zy_82 (show q_ins q_k82 53 = some (.aload_n 0, 0, 0) from rfl) (v := 128) rfl ?_
    refine zt_aload_n zy_82 (show q_ins q_k82 54 = some (.aload_n 0, 0, 0) from rfl) (v := 128) rfl ?_
    refine zt_getR zy_82 (show q_ins q_k82 55 = some (.getfield 27, 7, 2) from rfl) (r := 2) zk_128_2 ?_
    refine zt_iconst zy_82 (show q_ins q_k82 58 = some (.iconst 0, 0, 0) from rfl) ?_
    refine zt_ldcI zy_82 (show q_ins q_k82 59 = some (.ldc 129, 0, 99999) from rfl) (n := (99999 : Int)) rfl (by decide) ?_
    obtain ⟨a8, s9, hca8, h⟩ := zt_bdE h
    refine zt_callV (d := 3) zy_82 (show q_ins q_k82 61 = some (.invokevirtual 76, 104, 2) from rfl) zy_104 (by decide) ⟨zq_lt (by decide), by decide⟩ rfl (by simp [Value.category]) (by simp [lg_sl, Value.category]) (zt_rcv zc_2) (zt_dm (by decide) (S_Tk_takeNumber hca8)) ?_
    obtain ⟨s10, hs10, h⟩ := zt_letE h
    refine zt_putI zy_82 (show q_ins q_k82 64 = some (.putfield 120, 7, 4) from rfl) (j := 4) zk_128_4 rfl rfl rfl ?_
    rw [← hs10]
    exact zt_wk (zt_cov_cons rfl (zt_cov_nil)) (S_TR_readStart_67  _ _ h)
theorem S_TR_readStart {X : q_X}    {σ : zt_S} {o : (Unit × zt_S)} (h : F_TR_readStart   σ = some o) : zt_Ex X 4 82 0 (lv_args 0 [.ref 128]) [] (zt_M T σ) (zo_V T o) := by
  unfold F_TR_readStart at h
  refine zt_aload_n zy_82 (show q_ins q_k82 0 = some (.aload_n 0, 0, 0) from rfl) (v := 128) rfl ?_
  refine zt_iconst zy_82 (show q_ins q_k82 1 = some (.iconst 0, 0, 0) from rfl) ?_
  obtain ⟨s1, hs1, h⟩ := zt_letE h
  refine zt_putI zy_82 (show q_ins q_k82 2 = some (.putfield 120, 7, 4) from rfl) (j := 4) zk_128_4 rfl rfl rfl ?_
  rw [← hs1]
  refine zt_aload_n zy_82 (show q_ins q_k82 5 = some (.aload_n 0, 0, 0) from rfl) (v := 128) rfl ?_
  refine zt_getR zy_82 (show q_ins q_k82 6 = some (.getfield 27, 7, 2) from rfl) (r := 2) zk_128_2 ?_
  refine zt_ldcS zy_82 (show q_ins q_k82 9 = some (.ldc 123, 1, 6) from rfl) (by decide) ?_
  obtain ⟨a2, s3, hca2, h⟩ := zt_bdE h
  refine zt_callV (d := 3) zy_82 (show q_ins q_k82 11 = some (.invokevirtual 95, 99, 1) from rfl) zy_99 (by decide) ⟨zq_lt (by decide), by decide⟩ rfl (by simp [Value.category]) (by simp [lg_sl, Value.category]) (zt_rcv zc_2) (zt_dm (by decide) (S_Tk_takeWord zw_6 hca2)) ?_
  obtain ⟨hg, h⟩ := zt_ckE h
  refine zt_if_eq zy_82 (show q_ins q_k82 14 = some (.ifCond .eq 27, 41, 0) from rfl) (hg) (fun hc => ?_) (fun hc => ?_)
  · rw [if_pos hc] at h
    exact zt_wk (zt_cov_cons rfl (zt_cov_nil)) (S_TR_readStart_41  _ _ h)
  · rw [if_neg hc] at h
    refine zt_aload_n zy_82 (show q_ins q_k82 17 = some (.aload_n 0, 0, 0) from rfl) (v := 128) rfl ?_
    refine zt_getR zy_82 (show q_ins q_k82 18 = some (.getfield 23, 7, 1) from rfl) (r := 130) zk_128_1 ?_
    refine zt_aload_n zy_82 (show q_ins q_k82 21 = some (.aload_n 0, 0, 0) from rfl) (v := 128) rfl ?_
    refine zt_getR zy_82 (show q_ins q_k82 22 = some (.getfield 27, 7, 2) from rfl) (r := 2) zk_128_2 ?_
    refine zt_iconst zy_82 (show q_ins q_k82 25 = some (.iconst 0, 0, 0) from rfl) ?_
    refine zt_aload_n zy_82 (show q_ins q_k82 26 = some (.aload_n 0, 0, 0) from rfl) (v := 128) rfl ?_
    refine zt_getR zy_82 (show q_ins q_k82 27 = some (.getfield 12, 7, 0) from rfl) (r := 129) zk_128_0 ?_
    refine zt_getI zy_82 (show q_ins q_k82 30 = some (.getfield 83, 4, 1) from rfl) (j := 1) zk_129_1 rfl ?_
    refine zt_iconst zy_82 (show q_ins q_k82 33 = some (.iconst 1, 0, 0) from rfl) ?_
    refine zt_isub zy_82 (show q_ins q_k82 34 = some (.isub, 0, 0) from rfl) ?_
    obtain ⟨a11, s12, hca11, h⟩ := zt_bdE h
    refine zt_callV (d := 3) zy_82 (show q_ins q_k82 35 = some (.invokevirtual 76, 104, 2) from rfl) zy_104 (by decide) ⟨zq_lt (by decide), by decide⟩ rfl (by simp [Value.category]) (by simp [lg_sl, Value.category]) (zt_rcv zc_2) (zt_dm (by decide) (S_Tk_takeNumber hca11)) ?_
    obtain ⟨s13, hs13, h⟩ := zt_letE h
    refine zt_putI zy_82 (show q_ins q_k82 38 = some (.putfield 125, 6, 15) from rfl) (j := 15) zk_130_15 rfl rfl rfl ?_
    rw [← hs13]
    exact zt_wk (zt_cov_cons rfl (zt_cov_nil)) (S_TR_readStart_41  _ _ h)
theorem S_TR_readCard_75 {X : q_X}   : ∀  (σ : zt_S) (o : (Unit × zt_S)), F_TR_readCard_75   σ = some o → zt_Ex X 2 85 75 [] [] (zt_M T σ) (zo_V T o) := by
  intro  σ o  h
  unfold F_TR_readCard_75 at h
  cases h
  exact zt_ret zy_85 (show q_ins q_k85 75 = some (.return_, 0, 0) from rfl)
theorem S_TR_readCard_49 {X : q_X}   : ∀ (v1 : Int) (v2 : Int) (σ : zt_S) (o : (Unit × zt_S)), F_TR_readCard_49  v1 v2 σ = some o → zt_Ex X 2 85 49 [(0, .ref 128), (1, .int (Int32.ofInt v1)), (2, .int (Int32.ofInt v2))] [] (zt_M T σ) (zo_V T o) := by
  intro v1 v2 σ o  h
  unfold F_TR_readCard_49 at h
  refine zt_aload_n zy_85 (show q_ins q_k85 49 = some (.aload_n 0, 0, 0) from rfl) (v := 128) rfl ?_
  refine zt_getR zy_85 (show q_ins q_k85 50 = some (.getfield 27, 7, 2) from rfl) (r := 2) zk_128_2 ?_
  obtain ⟨a9, s10, hca9, h⟩ := zt_bdE h
  refine zt_callV (d := 1) zy_85 (show q_ins q_k85 53 = some (.invokevirtual 53, 93, 0) from rfl) zy_93 (by decide) ⟨zq_lt (by decide), by decide⟩ rfl (by simp [Value.category]) (by simp [lg_sl, Value.category]) (zt_rcv zc_2) (zt_dm (by decide) (S_Tk_hasFailed hca9)) ?_
  obtain ⟨hg, h⟩ := zt_ckE h
  refine zt_if_ne zy_85 (show q_ins q_k85 56 = some (.ifCond .ne 19, 75, 0) from rfl) (hg) (fun hc => ?_) (fun hc => ?_)
  · rw [if_pos hc] at h
    refine zt_aload_n zy_85 (show q_ins q_k85 59 = some (.aload_n 0, 0, 0) from rfl) (v := 128) rfl ?_
    refine zt_getR zy_85 (show q_ins q_k85 60 = some (.getfield 23, 7, 1) from rfl) (r := 130) zk_128_1 ?_
    refine zt_iload_n zy_85 (show q_ins q_k85 63 = some (.iload_n 1, 0, 0) from rfl) (v := Int32.ofInt v1) rfl ?_
    refine zt_iload_n zy_85 (show q_ins q_k85 64 = some (.iload_n 2, 0, 0) from rfl) (v := Int32.ofInt v2) rfl ?_
    obtain ⟨a11, s12, hca11, h⟩ := zt_bdE h
    refine zt_callV (d := 1) zy_85 (show q_ins q_k85 65 = some (.invokevirtual 166, 59, 2) from rfl) zy_59 (by decide) ⟨zq_lt (by decide), by decide⟩ rfl (by simp [Value.category]) (by simp [lg_sl, Value.category]) (zt_rcv zc_130) (zt_dm (by decide) (S_Tb_give (by decide) hca11)) ?_
    refine zt_aload_n zy_85 (show q_ins q_k85 68 = some (.aload_n 0, 0, 0) from rfl) (v := 128) rfl ?_
    refine zt_getR zy_85 (show q_ins q_k85 69 = some (.getfield 27, 7, 2) from rfl) (r := 2) zk_128_2 ?_
    obtain ⟨a13, s14, hca13, h⟩ := zt_bdE h
    refine zt_callV (d := 1) zy_85 (show q_ins q_k85 72 = some (.invokevirtual 170, 90, 0) from rfl) zy_90 (by decide) ⟨zq_lt (by decide), by decide⟩ rfl (by simp [Value.category]) (by simp [lg_sl, Value.category]) (zt_rcv zc_2) (zt_dm (by decide) (S_Tk_next hca13)) ?_
    exact zt_wk (zt_cov_nil) (S_TR_readCard_75  _ _ h)
  · rw [if_neg hc] at h
    exact zt_wk (zt_cov_nil) (S_TR_readCard_75  _ _ h)
theorem S_TR_readCard_41 {X : q_X}   : ∀ (v1 : Int) (v2 : Int) (σ : zt_S) (o : (Unit × zt_S)), F_TR_readCard_41  v1 v2 σ = some o → zt_Ex X 2 85 41 [(0, .ref 128), (1, .int (Int32.ofInt v1)), (2, .int (Int32.ofInt v2))] [] (zt_M T σ) (zo_V T o) := by
  intro v1 v2 σ o  h
  unfold F_TR_readCard_41 at h
  refine zt_aload_n zy_85 (show q_ins q_k85 41 = some (.aload_n 0, 0, 0) from rfl) (v := 128) rfl ?_
  refine zt_getR zy_85 (show q_ins q_k85 42 = some (.getfield 27, 7, 2) from rfl) (r := 2) zk_128_2 ?_
  refine zt_iconst zy_85 (show q_ins q_k85 45 = some (.iconst 3, 0, 0) from rfl) ?_
  obtain ⟨a15, s16, hca15, h⟩ := zt_bdE h
  refine zt_callV (d := 1) zy_85 (show q_ins q_k85 46 = some (.invokevirtual 143, 94, 1) from rfl) zy_94 (by decide) ⟨zq_lt (by decide), by decide⟩ rfl (by simp [Value.category]) (by simp [lg_sl, Value.category]) (zt_rcv zc_2) (zt_dm (by decide) (S_Tk_fail hca15)) ?_
  exact zt_wk (zt_cov_cons rfl (zt_cov_cons rfl (zt_cov_cons rfl (zt_cov_nil)))) (S_TR_readCard_49  _ _ _ _ h)
theorem S_TR_readCard {X : q_X}   {v1 : Int} {σ : zt_S} {o : (Unit × zt_S)} (h : F_TR_readCard  v1 σ = some o) : zt_Ex X 2 85 0 (lv_args 0 [.ref 128, .int (Int32.ofInt v1)]) [] (zt_M T σ) (zo_V T o) := by
  unfold F_TR_readCard at h
  refine zt_aload_n zy_85 (show q_ins q_k85 0 = some (.aload_n 0, 0, 0) from rfl) (v := 128) rfl ?_
  refine zt_getR zy_85 (show q_ins q_k85 1 = some (.getfield 27, 7, 2) from rfl) (r := 2) zk_128_2 ?_
  refine zt_iconst zy_85 (show q_ins q_k85 4 = some (.iconst 0, 0, 0) from rfl) ?_
  refine zt_aload_n zy_85 (show q_ins q_k85 5 = some (.aload_n 0, 0, 0) from rfl) (v := 128) rfl ?_
  refine zt_getR zy_85 (show q_ins q_k85 6 = some (.getfield 12, 7, 0) from rfl) (r := 129) zk_128_0 ?_
  obtain ⟨a1, s2, hca1, h⟩ := zt_bdE h
  refine zt_callV (d := 1) zy_85 (show q_ins q_k85 9 = some (.invokevirtual 152, 30, 0) from rfl) zy_30 (by decide) ⟨zq_lt (by decide), by decide⟩ rfl (by simp [Value.category]) (by simp [lg_sl, Value.category]) (zt_rcv zc_129) (zt_dm (by decide) (S_Su_cardCount (by decide) hca1)) ?_
  refine zt_iconst zy_85 (show q_ins q_k85 12 = some (.iconst 1, 0, 0) from rfl) ?_
  refine zt_isub zy_85 (show q_ins q_k85 13 = some (.isub, 0, 0) from rfl) ?_
  obtain ⟨a3, s4, hca3, h⟩ := zt_bdE h
  refine zt_callV (d := 1) zy_85 (show q_ins q_k85 14 = some (.invokevirtual 155, 103, 2) from rfl) zy_103 (by decide) ⟨zq_lt (by decide), by decide⟩ rfl (by simp [Value.category]) (by simp [lg_sl, Value.category]) (zt_rcv zc_2) (zt_dm (by decide) (S_Tk_peekNumber hca3)) ?_
  refine zt_istore_n zy_85 (show q_ins q_k85 17 = some (.istore_n 2, 0, 0) from rfl) (by decide) ?_
  refine zt_aload_n zy_85 (show q_ins q_k85 18 = some (.aload_n 0, 0, 0) from rfl) (v := 128) rfl ?_
  refine zt_getR zy_85 (show q_ins q_k85 19 = some (.getfield 23, 7, 1) from rfl) (r := 130) zk_128_1 ?_
  refine zt_iload_n zy_85 (show q_ins q_k85 22 = some (.iload_n 2, 0, 0) from rfl) (v := Int32.ofInt a3) rfl ?_
  obtain ⟨a5, s6, hca5, h⟩ := zt_bdE h
  refine zt_callV (d := 1) zy_85 (show q_ins q_k85 23 = some (.invokevirtual 158, 63, 1) from rfl) zy_63 (by decide) ⟨zq_lt (by decide), by decide⟩ rfl (by simp [Value.category]) (by simp [lg_sl, Value.category]) (zt_rcv zc_130) (zt_dm (by decide) (S_Tb_holderOf (by decide) hca5)) ?_
  refine zt_iconst zy_85 (show q_ins q_k85 26 = some (.iconst (-1), 0, 0) from rfl) ?_
  obtain ⟨hg, h⟩ := zt_ckE h
  refine zt_icmp_ne zy_85 (show q_ins q_k85 27 = some (.if_icmp .ne 14, 41, 0) from rfl) (⟨hg, by decide⟩) (fun hc => ?_) (fun hc => ?_)
  · rw [if_pos hc] at h
    refine zt_aload_n zy_85 (show q_ins q_k85 30 = some (.aload_n 0, 0, 0) from rfl) (v := 128) rfl ?_
    refine zt_getR zy_85 (show q_ins q_k85 31 = some (.getfield 23, 7, 1) from rfl) (r := 130) zk_128_1 ?_
    refine zt_iload_n zy_85 (show q_ins q_k85 34 = some (.iload_n 1, 0, 0) from rfl) (v := Int32.ofInt v1) rfl ?_
    obtain ⟨a7, s8, hca7, h⟩ := zt_bdE h
    refine zt_callV (d := 1) zy_85 (show q_ins q_k85 35 = some (.invokevirtual 162, 58, 1) from rfl) zy_58 (by decide) ⟨zq_lt (by decide), by decide⟩ rfl (by simp [Value.category]) (by simp [lg_sl, Value.category]) (zt_rcv zc_130) (zt_dm (by decide) (S_Tb_isFull (by decide) hca7)) ?_
    obtain ⟨hg, h⟩ := zt_ckE h
    refine zt_if_eq zy_85 (show q_ins q_k85 38 = some (.ifCond .eq 11, 49, 0) from rfl) (hg) (fun hc => ?_) (fun hc => ?_)
    · rw [if_pos hc] at h
      exact zt_wk (zt_cov_cons rfl (zt_cov_cons rfl (zt_cov_cons rfl (zt_cov_nil)))) (S_TR_readCard_49  _ _ _ _ h)
    · rw [if_neg hc] at h
      exact zt_wk (zt_cov_cons rfl (zt_cov_cons rfl (zt_cov_cons rfl (zt_cov_nil)))) (S_TR_readCard_41  _ _ _ _ h)
  · rw [if_neg hc] at h
    exact zt_wk (zt_cov_cons rfl (zt_cov_cons rfl (zt_cov_cons rfl (zt_cov_nil)))) (S_TR_readCard_41  _ _ _ _ h)
theorem S_TR_readHand_61 {X : q_X}   : ∀  (σ : zt_S) (o : (Unit × zt_S)), F_TR_readHand_61   σ = some o → zt_Ex X 3 84 61 [] [] (zt_M T σ) (zo_V T o) := by
  intro  σ o  h
  unfold F_TR_readHand_61 at h
  cases h
  exact zt_ret zy_84 (show q_ins q_k84 61 = some (.return_, 0, 0) from rfl)
theorem S_TR_readHand_25 {X : q_X}   : ∀ (n : Nat) (v1 : Int) (v2 : Int) (v3 : Int) (σ : zt_S) (o : (Unit × zt_S)), F_TR_readHand_25  n v1 v2 v3 σ = some o → zt_Ex X 3 84 25 [(0, .ref 128), (1, .int (Int32.ofInt v1)), (2, .int (Int32.ofInt v2)), (3, .int (Int32.ofInt v3))] [] (zt_M T σ) (zo_V T o) := by
  intro n
  induction n with
  | zero => intro v1 v2 v3 σ o  h; cases h
  | succ n ih =>
  intro v1 v2 v3 σ o  h
  rw [F_TR_readHand_25] at h
  refine zt_iload_n zy_84 (show q_ins q_k84 25 = some (.iload_n 3, 0, 0) from rfl) (v := Int32.ofInt v3) rfl ?_
  refine zt_iload_n zy_84 (show q_ins q_k84 26 = some (.iload_n 1, 0, 0) from rfl) (v := Int32.ofInt v1) rfl ?_
  obtain ⟨hg, h⟩ := zt_ckE h
  refine zt_icmp_ge zy_84 (show q_ins q_k84 27 = some (.if_icmp .ge 34, 61, 0) from rfl) (⟨hg.1, hg.2⟩) (fun hc => ?_) (fun hc => ?_)
  · rw [if_pos hc] at h
    refine zt_aload_n zy_84 (show q_ins q_k84 30 = some (.aload_n 0, 0, 0) from rfl) (v := 128) rfl ?_
    refine zt_getR zy_84 (show q_ins q_k84 31 = some (.getfield 27, 7, 2) from rfl) (r := 2) zk_128_2 ?_
    obtain ⟨a5, s6, hca5, h⟩ := zt_bdE h
    refine zt_callV (d := 2) zy_84 (show q_ins q_k84 34 = some (.invokevirtual 53, 93, 0) from rfl) zy_93 (by decide) ⟨zq_lt (by decide), by decide⟩ rfl (by simp [Value.category]) (by simp [lg_sl, Value.category]) (zt_rcv zc_2) (zt_dm (by decide) (S_Tk_hasFailed hca5)) ?_
    obtain ⟨hg, h⟩ := zt_ckE h
    refine zt_if_ne zy_84 (show q_ins q_k84 37 = some (.ifCond .ne 24, 61, 0) from rfl) (hg) (fun hc => ?_) (fun hc => ?_)
    · rw [if_pos hc] at h
      refine zt_aload_n zy_84 (show q_ins q_k84 40 = some (.aload_n 0, 0, 0) from rfl) (v := 128) rfl ?_
      refine zt_getR zy_84 (show q_ins q_k84 41 = some (.getfield 27, 7, 2) from rfl) (r := 2) zk_128_2 ?_
      obtain ⟨a7, s8, hca7, h⟩ := zt_bdE h
      refine zt_callV (d := 2) zy_84 (show q_ins q_k84 44 = some (.invokevirtual 149, 96, 0) from rfl) zy_96 (by decide) ⟨zq_lt (by decide), by decide⟩ rfl (by simp [Value.category]) (by simp [lg_sl, Value.category]) (zt_rcv zc_2) (zt_dm (by decide) (S_Tk_isNumber hca7)) ?_
      obtain ⟨hg, h⟩ := zt_ckE h
      refine zt_if_eq zy_84 (show q_ins q_k84 47 = some (.ifCond .eq 14, 61, 0) from rfl) (hg) (fun hc => ?_) (fun hc => ?_)
      · rw [if_pos hc] at h
        exact zt_wk (zt_cov_nil) (S_TR_readHand_61  _ _ h)
      · rw [if_neg hc] at h
        refine zt_aload_n zy_84 (show q_ins q_k84 50 = some (.aload_n 0, 0, 0) from rfl) (v := 128) rfl ?_
        refine zt_iload_n zy_84 (show q_ins q_k84 51 = some (.iload_n 2, 0, 0) from rfl) (v := Int32.ofInt v2) rfl ?_
        obtain ⟨a9, s10, hca9, h⟩ := zt_bdE h
        refine zt_callV (d := 2) zy_84 (show q_ins q_k84 52 = some (.invokevirtual 146, 85, 1) from rfl) zy_85 (by decide) ⟨zq_lt (by decide), by decide⟩ rfl (by simp [Value.category]) (by simp [lg_sl, Value.category]) (zt_rcv zc_128) (zt_dm (by decide) (S_TR_readCard hca9)) ?_
        refine zt_iinc zy_84 (show q_ins q_k84 55 = some (.iinc 3 1, 0, 0) from rfl) (v := v3) (by decide) rfl ?_
        refine zt_goto zy_84 (show q_ins q_k84 58 = some (.goto (-33), 25, 0) from rfl) ?_
        exact zt_wk (zt_cov_cons rfl (zt_cov_cons rfl (zt_cov_cons rfl (zt_cov_cons rfl (zt_cov_nil))))) (ih _ _ _ _ _ h)
    · rw [if_neg hc] at h
      exact zt_wk (zt_cov_nil) (S_TR_readHand_61  _ _ h)
  · rw [if_neg hc] at h
    exact zt_wk (zt_cov_nil) (S_TR_readHand_61  _ _ h)
theorem S_TR_readHand {X : q_X}   {v1 : Int} {σ : zt_S} {o : (Unit × zt_S)} (h : F_TR_readHand  v1 σ = some o) : zt_Ex X 3 84 0 (lv_args 0 [.ref 128, .int (Int32.ofInt v1)]) [] (zt_M T σ) (zo_V T o) := by
  unfold F_TR_readHand at h
  refine zt_aload_n zy_84 (show q_ins q_k84 0 = some (.aload_n 0, 0, 0) from rfl) (v := 128) rfl ?_
  refine zt_getR zy_84 (show q_ins q_k84 1 = some (.getfield 27, 7, 2) from rfl) (r := 2) zk_128_2 ?_
  refine zt_iconst zy_84 (show q_ins q_k84 4 = some (.iconst 0, 0, 0) from rfl) ?_
  refine zt_aload_n zy_84 (show q_ins q_k84 5 = some (.aload_n 0, 0, 0) from rfl) (v := 128) rfl ?_
  refine zt_getR zy_84 (show q_ins q_k84 6 = some (.getfield 12, 7, 0) from rfl) (r := 129) zk_128_0 ?_
  refine zt_getI zy_84 (show q_ins q_k84 9 = some (.getfield 83, 4, 1) from rfl) (j := 1) zk_129_1 rfl ?_
  refine zt_iconst zy_84 (show q_ins q_k84 12 = some (.iconst 1, 0, 0) from rfl) ?_
  refine zt_isub zy_84 (show q_ins q_k84 13 = some (.isub, 0, 0) from rfl) ?_
  obtain ⟨a1, s2, hca1, h⟩ := zt_bdE h
  refine zt_callV (d := 2) zy_84 (show q_ins q_k84 14 = some (.invokevirtual 76, 104, 2) from rfl) zy_104 (by decide) ⟨zq_lt (by decide), by decide⟩ rfl (by simp [Value.category]) (by simp [lg_sl, Value.category]) (zt_rcv zc_2) (zt_dm (by decide) (S_Tk_takeNumber hca1)) ?_
  refine zt_istore_n zy_84 (show q_ins q_k84 17 = some (.istore_n 2, 0, 0) from rfl) (by decide) ?_
  refine zt_aload_n zy_84 (show q_ins q_k84 18 = some (.aload_n 0, 0, 0) from rfl) (v := 128) rfl ?_
  refine zt_iload_n zy_84 (show q_ins q_k84 19 = some (.iload_n 2, 0, 0) from rfl) (v := Int32.ofInt a1) rfl ?_
  obtain ⟨a3, s4, hca3, h⟩ := zt_bdE h
  refine zt_callV (d := 2) zy_84 (show q_ins q_k84 20 = some (.invokevirtual 146, 85, 1) from rfl) zy_85 (by decide) ⟨zq_lt (by decide), by decide⟩ rfl (by simp [Value.category]) (by simp [lg_sl, Value.category]) (zt_rcv zc_128) (zt_dm (by decide) (S_TR_readCard hca3)) ?_
  refine zt_iconst zy_84 (show q_ins q_k84 23 = some (.iconst 0, 0, 0) from rfl) ?_
  refine zt_istore_n zy_84 (show q_ins q_k84 24 = some (.istore_n 3, 0, 0) from rfl) (by decide) ?_
  exact zt_wk (zt_cov_cons rfl (zt_cov_cons rfl (zt_cov_cons rfl (zt_cov_cons rfl (zt_cov_nil))))) (S_TR_readHand_25  _ _ _ _ _ _ h)
theorem S_TR_readTell_97 {X : q_X}   : ∀  (σ : zt_S) (o : (Unit × zt_S)), F_TR_readTell_97   σ = some o → zt_Ex X 3 86 97 [] [] (zt_M T σ) (zo_V T o) := by
  intro  σ o  h
  unfold F_TR_readTell_97 at h
  cases h
  exact zt_ret zy_86 (show q_ins q_k86 97 = some (.return_, 0, 0) from rfl)
theorem S_TR_readTell_41 {X : q_X}   : ∀ (v1 : Int) (σ : zt_S) (o : (Unit × zt_S)), F_TR_readTell_41  v1 σ = some o → zt_Ex X 3 86 41 [(0, .ref 128), (1, .int (Int32.ofInt v1))] [] (zt_M T σ) (zo_V T o) := by
  intro v1 σ o  h
  unfold F_TR_readTell_41 at h
  refine zt_aload_n zy_86 (show q_ins q_k86 41 = some (.aload_n 0, 0, 0) from rfl) (v := 128) rfl ?_
  refine zt_getR zy_86 (show q_ins q_k86 42 = some (.getfield 27, 7, 2) from rfl) (r := 2) zk_128_2 ?_
  refine zt_iconst zy_86 (show q_ins q_k86 45 = some (.iconst 0, 0, 0) from rfl) ?_
  refine zt_aload_n zy_86 (show q_ins q_k86 46 = some (.aload_n 0, 0, 0) from rfl) (v := 128) rfl ?_
  refine zt_getR zy_86 (show q_ins q_k86 47 = some (.getfield 12, 7, 0) from rfl) (r := 129) zk_128_0 ?_
  refine zt_getI zy_86 (show q_ins q_k86 50 = some (.getfield 83, 4, 1) from rfl) (j := 1) zk_129_1 rfl ?_
  refine zt_iconst zy_86 (show q_ins q_k86 53 = some (.iconst 1, 0, 0) from rfl) ?_
  refine zt_isub zy_86 (show q_ins q_k86 54 = some (.isub, 0, 0) from rfl) ?_
  obtain ⟨a5, s6, hca5, h⟩ := zt_bdE h
  refine zt_callV (d := 2) zy_86 (show q_ins q_k86 55 = some (.invokevirtual 76, 104, 2) from rfl) zy_104 (by decide) ⟨zq_lt (by decide), by decide⟩ rfl (by simp [Value.category]) (by simp [lg_sl, Value.category]) (zt_rcv zc_2) (zt_dm (by decide) (S_Tk_takeNumber hca5)) ?_
  refine zt_pop zy_86 (show q_ins q_k86 58 = some (.pop, 0, 0) from rfl) rfl ?_
  refine zt_aload_n zy_86 (show q_ins q_k86 59 = some (.aload_n 0, 0, 0) from rfl) (v := 128) rfl ?_
  refine zt_getR zy_86 (show q_ins q_k86 60 = some (.getfield 27, 7, 2) from rfl) (r := 2) zk_128_2 ?_
  refine zt_iconst zy_86 (show q_ins q_k86 63 = some (.iconst 0, 0, 0) from rfl) ?_
  refine zt_aload_n zy_86 (show q_ins q_k86 64 = some (.aload_n 0, 0, 0) from rfl) (v := 128) rfl ?_
  refine zt_getR zy_86 (show q_ins q_k86 65 = some (.getfield 12, 7, 0) from rfl) (r := 129) zk_128_0 ?_
  refine zt_getI zy_86 (show q_ins q_k86 68 = some (.getfield 90, 4, 2) from rfl) (j := 2) zk_129_2 rfl ?_
  obtain ⟨a7, s8, hca7, h⟩ := zt_bdE h
  refine zt_callV (d := 2) zy_86 (show q_ins q_k86 71 = some (.invokevirtual 76, 104, 2) from rfl) zy_104 (by decide) ⟨zq_lt (by decide), by decide⟩ rfl (by simp [Value.category]) (by simp [lg_sl, Value.category]) (zt_rcv zc_2) (zt_dm (by decide) (S_Tk_takeNumber hca7)) ?_
  refine zt_istore_n zy_86 (show q_ins q_k86 74 = some (.istore_n 2, 0, 0) from rfl) (by decide) ?_
  refine zt_aload_n zy_86 (show q_ins q_k86 75 = some (.aload_n 0, 0, 0) from rfl) (v := 128) rfl ?_
  refine zt_getR zy_86 (show q_ins q_k86 76 = some (.getfield 27, 7, 2) from rfl) (r := 2) zk_128_2 ?_
  obtain ⟨a9, s10, hca9, h⟩ := zt_bdE h
  refine zt_callV (d := 2) zy_86 (show q_ins q_k86 79 = some (.invokevirtual 53, 93, 0) from rfl) zy_93 (by decide) ⟨zq_lt (by decide), by decide⟩ rfl (by simp [Value.category]) (by simp [lg_sl, Value.category]) (zt_rcv zc_2) (zt_dm (by decide) (S_Tk_hasFailed hca9)) ?_
  obtain ⟨hg, h⟩ := zt_ckE h
  refine zt_if_ne zy_86 (show q_ins q_k86 82 = some (.ifCond .ne 15, 97, 0) from rfl) (hg) (fun hc => ?_) (fun hc => ?_)
  · rw [if_pos hc] at h
    refine zt_aload_n zy_86 (show q_ins q_k86 85 = some (.aload_n 0, 0, 0) from rfl) (v := 128) rfl ?_
    refine zt_getR zy_86 (show q_ins q_k86 86 = some (.getfield 23, 7, 1) from rfl) (r := 130) zk_128_1 ?_
    refine zt_getR zy_86 (show q_ins q_k86 89 = some (.getfield 173, 6, 3) from rfl) (r := 133) zk_130_3 ?_
    refine zt_iload_n zy_86 (show q_ins q_k86 92 = some (.iload_n 1, 0, 0) from rfl) (v := Int32.ofInt v1) rfl ?_
    refine zt_iload_n zy_86 (show q_ins q_k86 93 = some (.iload_n 2, 0, 0) from rfl) (v := Int32.ofInt a7) rfl ?_
    obtain ⟨a11, s12, hca11, h⟩ := zt_bdE h
    refine zt_callS (d := 2) zy_86 (show q_ins q_k86 94 = some (.invokestatic 183, 310, 3) from rfl) zy_310 (by decide) ⟨zq_lt (by decide), by decide⟩ rfl (by simp [Value.category]) (by simp [lg_sl, Value.category]) rfl (zt_dm (by decide) (S_Rw_set za_133 (by decide) hca11)) ?_
    exact zt_wk (zt_cov_nil) (S_TR_readTell_97  _ _ h)
  · rw [if_neg hc] at h
    exact zt_wk (zt_cov_nil) (S_TR_readTell_97  _ _ h)
theorem S_TR_readTell {X : q_X}    {σ : zt_S} {o : (Unit × zt_S)} (h : F_TR_readTell   σ = some o) : zt_Ex X 3 86 0 (lv_args 0 [.ref 128]) [] (zt_M T σ) (zo_V T o) := by
  unfold F_TR_readTell at h
  refine zt_aload_n zy_86 (show q_ins q_k86 0 = some (.aload_n 0, 0, 0) from rfl) (v := 128) rfl ?_
  refine zt_getR zy_86 (show q_ins q_k86 1 = some (.getfield 27, 7, 2) from rfl) (r := 2) zk_128_2 ?_
  refine zt_iconst zy_86 (show q_ins q_k86 4 = some (.iconst 0, 0, 0) from rfl) ?_
  refine zt_aload_n zy_86 (show q_ins q_k86 5 = some (.aload_n 0, 0, 0) from rfl) (v := 128) rfl ?_
  refine zt_getR zy_86 (show q_ins q_k86 6 = some (.getfield 12, 7, 0) from rfl) (r := 129) zk_128_0 ?_
  refine zt_getI zy_86 (show q_ins q_k86 9 = some (.getfield 83, 4, 1) from rfl) (j := 1) zk_129_1 rfl ?_
  refine zt_iconst zy_86 (show q_ins q_k86 12 = some (.iconst 1, 0, 0) from rfl) ?_
  refine zt_isub zy_86 (show q_ins q_k86 13 = some (.isub, 0, 0) from rfl) ?_
  obtain ⟨a1, s2, hca1, h⟩ := zt_bdE h
  refine zt_callV (d := 2) zy_86 (show q_ins q_k86 14 = some (.invokevirtual 155, 103, 2) from rfl) zy_103 (by decide) ⟨zq_lt (by decide), by decide⟩ rfl (by simp [Value.category]) (by simp [lg_sl, Value.category]) (zt_rcv zc_2) (zt_dm (by decide) (S_Tk_peekNumber hca1)) ?_
  refine zt_istore_n zy_86 (show q_ins q_k86 17 = some (.istore_n 1, 0, 0) from rfl) (by decide) ?_
  refine zt_aload_n zy_86 (show q_ins q_k86 18 = some (.aload_n 0, 0, 0) from rfl) (v := 128) rfl ?_
  refine zt_getR zy_86 (show q_ins q_k86 19 = some (.getfield 23, 7, 1) from rfl) (r := 130) zk_128_1 ?_
  refine zt_getR zy_86 (show q_ins q_k86 22 = some (.getfield 173, 6, 3) from rfl) (r := 133) zk_130_3 ?_
  refine zt_iload_n zy_86 (show q_ins q_k86 25 = some (.iload_n 1, 0, 0) from rfl) (v := Int32.ofInt a1) rfl ?_
  obtain ⟨a3, s4, hca3, h⟩ := zt_bdE h
  refine zt_callS (d := 2) zy_86 (show q_ins q_k86 26 = some (.invokestatic 177, 309, 2) from rfl) zy_309 (by decide) ⟨zq_lt (by decide), by decide⟩ rfl (by simp [Value.category]) (by simp [lg_sl, Value.category]) rfl (zt_dm (by decide) (S_Rw_at za_133 (by decide) hca3)) ?_
  refine zt_iconst zy_86 (show q_ins q_k86 29 = some (.iconst (-1), 0, 0) from rfl) ?_
  obtain ⟨hg, h⟩ := zt_ckE h
  refine zt_icmp_eq zy_86 (show q_ins q_k86 30 = some (.if_icmp .eq 11, 41, 0) from rfl) (⟨hg, by decide⟩) (fun hc => ?_) (fun hc => ?_)
  · rw [if_pos hc] at h
    exact zt_wk (zt_cov_cons rfl (zt_cov_cons rfl (zt_cov_nil))) (S_TR_readTell_41  _ _ _ h)
  · rw [if_neg hc] at h
    refine zt_aload_n zy_86 (show q_ins q_k86 33 = some (.aload_n 0, 0, 0) from rfl) (v := 128) rfl ?_
    refine zt_getR zy_86 (show q_ins q_k86 34 = some (.getfield 27, 7, 2) from rfl) (r := 2) zk_128_2 ?_
    refine zt_iconst zy_86 (show q_ins q_k86 37 = some (.iconst 3, 0, 0) from rfl) ?_
    obtain ⟨a13, s14, hca13, h⟩ := zt_bdE h
    refine zt_callV (d := 2) zy_86 (show q_ins q_k86 38 = some (.invokevirtual 143, 94, 1) from rfl) zy_94 (by decide) ⟨zq_lt (by decide), by decide⟩ rfl (by simp [Value.category]) (by simp [lg_sl, Value.category]) (zt_rcv zc_2) (zt_dm (by decide) (S_Tk_fail hca13)) ?_
    exact zt_wk (zt_cov_cons rfl (zt_cov_cons rfl (zt_cov_nil))) (S_TR_readTell_41  _ _ _ h)
theorem S_TR_readClause_47 {X : q_X}   : ∀  (σ : zt_S) (o : (Unit × zt_S)), F_TR_readClause_47   σ = some o → zt_Ex X 4 83 47 [(0, .ref 128)] [] (zt_M T σ) (zo_V T o) := by
  intro  σ o  h
  unfold F_TR_readClause_47 at h
  refine zt_aload_n zy_83 (show q_ins q_k83 47 = some (.aload_n 0, 0, 0) from rfl) (v := 128) rfl ?_
  refine zt_getR zy_83 (show q_ins q_k83 48 = some (.getfield 27, 7, 2) from rfl) (r := 2) zk_128_2 ?_
  refine zt_bipush zy_83 (show q_ins q_k83 51 = some (.bipush 59, 0, 0) from rfl) (by decide) ?_
  obtain ⟨a7, s8, hca7, h⟩ := zt_bdE h
  refine zt_callV (d := 3) zy_83 (show q_ins q_k83 53 = some (.invokevirtual 130, 102, 1) from rfl) zy_102 (by decide) ⟨zq_lt (by decide), by decide⟩ rfl (by simp [Value.category]) (by simp [lg_sl, Value.category]) (zt_rcv zc_2) (zt_dm (by decide) (S_Tk_needSign hca7)) ?_
  cases h
  exact zt_ret zy_83 (show q_ins q_k83 56 = some (.return_, 0, 0) from rfl)
theorem S_TR_readClause {X : q_X}   {v1 : Int} {σ : zt_S} {o : (Unit × zt_S)} (h : F_TR_readClause  v1 σ = some o) : zt_Ex X 4 83 0 (lv_args 0 [.ref 128, .int (Int32.ofInt v1)]) [] (zt_M T σ) (zo_V T o) := by
  unfold F_TR_readClause at h
  refine zt_aload_n zy_83 (show q_ins q_k83 0 = some (.aload_n 0, 0, 0) from rfl) (v := 128) rfl ?_
  refine zt_getR zy_83 (show q_ins q_k83 1 = some (.getfield 27, 7, 2) from rfl) (r := 2) zk_128_2 ?_
  refine zt_ldcS zy_83 (show q_ins q_k83 4 = some (.ldc 133, 1, 8) from rfl) (by decide) ?_
  obtain ⟨a1, s2, hca1, h⟩ := zt_bdE h
  refine zt_callV (d := 3) zy_83 (show q_ins q_k83 6 = some (.invokevirtual 95, 99, 1) from rfl) zy_99 (by decide) ⟨zq_lt (by decide), by decide⟩ rfl (by simp [Value.category]) (by simp [lg_sl, Value.category]) (zt_rcv zc_2) (zt_dm (by decide) (S_Tk_takeWord zw_8 hca1)) ?_
  obtain ⟨hg, h⟩ := zt_ckE h
  refine zt_if_eq zy_83 (show q_ins q_k83 9 = some (.ifCond .eq 11, 20, 0) from rfl) (hg) (fun hc => ?_) (fun hc => ?_)
  · rw [if_pos hc] at h
    refine zt_aload_n zy_83 (show q_ins q_k83 20 = some (.aload_n 0, 0, 0) from rfl) (v := 128) rfl ?_
    refine zt_getR zy_83 (show q_ins q_k83 21 = some (.getfield 27, 7, 2) from rfl) (r := 2) zk_128_2 ?_
    refine zt_ldcS zy_83 (show q_ins q_k83 24 = some (.ldc 138, 1, 9) from rfl) (by decide) ?_
    obtain ⟨a3, s4, hca3, h⟩ := zt_bdE h
    refine zt_callV (d := 3) zy_83 (show q_ins q_k83 26 = some (.invokevirtual 95, 99, 1) from rfl) zy_99 (by decide) ⟨zq_lt (by decide), by decide⟩ rfl (by simp [Value.category]) (by simp [lg_sl, Value.category]) (zt_rcv zc_2) (zt_dm (by decide) (S_Tk_takeWord zw_9 hca3)) ?_
    obtain ⟨hg, h⟩ := zt_ckE h
    refine zt_if_eq zy_83 (show q_ins q_k83 29 = some (.ifCond .eq 10, 39, 0) from rfl) (hg) (fun hc => ?_) (fun hc => ?_)
    · rw [if_pos hc] at h
      refine zt_aload_n zy_83 (show q_ins q_k83 39 = some (.aload_n 0, 0, 0) from rfl) (v := 128) rfl ?_
      refine zt_getR zy_83 (show q_ins q_k83 40 = some (.getfield 27, 7, 2) from rfl) (r := 2) zk_128_2 ?_
      refine zt_iconst zy_83 (show q_ins q_k83 43 = some (.iconst 1, 0, 0) from rfl) ?_
      obtain ⟨a5, s6, hca5, h⟩ := zt_bdE h
      refine zt_callV (d := 3) zy_83 (show q_ins q_k83 44 = some (.invokevirtual 143, 94, 1) from rfl) zy_94 (by decide) ⟨zq_lt (by decide), by decide⟩ rfl (by simp [Value.category]) (by simp [lg_sl, Value.category]) (zt_rcv zc_2) (zt_dm (by decide) (S_Tk_fail hca5)) ?_
      exact zt_wk (zt_cov_cons rfl (zt_cov_nil)) (S_TR_readClause_47  _ _ h)
    · rw [if_neg hc] at h
      refine zt_aload_n zy_83 (show q_ins q_k83 32 = some (.aload_n 0, 0, 0) from rfl) (v := 128) rfl ?_
      obtain ⟨a9, s10, hca9, h⟩ := zt_bdE h
      refine zt_callV (d := 3) zy_83 (show q_ins q_k83 33 = some (.invokevirtual 140, 86, 0) from rfl) zy_86 (by decide) ⟨zq_lt (by decide), by decide⟩ rfl (by simp [Value.category]) (by simp [lg_sl, Value.category]) (zt_rcv zc_128) (zt_dm (by decide) (S_TR_readTell hca9)) ?_
      refine zt_goto zy_83 (show q_ins q_k83 36 = some (.goto 11, 47, 0) from rfl) ?_
      exact zt_wk (zt_cov_cons rfl (zt_cov_nil)) (S_TR_readClause_47  _ _ h)
  · rw [if_neg hc] at h
    refine zt_aload_n zy_83 (show q_ins q_k83 12 = some (.aload_n 0, 0, 0) from rfl) (v := 128) rfl ?_
    refine zt_iload_n zy_83 (show q_ins q_k83 13 = some (.iload_n 1, 0, 0) from rfl) (v := Int32.ofInt v1) rfl ?_
    obtain ⟨a11, s12, hca11, h⟩ := zt_bdE h
    refine zt_callV (d := 3) zy_83 (show q_ins q_k83 14 = some (.invokevirtual 135, 84, 1) from rfl) zy_84 (by decide) ⟨zq_lt (by decide), by decide⟩ rfl (by simp [Value.category]) (by simp [lg_sl, Value.category]) (zt_rcv zc_128) (zt_dm (by decide) (S_TR_readHand hca11)) ?_
    refine zt_goto zy_83 (show q_ins q_k83 17 = some (.goto 30, 47, 0) from rfl) ?_
    exact zt_wk (zt_cov_cons rfl (zt_cov_nil)) (S_TR_readClause_47  _ _ h)
theorem S_TR_handOut_55 {X : q_X}   : ∀  (σ : zt_S) (o : (Unit × zt_S)), F_TR_handOut_55   σ = some o → zt_Ex X 4 87 55 [(0, .ref 128)] [] (zt_M T σ) (zo_V T o) := by
  intro  σ o  h
  unfold F_TR_handOut_55 at h
  refine zt_aload_n zy_87 (show q_ins q_k87 55 = some (.aload_n 0, 0, 0) from rfl) (v := 128) rfl ?_
  refine zt_getR zy_87 (show q_ins q_k87 56 = some (.getfield 23, 7, 1) from rfl) (r := 130) zk_128_1 ?_
  obtain ⟨a9, s10, hca9, h⟩ := zt_bdE h
  refine zt_callV (d := 3) zy_87 (show q_ins q_k87 59 = some (.invokevirtual 203, 53, 0) from rfl) zy_53 (by decide) ⟨zq_lt (by decide), by decide⟩ rfl (by simp [Value.category]) (by simp [lg_sl, Value.category]) (zt_rcv zc_130) (zt_dm (by decide) (S_Tb_openHand (by decide) hca9)) ?_
  cases h
  exact zt_ret zy_87 (show q_ins q_k87 62 = some (.return_, 0, 0) from rfl)
theorem S_TR_handOut {X : q_X}    {σ : zt_S} {o : (Unit × zt_S)} (h : F_TR_handOut   σ = some o) : zt_Ex X 4 87 0 (lv_args 0 [.ref 128]) [] (zt_M T σ) (zo_V T o) := by
  unfold F_TR_handOut at h
  refine zt_aload_n zy_87 (show q_ins q_k87 0 = some (.aload_n 0, 0, 0) from rfl) (v := 128) rfl ?_
  refine zt_getR zy_87 (show q_ins q_k87 1 = some (.getfield 31, 7, 3) from rfl) (r := 4) zk_128_3 ?_
  refine zt_aload_n zy_87 (show q_ins q_k87 4 = some (.aload_n 0, 0, 0) from rfl) (v := 128) rfl ?_
  refine zt_getI zy_87 (show q_ins q_k87 5 = some (.getfield 120, 7, 4) from rfl) (j := 4) zk_128_4 rfl ?_
  refine zt_aload_n zy_87 (show q_ins q_k87 8 = some (.aload_n 0, 0, 0) from rfl) (v := 128) rfl ?_
  refine zt_getR zy_87 (show q_ins q_k87 9 = some (.getfield 12, 7, 0) from rfl) (r := 129) zk_128_0 ?_
  obtain ⟨a1, s2, hca1, h⟩ := zt_bdE h
  refine zt_callV (d := 3) zy_87 (show q_ins q_k87 12 = some (.invokevirtual 152, 30, 0) from rfl) zy_30 (by decide) ⟨zq_lt (by decide), by decide⟩ rfl (by simp [Value.category]) (by simp [lg_sl, Value.category]) (zt_rcv zc_129) (zt_dm (by decide) (S_Su_cardCount (by decide) hca1)) ?_
  obtain ⟨a3, s4, hca3, h⟩ := zt_bdE h
  refine zt_callV (d := 3) zy_87 (show q_ins q_k87 15 = some (.invokevirtual 187, 12, 2) from rfl) zy_12 (by decide) ⟨zq_lt (by decide), by decide⟩ rfl (by simp [Value.category]) (by simp [lg_sl, Value.category]) (zt_rcv zc_4) (zt_dm (by decide) (S_Pk_mix hca3)) ?_
  refine zt_aload_n zy_87 (show q_ins q_k87 18 = some (.aload_n 0, 0, 0) from rfl) (v := 128) rfl ?_
  refine zt_getR zy_87 (show q_ins q_k87 19 = some (.getfield 23, 7, 1) from rfl) (r := 130) zk_128_1 ?_
  obtain ⟨a5, s6, hca5, h⟩ := zt_bdE h
  refine zt_callV (d := 3) zy_87 (show q_ins q_k87 22 = some (.invokevirtual 192, 62, 0) from rfl) zy_62 (by decide) ⟨zq_lt (by decide), by decide⟩ rfl (by simp [Value.category]) (by simp [lg_sl, Value.category]) (zt_rcv zc_130) (zt_dm (by decide) (S_Tb_allHands (by decide) hca5)) ?_
  refine zt_lconst zy_87 (show q_ins q_k87 25 = some (.lconst 0, 0, 0) from rfl) (v := (0 : Int64)) (by decide) ?_
  refine zt_lcmp zy_87 (show q_ins q_k87 26 = some (.lcmp, 0, 0) from rfl) ?_
  refine zt_if_ne zy_87 (show q_ins q_k87 27 = some (.ifCond .ne 17, 44, 0) from rfl) (zt_inT _) (fun hc => ?_) (fun hc => ?_)
  · rw [if_pos hc] at h
    refine zt_aload_n zy_87 (show q_ins q_k87 30 = some (.aload_n 0, 0, 0) from rfl) (v := 128) rfl ?_
    refine zt_getR zy_87 (show q_ins q_k87 31 = some (.getfield 23, 7, 1) from rfl) (r := 130) zk_128_1 ?_
    refine zt_aload_n zy_87 (show q_ins q_k87 34 = some (.aload_n 0, 0, 0) from rfl) (v := 128) rfl ?_
    refine zt_getR zy_87 (show q_ins q_k87 35 = some (.getfield 31, 7, 3) from rfl) (r := 4) zk_128_3 ?_
    obtain ⟨a7, s8, hca7, h⟩ := zt_bdE h
    refine zt_callV (d := 3) zy_87 (show q_ins q_k87 38 = some (.invokevirtual 196, 55, 1) from rfl) zy_55 (by decide) ⟨zq_lt (by decide), by decide⟩ rfl (by simp [Value.category]) (by simp [lg_sl, Value.category]) (zt_rcv zc_130) (zt_dm (by decide) (S_Tb_handOutInTurn (by decide) hca7)) ?_
    refine zt_goto zy_87 (show q_ins q_k87 41 = some (.goto 14, 55, 0) from rfl) ?_
    exact zt_wk (zt_cov_cons rfl (zt_cov_nil)) (S_TR_handOut_55  _ _ h)
  · rw [if_neg hc] at h
    refine zt_aload_n zy_87 (show q_ins q_k87 44 = some (.aload_n 0, 0, 0) from rfl) (v := 128) rfl ?_
    refine zt_getR zy_87 (show q_ins q_k87 45 = some (.getfield 23, 7, 1) from rfl) (r := 130) zk_128_1 ?_
    refine zt_aload_n zy_87 (show q_ins q_k87 48 = some (.aload_n 0, 0, 0) from rfl) (v := 128) rfl ?_
    refine zt_getR zy_87 (show q_ins q_k87 49 = some (.getfield 31, 7, 3) from rfl) (r := 4) zk_128_3 ?_
    obtain ⟨a11, s12, hca11, h⟩ := zt_bdE h
    refine zt_callV (d := 3) zy_87 (show q_ins q_k87 52 = some (.invokevirtual 200, 56, 1) from rfl) zy_56 (by decide) ⟨zq_lt (by decide), by decide⟩ rfl (by simp [Value.category]) (by simp [lg_sl, Value.category]) (zt_rcv zc_130) (zt_dm (by decide) (S_Tb_fillUp (by decide) hca11)) ?_
    exact zt_wk (zt_cov_cons rfl (zt_cov_nil)) (S_TR_handOut_55  _ _ h)
theorem S_TR_read_79 {X : q_X}   : ∀  (σ : zt_S) (o : (Int × zt_S)), F_TR_read_79   σ = some o → zt_Ex X 5 79 79 [(0, .ref 128)] [] (zt_M T σ) (zo_I T o) := by
  intro  σ o  h
  unfold F_TR_read_79 at h
  refine zt_aload_n zy_79 (show q_ins q_k79 79 = some (.aload_n 0, 0, 0) from rfl) (v := 128) rfl ?_
  refine zt_getR zy_79 (show q_ins q_k79 80 = some (.getfield 27, 7, 2) from rfl) (r := 2) zk_128_2 ?_
  refine zt_getI zy_79 (show q_ins q_k79 83 = some (.getfield 66, 8, 6) from rfl) (j := 6) zk_2_6 rfl ?_
  cases h
  exact zt_iret zy_79 (show q_ins q_k79 86 = some (.ireturn, 0, 0) from rfl)
theorem S_TR_read_65 {X : q_X}   : ∀  (σ : zt_S) (o : (Int × zt_S)), F_TR_read_65   σ = some o → zt_Ex X 5 79 65 [(0, .ref 128)] [] (zt_M T σ) (zo_I T o) := by
  intro  σ o  h
  unfold F_TR_read_65 at h
  refine zt_aload_n zy_79 (show q_ins q_k79 65 = some (.aload_n 0, 0, 0) from rfl) (v := 128) rfl ?_
  refine zt_getR zy_79 (show q_ins q_k79 66 = some (.getfield 27, 7, 2) from rfl) (r := 2) zk_128_2 ?_
  obtain ⟨a17, s18, hca17, h⟩ := zt_bdE h
  refine zt_callV (d := 4) zy_79 (show q_ins q_k79 69 = some (.invokevirtual 53, 93, 0) from rfl) zy_93 (by decide) ⟨zq_lt (by decide), by decide⟩ rfl (by simp [Value.category]) (by simp [lg_sl, Value.category]) (zt_rcv zc_2) (zt_dm (by decide) (S_Tk_hasFailed hca17)) ?_
  obtain ⟨hg, h⟩ := zt_ckE h
  refine zt_if_ne zy_79 (show q_ins q_k79 72 = some (.ifCond .ne 7, 79, 0) from rfl) (hg) (fun hc => ?_) (fun hc => ?_)
  · rw [if_pos hc] at h
    refine zt_aload_n zy_79 (show q_ins q_k79 75 = some (.aload_n 0, 0, 0) from rfl) (v := 128) rfl ?_
    obtain ⟨a19, s20, hca19, h⟩ := zt_bdE h
    refine zt_callV (d := 4) zy_79 (show q_ins q_k79 76 = some (.invokevirtual 63, 87, 0) from rfl) zy_87 (by decide) ⟨zq_lt (by decide), by decide⟩ rfl (by simp [Value.category]) (by simp [lg_sl, Value.category]) (zt_rcv zc_128) (zt_dm (by decide) (S_TR_handOut hca19)) ?_
    exact zt_wk (zt_cov_cons rfl (zt_cov_nil)) (S_TR_read_79  _ _ h)
  · rw [if_neg hc] at h
    exact zt_wk (zt_cov_cons rfl (zt_cov_nil)) (S_TR_read_79  _ _ h)
theorem S_TR_read_29 {X : q_X}   : ∀ (n : Nat) (v1 : Int) (v2 : Int) (σ : zt_S) (o : (Int × zt_S)), F_TR_read_29  n v1 v2 σ = some o → zt_Ex X 5 79 29 [(0, .ref 128), (1, .int (Int32.ofInt v1)), (2, .int (Int32.ofInt v2))] [] (zt_M T σ) (zo_I T o) := by
  intro n
  induction n with
  | zero => intro v1 v2 σ o  h; cases h
  | succ n ih =>
  intro v1 v2 σ o  h
  rw [F_TR_read_29] at h
  refine zt_iload_n zy_79 (show q_ins q_k79 29 = some (.iload_n 2, 0, 0) from rfl) (v := Int32.ofInt v2) rfl ?_
  refine zt_iload_n zy_79 (show q_ins q_k79 30 = some (.iload_n 1, 0, 0) from rfl) (v := Int32.ofInt v1) rfl ?_
  obtain ⟨hg, h⟩ := zt_ckE h
  refine zt_icmp_ge zy_79 (show q_ins q_k79 31 = some (.if_icmp .ge 34, 65, 0) from rfl) (⟨hg.1, hg.2⟩) (fun hc => ?_) (fun hc => ?_)
  · rw [if_pos hc] at h
    refine zt_aload_n zy_79 (show q_ins q_k79 34 = some (.aload_n 0, 0, 0) from rfl) (v := 128) rfl ?_
    refine zt_getR zy_79 (show q_ins q_k79 35 = some (.getfield 27, 7, 2) from rfl) (r := 2) zk_128_2 ?_
    obtain ⟨a11, s12, hca11, h⟩ := zt_bdE h
    refine zt_callV (d := 4) zy_79 (show q_ins q_k79 38 = some (.invokevirtual 53, 93, 0) from rfl) zy_93 (by decide) ⟨zq_lt (by decide), by decide⟩ rfl (by simp [Value.category]) (by simp [lg_sl, Value.category]) (zt_rcv zc_2) (zt_dm (by decide) (S_Tk_hasFailed hca11)) ?_
    obtain ⟨hg, h⟩ := zt_ckE h
    refine zt_if_ne zy_79 (show q_ins q_k79 41 = some (.ifCond .ne 24, 65, 0) from rfl) (hg) (fun hc => ?_) (fun hc => ?_)
    · rw [if_pos hc] at h
      refine zt_aload_n zy_79 (show q_ins q_k79 44 = some (.aload_n 0, 0, 0) from rfl) (v := 128) rfl ?_
      refine zt_getR zy_79 (show q_ins q_k79 45 = some (.getfield 27, 7, 2) from rfl) (r := 2) zk_128_2 ?_
      obtain ⟨a13, s14, hca13, h⟩ := zt_bdE h
      refine zt_callV (d := 4) zy_79 (show q_ins q_k79 48 = some (.invokevirtual 57, 95, 0) from rfl) zy_95 (by decide) ⟨zq_lt (by decide), by decide⟩ rfl (by simp [Value.category]) (by simp [lg_sl, Value.category]) (zt_rcv zc_2) (zt_dm (by decide) (S_Tk_isAtEnd hca13)) ?_
      obtain ⟨hg, h⟩ := zt_ckE h
      refine zt_if_ne zy_79 (show q_ins q_k79 51 = some (.ifCond .ne 14, 65, 0) from rfl) (hg) (fun hc => ?_) (fun hc => ?_)
      · rw [if_pos hc] at h
        refine zt_aload_n zy_79 (show q_ins q_k79 54 = some (.aload_n 0, 0, 0) from rfl) (v := 128) rfl ?_
        refine zt_iload_n zy_79 (show q_ins q_k79 55 = some (.iload_n 1, 0, 0) from rfl) (v := Int32.ofInt v1) rfl ?_
        obtain ⟨a15, s16, hca15, h⟩ := zt_bdE h
        refine zt_callV (d := 4) zy_79 (show q_ins q_k79 56 = some (.invokevirtual 60, 83, 1) from rfl) zy_83 (by decide) ⟨zq_lt (by decide), by decide⟩ rfl (by simp [Value.category]) (by simp [lg_sl, Value.category]) (zt_rcv zc_128) (zt_dm (by decide) (S_TR_readClause hca15)) ?_
        refine zt_iinc zy_79 (show q_ins q_k79 59 = some (.iinc 2 1, 0, 0) from rfl) (v := v2) (by decide) rfl ?_
        refine zt_goto zy_79 (show q_ins q_k79 62 = some (.goto (-33), 29, 0) from rfl) ?_
        exact zt_wk (zt_cov_cons rfl (zt_cov_cons rfl (zt_cov_cons rfl (zt_cov_nil)))) (ih _ _ _ _ h)
      · rw [if_neg hc] at h
        exact zt_wk (zt_cov_cons rfl (zt_cov_nil)) (S_TR_read_65  _ _ h)
    · rw [if_neg hc] at h
      exact zt_wk (zt_cov_cons rfl (zt_cov_nil)) (S_TR_read_65  _ _ h)
  · rw [if_neg hc] at h
    exact zt_wk (zt_cov_cons rfl (zt_cov_nil)) (S_TR_read_65  _ _ h)
theorem S_TR_read {X : q_X}   {v1 : Int} {σ : zt_S} {o : (Int × zt_S)} (h : F_TR_read  v1 σ = some o) : zt_Ex X 5 79 0 (lv_args 0 [.ref 128, .int (Int32.ofInt v1)]) [] (zt_M T σ) (zo_I T o) := by
  unfold F_TR_read at h
  refine zt_aload_n zy_79 (show q_ins q_k79 0 = some (.aload_n 0, 0, 0) from rfl) (v := 128) rfl ?_
  refine zt_getR zy_79 (show q_ins q_k79 1 = some (.getfield 27, 7, 2) from rfl) (r := 2) zk_128_2 ?_
  refine zt_iload_n zy_79 (show q_ins q_k79 4 = some (.iload_n 1, 0, 0) from rfl) (v := Int32.ofInt v1) rfl ?_
  obtain ⟨a1, s2, hca1, h⟩ := zt_bdE h
  refine zt_callV (d := 4) zy_79 (show q_ins q_k79 5 = some (.invokevirtual 35, 89, 1) from rfl) zy_89 (by decide) ⟨zq_lt (by decide), by decide⟩ rfl (by simp [Value.category]) (by simp [lg_sl, Value.category]) (zt_rcv zc_2) (zt_dm (by decide) (S_Tk_open hca1)) ?_
  refine zt_aload_n zy_79 (show q_ins q_k79 8 = some (.aload_n 0, 0, 0) from rfl) (v := 128) rfl ?_
  refine zt_getR zy_79 (show q_ins q_k79 9 = some (.getfield 23, 7, 1) from rfl) (r := 130) zk_128_1 ?_
  obtain ⟨a3, s4, hca3, h⟩ := zt_bdE h
  refine zt_callV (d := 4) zy_79 (show q_ins q_k79 12 = some (.invokevirtual 41, 50, 0) from rfl) zy_50 (by decide) ⟨zq_lt (by decide), by decide⟩ rfl (by simp [Value.category]) (by simp [lg_sl, Value.category]) (zt_rcv zc_130) (zt_dm (by decide) (S_Tb_clear (by decide) hca3)) ?_
  refine zt_aload_n zy_79 (show q_ins q_k79 15 = some (.aload_n 0, 0, 0) from rfl) (v := 128) rfl ?_
  obtain ⟨a5, s6, hca5, h⟩ := zt_bdE h
  refine zt_callV (d := 4) zy_79 (show q_ins q_k79 16 = some (.invokevirtual 44, 80, 0) from rfl) zy_80 (by decide) ⟨zq_lt (by decide), by decide⟩ rfl (by simp [Value.category]) (by simp [lg_sl, Value.category]) (zt_rcv zc_128) (zt_dm (by decide) (S_TR_readSizes hca5)) ?_
  refine zt_aload_n zy_79 (show q_ins q_k79 19 = some (.aload_n 0, 0, 0) from rfl) (v := 128) rfl ?_
  obtain ⟨a7, s8, hca7, h⟩ := zt_bdE h
  refine zt_callV (d := 4) zy_79 (show q_ins q_k79 20 = some (.invokevirtual 47, 81, 0) from rfl) zy_81 (by decide) ⟨zq_lt (by decide), by decide⟩ rfl (by simp [Value.category]) (by simp [lg_sl, Value.category]) (zt_rcv zc_128) (zt_dm (by decide) (S_TR_readTrump hca7)) ?_
  refine zt_aload_n zy_79 (show q_ins q_k79 23 = some (.aload_n 0, 0, 0) from rfl) (v := 128) rfl ?_
  obtain ⟨a9, s10, hca9, h⟩ := zt_bdE h
  refine zt_callV (d := 4) zy_79 (show q_ins q_k79 24 = some (.invokevirtual 50, 82, 0) from rfl) zy_82 (by decide) ⟨zq_lt (by decide), by decide⟩ rfl (by simp [Value.category]) (by simp [lg_sl, Value.category]) (zt_rcv zc_128) (zt_dm (by decide) (S_TR_readStart hca9)) ?_
  refine zt_iconst zy_79 (show q_ins q_k79 27 = some (.iconst 0, 0, 0) from rfl) ?_
  refine zt_istore_n zy_79 (show q_ins q_k79 28 = some (.istore_n 2, 0, 0) from rfl) (by decide) ?_
  exact zt_wk (zt_cov_cons rfl (zt_cov_cons rfl (zt_cov_cons rfl (zt_cov_nil)))) (S_TR_read_29  _ _ _ _ _ h)
theorem S_C_append_49 {X : q_X}   {r3 : Int → Int → zt_S → Option (Unit × zt_S)} (hr3 : ∀ (v1 : Int) (v2 : Int) (σ : zt_S) (o : (Unit × zt_S)), r3 v1 v2 σ = some o → zt_Ex X 0 118 3 [(0, .ref 0), (1, .int (Int32.ofInt v1)), (2, .int (Int32.ofInt v2))] [] (zt_M T σ) (zo_V T o)) : ∀ (v1 : Int) (v2 : Int) (σ : zt_S) (o : (Unit × zt_S)), F_C_append_49  r3 v1 v2 σ = some o → zt_Ex X 0 118 49 [(0, .ref 0), (1, .int (Int32.ofInt v1)), (2, .int (Int32.ofInt v2))] [] (zt_M T σ) (zo_V T o) := by
  intro v1 v2 σ o  h
  unfold F_C_append_49 at h
  refine zt_iinc zy_118 (show q_ins q_k118 49 = some (.iinc 2 (-8), 0, 0) from rfl) (v := v2) (by decide) rfl ?_
  refine zt_goto zy_118 (show q_ins q_k118 52 = some (.goto (-49), 3, 0) from rfl) ?_
  exact zt_wk (zt_cov_cons rfl (zt_cov_cons rfl (zt_cov_cons rfl (zt_cov_nil)))) (hr3 _ _ _ _ h)
theorem S_C_append_3 {X : q_X}   : ∀ (n : Nat) (v1 : Int) (v2 : Int) (σ : zt_S) (o : (Unit × zt_S)), F_C_append_3  n v1 v2 σ = some o → zt_Ex X 0 118 3 [(0, .ref 0), (1, .int (Int32.ofInt v1)), (2, .int (Int32.ofInt v2))] [] (zt_M T σ) (zo_V T o) := by
  intro n
  induction n with
  | zero => intro v1 v2 σ o  h; cases h
  | succ n ih =>
  intro v1 v2 σ o  h
  rw [F_C_append_3] at h
  refine zt_iload_n zy_118 (show q_ins q_k118 3 = some (.iload_n 2, 0, 0) from rfl) (v := Int32.ofInt v2) rfl ?_
  obtain ⟨hg, h⟩ := zt_ckE h
  refine zt_if_lt zy_118 (show q_ins q_k118 4 = some (.ifCond .lt 51, 55, 0) from rfl) (hg) (fun hc => ?_) (fun hc => ?_)
  · rw [if_pos hc] at h
    cases h
    exact zt_ret zy_118 (show q_ins q_k118 55 = some (.return_, 0, 0) from rfl)
  · rw [if_neg hc] at h
    refine zt_aload_n zy_118 (show q_ins q_k118 7 = some (.aload_n 0, 0, 0) from rfl) (v := 0) rfl ?_
    refine zt_getI zy_118 (show q_ins q_k118 8 = some (.getfield 104, 10, 1) from rfl) (j := 1) zk_0_1 rfl ?_
    obtain ⟨hg, h⟩ := zt_ckE h
    refine zt_if_lt zy_118 (show q_ins q_k118 11 = some (.ifCond .lt 38, 49, 0) from rfl) (hg) (fun hc => ?_) (fun hc => ?_)
    · rw [if_pos hc] at h
      exact zt_wk (zt_cov_cons rfl (zt_cov_cons rfl (zt_cov_cons rfl (zt_cov_nil)))) (S_C_append_49  ih _ _ _ _ h)
    · rw [if_neg hc] at h
      refine zt_aload_n zy_118 (show q_ins q_k118 14 = some (.aload_n 0, 0, 0) from rfl) (v := 0) rfl ?_
      refine zt_getI zy_118 (show q_ins q_k118 15 = some (.getfield 104, 10, 1) from rfl) (j := 1) zk_0_1 rfl ?_
      refine zt_aload_n zy_118 (show q_ins q_k118 18 = some (.aload_n 0, 0, 0) from rfl) (v := 0) rfl ?_
      refine zt_getR zy_118 (show q_ins q_k118 19 = some (.getfield 9, 10, 0) from rfl) (r := 1) zk_0_0 ?_
      refine zt_alen zy_118 (show q_ins q_k118 22 = some (.arraylength, 0, 0) from rfl) za_1 (by decide) ?_
      obtain ⟨hg, h⟩ := zt_ckE h
      refine zt_icmp_ge zy_118 (show q_ins q_k118 23 = some (.if_icmp .ge 26, 49, 0) from rfl) (⟨hg, by decide⟩) (fun hc => ?_) (fun hc => ?_)
      · rw [if_pos hc] at h
        refine zt_aload_n zy_118 (show q_ins q_k118 26 = some (.aload_n 0, 0, 0) from rfl) (v := 0) rfl ?_
        refine zt_getR zy_118 (show q_ins q_k118 27 = some (.getfield 9, 10, 0) from rfl) (r := 1) zk_0_0 ?_
        refine zt_aload_n zy_118 (show q_ins q_k118 30 = some (.aload_n 0, 0, 0) from rfl) (v := 0) rfl ?_
        refine zt_getI zy_118 (show q_ins q_k118 31 = some (.getfield 104, 10, 1) from rfl) (j := 1) zk_0_1 rfl ?_
        refine zt_iload_n zy_118 (show q_ins q_k118 34 = some (.iload_n 1, 0, 0) from rfl) (v := Int32.ofInt v1) rfl ?_
        refine zt_iload_n zy_118 (show q_ins q_k118 35 = some (.iload_n 2, 0, 0) from rfl) (v := Int32.ofInt v2) rfl ?_
        refine zt_ishr zy_118 (show q_ins q_k118 36 = some (.ishr, 0, 0) from rfl) ?_
        refine zt_i2b zy_118 (show q_ins q_k118 37 = some (.i2b, 0, 0) from rfl) ?_
        obtain ⟨hg, h⟩ := zt_ckE h
        obtain ⟨s1, hs1, h⟩ := zt_letE h
        refine zt_bst zy_118 (show q_ins q_k118 38 = some (.bastore, 0, 0) from rfl) za_1 (by decide) hg ?_
        rw [← hs1]
        refine zt_aload_n zy_118 (show q_ins q_k118 39 = some (.aload_n 0, 0, 0) from rfl) (v := 0) rfl ?_
        refine zt_dup zy_118 (show q_ins q_k118 40 = some (.dup, 0, 0) from rfl) rfl ?_
        refine zt_getI zy_118 (show q_ins q_k118 41 = some (.getfield 104, 10, 1) from rfl) (j := 1) zk_0_1 rfl ?_
        refine zt_iconst zy_118 (show q_ins q_k118 44 = some (.iconst 1, 0, 0) from rfl) ?_
        refine zt_iadd zy_118 (show q_ins q_k118 45 = some (.iadd, 0, 0) from rfl) ?_
        obtain ⟨s2, hs2, h⟩ := zt_letE h
        refine zt_putI zy_118 (show q_ins q_k118 46 = some (.putfield 104, 10, 1) from rfl) (j := 1) zk_0_1 rfl rfl rfl ?_
        rw [← hs2]
        exact zt_wk (zt_cov_cons rfl (zt_cov_cons rfl (zt_cov_cons rfl (zt_cov_nil)))) (S_C_append_49  ih _ _ _ _ h)
      · rw [if_neg hc] at h
        exact zt_wk (zt_cov_cons rfl (zt_cov_cons rfl (zt_cov_cons rfl (zt_cov_nil)))) (S_C_append_49  ih _ _ _ _ h)
theorem S_C_append {X : q_X}   {v1 : Int} {σ : zt_S} {o : (Unit × zt_S)} (h : F_C_append  v1 σ = some o) : zt_Ex X 0 118 0 (lv_args 0 [.ref 0, .int (Int32.ofInt v1)]) [] (zt_M T σ) (zo_V T o) := by
  unfold F_C_append at h
  refine zt_bipush zy_118 (show q_ins q_k118 0 = some (.bipush 24, 0, 0) from rfl) (by decide) ?_
  refine zt_istore_n zy_118 (show q_ins q_k118 2 = some (.istore_n 2, 0, 0) from rfl) (by decide) ?_
  exact zt_wk (zt_cov_cons rfl (zt_cov_cons rfl (zt_cov_cons rfl (zt_cov_nil)))) (S_C_append_3  _ _ _ _ _ h)
theorem S_C_feed {X : q_X}   {v1 : Int} {v2 : Int} {v3 : Int} {v4 : Int} {v5 : Int} {σ : zt_S} {o : (Int × zt_S)} (h : F_C_feed  v1 v2 v3 v4 v5 σ = some o) : zt_Ex X 1 117 0 (lv_args 0 [.ref 0, .int (Int32.ofInt v1), .int (Int32.ofInt v2), .int (Int32.ofInt v3), .int (Int32.ofInt v4), .int (Int32.ofInt v5)]) [] (zt_M T σ) (zo_I T o) := by
  unfold F_C_feed at h
  refine zt_aload_n zy_117 (show q_ins q_k117 0 = some (.aload_n 0, 0, 0) from rfl) (v := 0) rfl ?_
  refine zt_getI zy_117 (show q_ins q_k117 1 = some (.getfield 104, 10, 1) from rfl) (j := 1) zk_0_1 rfl ?_
  refine zt_bipush zy_117 (show q_ins q_k117 4 = some (.bipush 20, 0, 0) from rfl) (by decide) ?_
  refine zt_iadd zy_117 (show q_ins q_k117 6 = some (.iadd, 0, 0) from rfl) ?_
  refine zt_sipush zy_117 (show q_ins q_k117 7 = some (.sipush 500, 0, 0) from rfl) (by decide) ?_
  obtain ⟨hg, h⟩ := zt_ckE h
  refine zt_icmp_le zy_117 (show q_ins q_k117 10 = some (.if_icmp .le 5, 15, 0) from rfl) (⟨hg, by decide⟩) (fun hc => ?_) (fun hc => ?_)
  · rw [if_pos hc] at h
    refine zt_iconst zy_117 (show q_ins q_k117 13 = some (.iconst (-1), 0, 0) from rfl) ?_
    cases h
    exact zt_iret zy_117 (show q_ins q_k117 14 = some (.ireturn, 0, 0) from rfl)
  · rw [if_neg hc] at h
    refine zt_aload_n zy_117 (show q_ins q_k117 15 = some (.aload_n 0, 0, 0) from rfl) (v := 0) rfl ?_
    refine zt_iload_n zy_117 (show q_ins q_k117 16 = some (.iload_n 1, 0, 0) from rfl) (v := Int32.ofInt v1) rfl ?_
    obtain ⟨a1, s2, hca1, h⟩ := zt_bdE h
    refine zt_callV (d := 0) zy_117 (show q_ins q_k117 17 = some (.invokevirtual 108, 118, 1) from rfl) zy_118 (by decide) ⟨zq_lt (by decide), by decide⟩ rfl (by simp [Value.category]) (by simp [lg_sl, Value.category]) (zt_rcv zc_0) (zt_dm (by decide) (S_C_append hca1)) ?_
    refine zt_aload_n zy_117 (show q_ins q_k117 20 = some (.aload_n 0, 0, 0) from rfl) (v := 0) rfl ?_
    refine zt_iload_n zy_117 (show q_ins q_k117 21 = some (.iload_n 2, 0, 0) from rfl) (v := Int32.ofInt v2) rfl ?_
    obtain ⟨a3, s4, hca3, h⟩ := zt_bdE h
    refine zt_callV (d := 0) zy_117 (show q_ins q_k117 22 = some (.invokevirtual 108, 118, 1) from rfl) zy_118 (by decide) ⟨zq_lt (by decide), by decide⟩ rfl (by simp [Value.category]) (by simp [lg_sl, Value.category]) (zt_rcv zc_0) (zt_dm (by decide) (S_C_append hca3)) ?_
    refine zt_aload_n zy_117 (show q_ins q_k117 25 = some (.aload_n 0, 0, 0) from rfl) (v := 0) rfl ?_
    refine zt_iload_n zy_117 (show q_ins q_k117 26 = some (.iload_n 3, 0, 0) from rfl) (v := Int32.ofInt v3) rfl ?_
    obtain ⟨a5, s6, hca5, h⟩ := zt_bdE h
    refine zt_callV (d := 0) zy_117 (show q_ins q_k117 27 = some (.invokevirtual 108, 118, 1) from rfl) zy_118 (by decide) ⟨zq_lt (by decide), by decide⟩ rfl (by simp [Value.category]) (by simp [lg_sl, Value.category]) (zt_rcv zc_0) (zt_dm (by decide) (S_C_append hca5)) ?_
    refine zt_aload_n zy_117 (show q_ins q_k117 30 = some (.aload_n 0, 0, 0) from rfl) (v := 0) rfl ?_
    refine zt_iload zy_117 (show q_ins q_k117 31 = some (.iload 4, 0, 0) from rfl) (v := Int32.ofInt v4) rfl ?_
    obtain ⟨a7, s8, hca7, h⟩ := zt_bdE h
    refine zt_callV (d := 0) zy_117 (show q_ins q_k117 33 = some (.invokevirtual 108, 118, 1) from rfl) zy_118 (by decide) ⟨zq_lt (by decide), by decide⟩ rfl (by simp [Value.category]) (by simp [lg_sl, Value.category]) (zt_rcv zc_0) (zt_dm (by decide) (S_C_append hca7)) ?_
    refine zt_aload_n zy_117 (show q_ins q_k117 36 = some (.aload_n 0, 0, 0) from rfl) (v := 0) rfl ?_
    refine zt_iload zy_117 (show q_ins q_k117 37 = some (.iload 5, 0, 0) from rfl) (v := Int32.ofInt v5) rfl ?_
    obtain ⟨a9, s10, hca9, h⟩ := zt_bdE h
    refine zt_callV (d := 0) zy_117 (show q_ins q_k117 39 = some (.invokevirtual 108, 118, 1) from rfl) zy_118 (by decide) ⟨zq_lt (by decide), by decide⟩ rfl (by simp [Value.category]) (by simp [lg_sl, Value.category]) (zt_rcv zc_0) (zt_dm (by decide) (S_C_append hca9)) ?_
    refine zt_aload_n zy_117 (show q_ins q_k117 42 = some (.aload_n 0, 0, 0) from rfl) (v := 0) rfl ?_
    refine zt_getI zy_117 (show q_ins q_k117 43 = some (.getfield 104, 10, 1) from rfl) (j := 1) zk_0_1 rfl ?_
    cases h
    exact zt_iret zy_117 (show q_ins q_k117 46 = some (.ireturn, 0, 0) from rfl)
theorem S_C_load_12 {X : q_X}   : ∀  (σ : zt_S) (o : ((Int ⊕ Nat) × zt_S)), F_C_load_12   σ = some o → zt_Ex X 6 119 12 [] [] (zt_M T σ) (zx_I T o) := by
  intro  σ o  h
  unfold F_C_load_12 at h
  cases h
  exact zt_new (E := 1) zy_119 (show q_ins q_k119 12 = some (.new 112, 1001, 114) from rfl) rfl (by decide) (by show _ ≤ _; simp [Value.category])
theorem S_C_load {X : q_X}   {v1 : Int} {σ : zt_S} {o : ((Int ⊕ Nat) × zt_S)} (h : F_C_load  v1 σ = some o) : zt_Ex X 6 119 0 (lv_args 0 [.ref 0, .int (Int32.ofInt v1)]) [] (zt_M T σ) (zx_I T o) := by
  unfold F_C_load at h
  refine zt_iload_n zy_119 (show q_ins q_k119 0 = some (.iload_n 1, 0, 0) from rfl) (v := Int32.ofInt v1) rfl ?_
  obtain ⟨hg, h⟩ := zt_ckE h
  refine zt_if_lt zy_119 (show q_ins q_k119 1 = some (.ifCond .lt 11, 12, 0) from rfl) (hg) (fun hc => ?_) (fun hc => ?_)
  · rw [if_pos hc] at h
    exact zt_wk (zt_cov_nil) (S_C_load_12  _ _ h)
  · rw [if_neg hc] at h
    refine zt_iload_n zy_119 (show q_ins q_k119 4 = some (.iload_n 1, 0, 0) from rfl) (v := Int32.ofInt v1) rfl ?_
    refine zt_aload_n zy_119 (show q_ins q_k119 5 = some (.aload_n 0, 0, 0) from rfl) (v := 0) rfl ?_
    refine zt_getI zy_119 (show q_ins q_k119 6 = some (.getfield 104, 10, 1) from rfl) (j := 1) zk_0_1 rfl ?_
    obtain ⟨hg, h⟩ := zt_ckE h
    refine zt_icmp_le zy_119 (show q_ins q_k119 9 = some (.if_icmp .le 11, 20, 0) from rfl) (⟨hg.1, hg.2⟩) (fun hc => ?_) (fun hc => ?_)
    · rw [if_pos hc] at h
      exact zt_wk (zt_cov_nil) (S_C_load_12  _ _ h)
    · rw [if_neg hc] at h
      refine zt_aload_n zy_119 (show q_ins q_k119 20 = some (.aload_n 0, 0, 0) from rfl) (v := 0) rfl ?_
      refine zt_getR zy_119 (show q_ins q_k119 21 = some (.getfield 60, 10, 9) from rfl) (r := 128) zk_0_9 ?_
      refine zt_iload_n zy_119 (show q_ins q_k119 24 = some (.iload_n 1, 0, 0) from rfl) (v := Int32.ofInt v1) rfl ?_
      obtain ⟨a1, s2, hca1, h⟩ := zt_bdE h
      refine zt_callV (d := 5) zy_119 (show q_ins q_k119 25 = some (.invokevirtual 115, 79, 1) from rfl) zy_79 (by decide) ⟨zq_lt (by decide), by decide⟩ rfl (by simp [Value.category]) (by simp [lg_sl, Value.category]) (zt_rcv zc_128) (zt_dm (by decide) (S_TR_read hca1)) ?_
      refine zt_istore_n zy_119 (show q_ins q_k119 28 = some (.istore_n 2, 0, 0) from rfl) (by decide) ?_
      refine zt_aload_n zy_119 (show q_ins q_k119 29 = some (.aload_n 0, 0, 0) from rfl) (v := 0) rfl ?_
      refine zt_iconst zy_119 (show q_ins q_k119 30 = some (.iconst 0, 0, 0) from rfl) ?_
      obtain ⟨s3, hs3, h⟩ := zt_letE h
      refine zt_putI zy_119 (show q_ins q_k119 31 = some (.putfield 104, 10, 1) from rfl) (j := 1) zk_0_1 rfl rfl rfl ?_
      rw [← hs3]
      refine zt_iload_n zy_119 (show q_ins q_k119 34 = some (.iload_n 2, 0, 0) from rfl) (v := Int32.ofInt a1) rfl ?_
      obtain ⟨hg, h⟩ := zt_ckE h
      refine zt_if_eq zy_119 (show q_ins q_k119 35 = some (.ifCond .eq 8, 43, 0) from rfl) (hg) (fun hc => ?_) (fun hc => ?_)
      · rw [if_pos hc] at h
        refine zt_aload_n zy_119 (show q_ins q_k119 43 = some (.aload_n 0, 0, 0) from rfl) (v := 0) rfl ?_
        refine zt_getR zy_119 (show q_ins q_k119 44 = some (.getfield 25, 10, 3) from rfl) (r := 3) zk_0_3 ?_
        refine zt_aload_n zy_119 (show q_ins q_k119 47 = some (.aload_n 0, 0, 0) from rfl) (v := 0) rfl ?_
        refine zt_getR zy_119 (show q_ins q_k119 48 = some (.getfield 60, 10, 9) from rfl) (r := 128) zk_0_9 ?_
        refine zt_getR zy_119 (show q_ins q_k119 51 = some (.getfield 119, 7, 0) from rfl) (r := 129) zk_128_0 ?_
        obtain ⟨a4, s5, hca4, h⟩ := zt_bdE h
        refine zt_callV (d := 5) zy_119 (show q_ins q_k119 54 = some (.invokevirtual 120, 29, 1) from rfl) zy_29 (by decide) ⟨zq_lt (by decide), by decide⟩ rfl (by simp [Value.category]) (by simp [lg_sl, Value.category]) (zt_rcv zc_3) (zt_dm (by decide) (S_Su_copyFrom (by decide) (by decide) hca4)) ?_
        refine zt_aload_n zy_119 (show q_ins q_k119 57 = some (.aload_n 0, 0, 0) from rfl) (v := 0) rfl ?_
        refine zt_getR zy_119 (show q_ins q_k119 58 = some (.getfield 41, 10, 5) from rfl) (r := 6) zk_0_5 ?_
        refine zt_aload_n zy_119 (show q_ins q_k119 61 = some (.aload_n 0, 0, 0) from rfl) (v := 0) rfl ?_
        refine zt_getR zy_119 (show q_ins q_k119 62 = some (.getfield 60, 10, 9) from rfl) (r := 128) zk_0_9 ?_
        refine zt_getR zy_119 (show q_ins q_k119 65 = some (.getfield 123, 7, 1) from rfl) (r := 130) zk_128_1 ?_
        obtain ⟨a6, s7, hca6, h⟩ := zt_bdE h
        refine zt_callV (d := 5) zy_119 (show q_ins q_k119 68 = some (.invokevirtual 124, 52, 1) from rfl) zy_52 (by decide) ⟨zq_lt (by decide), by decide⟩ rfl (by simp [Value.category]) (by simp [lg_sl, Value.category]) (zt_rcv zc_6) (zt_dm (by decide) (S_Tb_copyFrom (by decide) (by decide) hca6)) ?_
        refine zt_aload_n zy_119 (show q_ins q_k119 71 = some (.aload_n 0, 0, 0) from rfl) (v := 0) rfl ?_
        refine zt_getR zy_119 (show q_ins q_k119 72 = some (.getfield 48, 10, 6) from rfl) (r := 16) zk_0_6 ?_
        obtain ⟨a8, s9, hca8, h⟩ := zt_bdE h
        refine zt_callV (d := 5) zy_119 (show q_ins q_k119 75 = some (.invokevirtual 126, 7, 0) from rfl) zy_7 (by decide) ⟨zq_lt (by decide), by decide⟩ rfl (by simp [Value.category]) (by simp [lg_sl, Value.category]) (zt_rcv zc_16) (zt_dm (by decide) (S_Hi_clear hca8)) ?_
        refine zt_aload_n zy_119 (show q_ins q_k119 78 = some (.aload_n 0, 0, 0) from rfl) (v := 0) rfl ?_
        refine zt_iconst zy_119 (show q_ins q_k119 79 = some (.iconst 0, 0, 0) from rfl) ?_
        obtain ⟨s10, hs10, h⟩ := zt_letE h
        refine zt_putZ zy_119 (show q_ins q_k119 80 = some (.putfield 129, 10, 8) from rfl) (j := 8) zk_0_8 rfl rfl (by decide) rfl ?_
        rw [← hs10]
        refine zt_aload_n zy_119 (show q_ins q_k119 83 = some (.aload_n 0, 0, 0) from rfl) (v := 0) rfl ?_
        refine zt_getR zy_119 (show q_ins q_k119 84 = some (.getfield 25, 10, 3) from rfl) (r := 3) zk_0_3 ?_
        obtain ⟨a11, s12, hca11, h⟩ := zt_bdE h
        refine zt_callV (d := 5) zy_119 (show q_ins q_k119 87 = some (.invokevirtual 133, 31, 0) from rfl) zy_31 (by decide) ⟨zq_lt (by decide), by decide⟩ rfl (by simp [Value.category]) (by simp [lg_sl, Value.category]) (zt_rcv zc_3) (zt_dm (by decide) (S_Su_cardsOfHands (by decide) hca11)) ?_
        cases h
        exact zt_iret zy_119 (show q_ins q_k119 90 = some (.ireturn, 0, 0) from rfl)
      · rw [if_neg hc] at h
        refine zt_bipush zy_119 (show q_ins q_k119 38 = some (.bipush (-10), 0, 0) from rfl) (by decide) ?_
        refine zt_iload_n zy_119 (show q_ins q_k119 40 = some (.iload_n 2, 0, 0) from rfl) (v := Int32.ofInt a1) rfl ?_
        refine zt_isub zy_119 (show q_ins q_k119 41 = some (.isub, 0, 0) from rfl) ?_
        cases h
        exact zt_iret zy_119 (show q_ins q_k119 42 = some (.ireturn, 0, 0) from rfl)
theorem S_C_errorPosition {X : q_X}    {σ : zt_S} {o : (Int × zt_S)} (h : F_C_errorPosition   σ = some o) : zt_Ex X 0 120 0 (lv_args 0 [.ref 0]) [] (zt_M T σ) (zo_I T o) := by
  unfold F_C_errorPosition at h
  refine zt_aload_n zy_120 (show q_ins q_k120 0 = some (.aload_n 0, 0, 0) from rfl) (v := 0) rfl ?_
  refine zt_getR zy_120 (show q_ins q_k120 1 = some (.getfield 18, 10, 2) from rfl) (r := 2) zk_0_2 ?_
  refine zt_getI zy_120 (show q_ins q_k120 4 = some (.getfield 136, 8, 7) from rfl) (j := 7) zk_2_7 rfl ?_
  cases h
  exact zt_iret zy_120 (show q_ins q_k120 7 = some (.ireturn, 0, 0) from rfl)
theorem S_C_size_157 {X : q_X}   : ∀ (x0 : Int) (σ : zt_S) (o : ((Int ⊕ Nat) × zt_S)), F_C_size_157  x0 σ = some o → zt_Ex X 2 122 157 [] [.int (Int32.ofInt x0)] (zt_M T σ) (zx_I T o) := by
  intro x0 σ o  h
  unfold F_C_size_157 at h
  cases h
  exact zt_iret zy_122 (show q_ins q_k122 157 = some (.ireturn, 0, 0) from rfl)
theorem S_C_size_182 {X : q_X}   : ∀ (x0 : Int) (σ : zt_S) (o : ((Int ⊕ Nat) × zt_S)), F_C_size_182  x0 σ = some o → zt_Ex X 2 122 182 [] [.int (Int32.ofInt x0)] (zt_M T σ) (zx_I T o) := by
  intro x0 σ o  h
  unfold F_C_size_182 at h
  cases h
  exact zt_iret zy_122 (show q_ins q_k122 182 = some (.ireturn, 0, 0) from rfl)
theorem S_C_size {X : q_X}   {v1 : Int} {σ : zt_S} {o : ((Int ⊕ Nat) × zt_S)} (h : F_C_size  v1 σ = some o) : zt_Ex X 2 122 0 (lv_args 0 [.ref 0, .int (Int32.ofInt v1)]) [] (zt_M T σ) (zx_I T o) := by
  unfold F_C_size at h
  refine zt_iload_n zy_122 (show q_ins q_k122 0 = some (.iload_n 1, 0, 0) from rfl) (v := Int32.ofInt v1) rfl ?_
  obtain ⟨hg, h⟩ := zt_ckE h
  by_cases hc0 : v1 = (0 : Int)
  · rw [if_pos hc0] at h
    refine zt_sw zy_122 (show q_ins q_k122 1 = some (.tableswitch 217 0 13 #[71, 79, 87, 95, 103, 114, 125, 133, 141, 157, 182, 193, 201, 209], 0, 71) from rfl) hc0 (t := 72) (by decide) ?_
    refine zt_aload_n zy_122 (show q_ins q_k122 72 = some (.aload_n 0, 0, 0) from rfl) (v := 0) rfl ?_
    refine zt_getR zy_122 (show q_ins q_k122 73 = some (.getfield 25, 10, 3) from rfl) (r := 3) zk_0_3 ?_
    refine zt_getI zy_122 (show q_ins q_k122 76 = some (.getfield 145, 4, 0) from rfl) (j := 0) zk_3_0 rfl ?_
    cases h
    exact zt_iret zy_122 (show q_ins q_k122 79 = some (.ireturn, 0, 0) from rfl)
  rw [if_neg hc0] at h
  by_cases hc1 : v1 = (1 : Int)
  · rw [if_pos hc1] at h
    refine zt_sw zy_122 (show q_ins q_k122 1 = some (.tableswitch 217 0 13 #[71, 79, 87, 95, 103, 114, 125, 133, 141, 157, 182, 193, 201, 209], 0, 71) from rfl) hc1 (t := 80) (by decide) ?_
    refine zt_aload_n zy_122 (show q_ins q_k122 80 = some (.aload_n 0, 0, 0) from rfl) (v := 0) rfl ?_
    refine zt_getR zy_122 (show q_ins q_k122 81 = some (.getfield 25, 10, 3) from rfl) (r := 3) zk_0_3 ?_
    refine zt_getI zy_122 (show q_ins q_k122 84 = some (.getfield 148, 4, 1) from rfl) (j := 1) zk_3_1 rfl ?_
    cases h
    exact zt_iret zy_122 (show q_ins q_k122 87 = some (.ireturn, 0, 0) from rfl)
  rw [if_neg hc1] at h
  by_cases hc2 : v1 = (2 : Int)
  · rw [if_pos hc2] at h
    refine zt_sw zy_122 (show q_ins q_k122 1 = some (.tableswitch 217 0 13 #[71, 79, 87, 95, 103, 114, 125, 133, 141, 157, 182, 193, 201, 209], 0, 71) from rfl) hc2 (t := 88) (by decide) ?_
    refine zt_aload_n zy_122 (show q_ins q_k122 88 = some (.aload_n 0, 0, 0) from rfl) (v := 0) rfl ?_
    refine zt_getR zy_122 (show q_ins q_k122 89 = some (.getfield 25, 10, 3) from rfl) (r := 3) zk_0_3 ?_
    refine zt_getI zy_122 (show q_ins q_k122 92 = some (.getfield 151, 4, 2) from rfl) (j := 2) zk_3_2 rfl ?_
    cases h
    exact zt_iret zy_122 (show q_ins q_k122 95 = some (.ireturn, 0, 0) from rfl)
  rw [if_neg hc2] at h
  by_cases hc3 : v1 = (3 : Int)
  · rw [if_pos hc3] at h
    refine zt_sw zy_122 (show q_ins q_k122 1 = some (.tableswitch 217 0 13 #[71, 79, 87, 95, 103, 114, 125, 133, 141, 157, 182, 193, 201, 209], 0, 71) from rfl) hc3 (t := 96) (by decide) ?_
    refine zt_aload_n zy_122 (show q_ins q_k122 96 = some (.aload_n 0, 0, 0) from rfl) (v := 0) rfl ?_
    refine zt_getR zy_122 (show q_ins q_k122 97 = some (.getfield 41, 10, 5) from rfl) (r := 6) zk_0_5 ?_
    refine zt_getI zy_122 (show q_ins q_k122 100 = some (.getfield 154, 6, 11) from rfl) (j := 11) zk_6_11 rfl ?_
    cases h
    exact zt_iret zy_122 (show q_ins q_k122 103 = some (.ireturn, 0, 0) from rfl)
  rw [if_neg hc3] at h
  by_cases hc4 : v1 = (4 : Int)
  · rw [if_pos hc4] at h
    refine zt_sw zy_122 (show q_ins q_k122 1 = some (.tableswitch 217 0 13 #[71, 79, 87, 95, 103, 114, 125, 133, 141, 157, 182, 193, 201, 209], 0, 71) from rfl) hc4 (t := 104) (by decide) ?_
    refine zt_aload_n zy_122 (show q_ins q_k122 104 = some (.aload_n 0, 0, 0) from rfl) (v := 0) rfl ?_
    refine zt_getR zy_122 (show q_ins q_k122 105 = some (.getfield 41, 10, 5) from rfl) (r := 6) zk_0_5 ?_
    refine zt_getR zy_122 (show q_ins q_k122 108 = some (.getfield 157, 6, 1) from rfl) (r := 7) zk_6_1 ?_
    refine zt_getI zy_122 (show q_ins q_k122 111 = some (.getfield 161, 9, 7) from rfl) (j := 7) zk_7_7 rfl ?_
    cases h
    exact zt_iret zy_122 (show q_ins q_k122 114 = some (.ireturn, 0, 0) from rfl)
  rw [if_neg hc4] at h
  by_cases hc5 : v1 = (5 : Int)
  · rw [if_pos hc5] at h
    refine zt_sw zy_122 (show q_ins q_k122 1 = some (.tableswitch 217 0 13 #[71, 79, 87, 95, 103, 114, 125, 133, 141, 157, 182, 193, 201, 209], 0, 71) from rfl) hc5 (t := 115) (by decide) ?_
    refine zt_aload_n zy_122 (show q_ins q_k122 115 = some (.aload_n 0, 0, 0) from rfl) (v := 0) rfl ?_
    refine zt_getR zy_122 (show q_ins q_k122 116 = some (.getfield 41, 10, 5) from rfl) (r := 6) zk_0_5 ?_
    refine zt_getR zy_122 (show q_ins q_k122 119 = some (.getfield 157, 6, 1) from rfl) (r := 7) zk_6_1 ?_
    refine zt_getI zy_122 (show q_ins q_k122 122 = some (.getfield 166, 9, 8) from rfl) (j := 8) zk_7_8 rfl ?_
    cases h
    exact zt_iret zy_122 (show q_ins q_k122 125 = some (.ireturn, 0, 0) from rfl)
  rw [if_neg hc5] at h
  by_cases hc6 : v1 = (6 : Int)
  · rw [if_pos hc6] at h
    refine zt_sw zy_122 (show q_ins q_k122 1 = some (.tableswitch 217 0 13 #[71, 79, 87, 95, 103, 114, 125, 133, 141, 157, 182, 193, 201, 209], 0, 71) from rfl) hc6 (t := 126) (by decide) ?_
    refine zt_aload_n zy_122 (show q_ins q_k122 126 = some (.aload_n 0, 0, 0) from rfl) (v := 0) rfl ?_
    refine zt_getR zy_122 (show q_ins q_k122 127 = some (.getfield 25, 10, 3) from rfl) (r := 3) zk_0_3 ?_
    refine zt_getI zy_122 (show q_ins q_k122 130 = some (.getfield 169, 4, 3) from rfl) (j := 3) zk_3_3 rfl ?_
    cases h
    exact zt_iret zy_122 (show q_ins q_k122 133 = some (.ireturn, 0, 0) from rfl)
  rw [if_neg hc6] at h
  by_cases hc7 : v1 = (7 : Int)
  · rw [if_pos hc7] at h
    refine zt_sw zy_122 (show q_ins q_k122 1 = some (.tableswitch 217 0 13 #[71, 79, 87, 95, 103, 114, 125, 133, 141, 157, 182, 193, 201, 209], 0, 71) from rfl) hc7 (t := 134) (by decide) ?_
    refine zt_aload_n zy_122 (show q_ins q_k122 134 = some (.aload_n 0, 0, 0) from rfl) (v := 0) rfl ?_
    refine zt_getR zy_122 (show q_ins q_k122 135 = some (.getfield 41, 10, 5) from rfl) (r := 6) zk_0_5 ?_
    refine zt_getI zy_122 (show q_ins q_k122 138 = some (.getfield 172, 6, 12) from rfl) (j := 12) zk_6_12 rfl ?_
    cases h
    exact zt_iret zy_122 (show q_ins q_k122 141 = some (.ireturn, 0, 0) from rfl)
  rw [if_neg hc7] at h
  by_cases hc8 : v1 = (8 : Int)
  · rw [if_pos hc8] at h
    refine zt_sw zy_122 (show q_ins q_k122 1 = some (.tableswitch 217 0 13 #[71, 79, 87, 95, 103, 114, 125, 133, 141, 157, 182, 193, 201, 209], 0, 71) from rfl) hc8 (t := 142) (by decide) ?_
    refine zt_aload_n zy_122 (show q_ins q_k122 142 = some (.aload_n 0, 0, 0) from rfl) (v := 0) rfl ?_
    refine zt_getR zy_122 (show q_ins q_k122 143 = some (.getfield 41, 10, 5) from rfl) (r := 6) zk_0_5 ?_
    refine zt_getI zy_122 (show q_ins q_k122 146 = some (.getfield 175, 6, 13) from rfl) (j := 13) zk_6_13 rfl ?_
    obtain ⟨hg, h⟩ := zt_ckE h
    refine zt_if_eq zy_122 (show q_ins q_k122 149 = some (.ifCond .eq 7, 156, 0) from rfl) (hg) (fun hc => ?_) (fun hc => ?_)
    · rw [if_pos hc] at h
      refine zt_iconst zy_122 (show q_ins q_k122 156 = some (.iconst 0, 0, 0) from rfl) ?_
      exact zt_wk (zt_cov_nil) (S_C_size_157  _ _ _ h)
    · rw [if_neg hc] at h
      refine zt_iconst zy_122 (show q_ins q_k122 152 = some (.iconst 1, 0, 0) from rfl) ?_
      refine zt_goto zy_122 (show q_ins q_k122 153 = some (.goto 4, 157, 0) from rfl) ?_
      exact zt_wk (zt_cov_nil) (S_C_size_157  _ _ _ h)
  rw [if_neg hc8] at h
  by_cases hc9 : v1 = (9 : Int)
  · rw [if_pos hc9] at h
    refine zt_sw zy_122 (show q_ins q_k122 1 = some (.tableswitch 217 0 13 #[71, 79, 87, 95, 103, 114, 125, 133, 141, 157, 182, 193, 201, 209], 0, 71) from rfl) hc9 (t := 158) (by decide) ?_
    refine zt_aload_n zy_122 (show q_ins q_k122 158 = some (.aload_n 0, 0, 0) from rfl) (v := 0) rfl ?_
    refine zt_getR zy_122 (show q_ins q_k122 159 = some (.getfield 41, 10, 5) from rfl) (r := 6) zk_0_5 ?_
    obtain ⟨a1, s2, hca1, h⟩ := zt_bdE h
    refine zt_callV (d := 1) zy_122 (show q_ins q_k122 162 = some (.invokevirtual 178, 64, 0) from rfl) zy_64 (by decide) ⟨zq_lt (by decide), by decide⟩ rfl (by simp [Value.category]) (by simp [lg_sl, Value.category]) (zt_rcv zc_6) (zt_dm (by decide) (S_Tb_isOver (by decide) hca1)) ?_
    obtain ⟨hg, h⟩ := zt_ckE h
    refine zt_if_eq zy_122 (show q_ins q_k122 165 = some (.ifCond .eq 7, 172, 0) from rfl) (hg) (fun hc => ?_) (fun hc => ?_)
    · rw [if_pos hc] at h
      refine zt_aload_n zy_122 (show q_ins q_k122 172 = some (.aload_n 0, 0, 0) from rfl) (v := 0) rfl ?_
      refine zt_getR zy_122 (show q_ins q_k122 173 = some (.getfield 41, 10, 5) from rfl) (r := 6) zk_0_5 ?_
      refine zt_getR zy_122 (show q_ins q_k122 176 = some (.getfield 157, 6, 1) from rfl) (r := 7) zk_6_1 ?_
      refine zt_getI zy_122 (show q_ins q_k122 179 = some (.getfield 182, 9, 1) from rfl) (j := 1) zk_7_1 rfl ?_
      exact zt_wk (zt_cov_nil) (S_C_size_182  _ _ _ h)
    · rw [if_neg hc] at h
      refine zt_iconst zy_122 (show q_ins q_k122 168 = some (.iconst (-1), 0, 0) from rfl) ?_
      refine zt_goto zy_122 (show q_ins q_k122 169 = some (.goto 13, 182, 0) from rfl) ?_
      exact zt_wk (zt_cov_nil) (S_C_size_182  _ _ _ h)
  rw [if_neg hc9] at h
  by_cases hc10 : v1 = (10 : Int)
  · rw [if_pos hc10] at h
    refine zt_sw zy_122 (show q_ins q_k122 1 = some (.tableswitch 217 0 13 #[71, 79, 87, 95, 103, 114, 125, 133, 141, 157, 182, 193, 201, 209], 0, 71) from rfl) hc10 (t := 183) (by decide) ?_
    refine zt_aload_n zy_122 (show q_ins q_k122 183 = some (.aload_n 0, 0, 0) from rfl) (v := 0) rfl ?_
    refine zt_getR zy_122 (show q_ins q_k122 184 = some (.getfield 41, 10, 5) from rfl) (r := 6) zk_0_5 ?_
    refine zt_getR zy_122 (show q_ins q_k122 187 = some (.getfield 157, 6, 1) from rfl) (r := 7) zk_6_1 ?_
    refine zt_getI zy_122 (show q_ins q_k122 190 = some (.getfield 185, 9, 0) from rfl) (j := 0) zk_7_0 rfl ?_
    cases h
    exact zt_iret zy_122 (show q_ins q_k122 193 = some (.ireturn, 0, 0) from rfl)
  rw [if_neg hc10] at h
  by_cases hc11 : v1 = (11 : Int)
  · rw [if_pos hc11] at h
    refine zt_sw zy_122 (show q_ins q_k122 1 = some (.tableswitch 217 0 13 #[71, 79, 87, 95, 103, 114, 125, 133, 141, 157, 182, 193, 201, 209], 0, 71) from rfl) hc11 (t := 194) (by decide) ?_
    refine zt_aload_n zy_122 (show q_ins q_k122 194 = some (.aload_n 0, 0, 0) from rfl) (v := 0) rfl ?_
    refine zt_getR zy_122 (show q_ins q_k122 195 = some (.getfield 41, 10, 5) from rfl) (r := 6) zk_0_5 ?_
    refine zt_getI zy_122 (show q_ins q_k122 198 = some (.getfield 188, 6, 17) from rfl) (j := 17) zk_6_17 rfl ?_
    cases h
    exact zt_iret zy_122 (show q_ins q_k122 201 = some (.ireturn, 0, 0) from rfl)
  rw [if_neg hc11] at h
  by_cases hc12 : v1 = (12 : Int)
  · rw [if_pos hc12] at h
    refine zt_sw zy_122 (show q_ins q_k122 1 = some (.tableswitch 217 0 13 #[71, 79, 87, 95, 103, 114, 125, 133, 141, 157, 182, 193, 201, 209], 0, 71) from rfl) hc12 (t := 202) (by decide) ?_
    refine zt_aload_n zy_122 (show q_ins q_k122 202 = some (.aload_n 0, 0, 0) from rfl) (v := 0) rfl ?_
    refine zt_getR zy_122 (show q_ins q_k122 203 = some (.getfield 41, 10, 5) from rfl) (r := 6) zk_0_5 ?_
    refine zt_getI zy_122 (show q_ins q_k122 206 = some (.getfield 191, 6, 16) from rfl) (j := 16) zk_6_16 rfl ?_
    cases h
    exact zt_iret zy_122 (show q_ins q_k122 209 = some (.ireturn, 0, 0) from rfl)
  rw [if_neg hc12] at h
  by_cases hc13 : v1 = (13 : Int)
  · rw [if_pos hc13] at h
    refine zt_sw zy_122 (show q_ins q_k122 1 = some (.tableswitch 217 0 13 #[71, 79, 87, 95, 103, 114, 125, 133, 141, 157, 182, 193, 201, 209], 0, 71) from rfl) hc13 (t := 210) (by decide) ?_
    refine zt_aload_n zy_122 (show q_ins q_k122 210 = some (.aload_n 0, 0, 0) from rfl) (v := 0) rfl ?_
    refine zt_getR zy_122 (show q_ins q_k122 211 = some (.getfield 41, 10, 5) from rfl) (r := 6) zk_0_5 ?_
    refine zt_getI zy_122 (show q_ins q_k122 214 = some (.getfield 194, 6, 18) from rfl) (j := 18) zk_6_18 rfl ?_
    cases h
    exact zt_iret zy_122 (show q_ins q_k122 217 = some (.ireturn, 0, 0) from rfl)
  rw [if_neg hc13] at h
  refine zt_sw0 zy_122 (show q_ins q_k122 1 = some (.tableswitch 217 0 13 #[71, 79, 87, 95, 103, 114, 125, 133, 141, 157, 182, 193, 201, 209], 0, 71) from rfl) (hg) (by omega) (t := 218) (by decide) ?_
  cases h
  exact zt_new (E := 0) zy_122 (show q_ins q_k122 218 = some (.new 197, 1000, 199) from rfl) rfl (by decide) (by show _ ≤ _; simp [Value.category])
end TT
