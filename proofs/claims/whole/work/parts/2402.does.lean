/-! the mini-machine does what the functions say (by program) -/
theorem S_QR_compares_16 {X : q_X}   : ∀ (x0 : Int) (σ : zt_S) (o : (Int × zt_S)), F_QR_compares_16  x0 σ = some o → zt_Ex X 0 26 16 [] [.int (Int32.ofInt x0)] (zt_M σ) (zo_I o) := by
  intro x0 σ o  h
  unfold F_QR_compares_16 at h
  obtain ⟨hg, h⟩ := zt_ckE h
  cases h
  exact zt_zret zy_26 (show q_ins q_k26 16 = some (.ireturn, 0, 0) from rfl) hg
theorem S_QR_compares_46 {X : q_X}   : ∀ (x0 : Int) (σ : zt_S) (o : (Int × zt_S)), F_QR_compares_46  x0 σ = some o → zt_Ex X 0 26 46 [] [.int (Int32.ofInt x0)] (zt_M σ) (zo_I o) := by
  intro x0 σ o  h
  unfold F_QR_compares_46 at h
  obtain ⟨hg, h⟩ := zt_ckE h
  cases h
  exact zt_zret zy_26 (show q_ins q_k26 46 = some (.ireturn, 0, 0) from rfl) hg
theorem S_QR_compares {X : q_X}   {v0 : Int} {v1 : Int} {v2 : Int} {σ : zt_S} {o : (Int × zt_S)} (h : F_QR_compares  v0 v1 v2 σ = some o) : zt_Ex X 0 26 0 (lv_args 0 [.int (Int32.ofInt v0), .int (Int32.ofInt v1), .int (Int32.ofInt v2)]) [] (zt_M σ) (zo_I o) := by
  unfold F_QR_compares at h
  refine zt_iload_n zy_26 (show q_ins q_k26 0 = some (.iload_n 0, 0, 0) from rfl) (v := Int32.ofInt v0) rfl ?_
  refine zt_bipush zy_26 (show q_ins q_k26 1 = some (.bipush 60, 0, 0) from rfl) (by decide) ?_
  obtain ⟨hg, h⟩ := zt_ckE h
  refine zt_icmp_ne zy_26 (show q_ins q_k26 3 = some (.if_icmp .ne 14, 17, 0) from rfl) (⟨hg, by decide⟩) (fun hc => ?_) (fun hc => ?_)
  · rw [if_pos hc] at h
    refine zt_iload_n zy_26 (show q_ins q_k26 6 = some (.iload_n 1, 0, 0) from rfl) (v := Int32.ofInt v1) rfl ?_
    refine zt_iload_n zy_26 (show q_ins q_k26 7 = some (.iload_n 2, 0, 0) from rfl) (v := Int32.ofInt v2) rfl ?_
    obtain ⟨hg, h⟩ := zt_ckE h
    refine zt_icmp_ge zy_26 (show q_ins q_k26 8 = some (.if_icmp .ge 7, 15, 0) from rfl) (⟨hg.1, hg.2⟩) (fun hc => ?_) (fun hc => ?_)
    · rw [if_pos hc] at h
      refine zt_iconst zy_26 (show q_ins q_k26 11 = some (.iconst 1, 0, 0) from rfl) ?_
      refine zt_goto zy_26 (show q_ins q_k26 12 = some (.goto 4, 16, 0) from rfl) ?_
      exact zt_wk (zt_cov_nil) (S_QR_compares_16  _ _ _ h)
    · rw [if_neg hc] at h
      refine zt_iconst zy_26 (show q_ins q_k26 15 = some (.iconst 0, 0, 0) from rfl) ?_
      exact zt_wk (zt_cov_nil) (S_QR_compares_16  _ _ _ h)
  · rw [if_neg hc] at h
    refine zt_iload_n zy_26 (show q_ins q_k26 17 = some (.iload_n 0, 0, 0) from rfl) (v := Int32.ofInt v0) rfl ?_
    refine zt_bipush zy_26 (show q_ins q_k26 18 = some (.bipush 62, 0, 0) from rfl) (by decide) ?_
    obtain ⟨hg, h⟩ := zt_ckE h
    refine zt_icmp_ne zy_26 (show q_ins q_k26 20 = some (.if_icmp .ne 16, 36, 0) from rfl) (⟨hg, by decide⟩) (fun hc => ?_) (fun hc => ?_)
    · rw [if_pos hc] at h
      refine zt_iload_n zy_26 (show q_ins q_k26 23 = some (.iload_n 1, 0, 0) from rfl) (v := Int32.ofInt v1) rfl ?_
      refine zt_iload_n zy_26 (show q_ins q_k26 24 = some (.iload_n 2, 0, 0) from rfl) (v := Int32.ofInt v2) rfl ?_
      obtain ⟨hg, h⟩ := zt_ckE h
      refine zt_icmp_le zy_26 (show q_ins q_k26 25 = some (.if_icmp .le 7, 32, 0) from rfl) (⟨hg.1, hg.2⟩) (fun hc => ?_) (fun hc => ?_)
      · rw [if_pos hc] at h
        refine zt_iconst zy_26 (show q_ins q_k26 28 = some (.iconst 1, 0, 0) from rfl) ?_
        refine zt_goto zy_26 (show q_ins q_k26 29 = some (.goto 17, 46, 0) from rfl) ?_
        exact zt_wk (zt_cov_nil) (S_QR_compares_46  _ _ _ h)
      · rw [if_neg hc] at h
        refine zt_iconst zy_26 (show q_ins q_k26 32 = some (.iconst 0, 0, 0) from rfl) ?_
        refine zt_goto zy_26 (show q_ins q_k26 33 = some (.goto 13, 46, 0) from rfl) ?_
        exact zt_wk (zt_cov_nil) (S_QR_compares_46  _ _ _ h)
    · rw [if_neg hc] at h
      refine zt_iload_n zy_26 (show q_ins q_k26 36 = some (.iload_n 1, 0, 0) from rfl) (v := Int32.ofInt v1) rfl ?_
      refine zt_iload_n zy_26 (show q_ins q_k26 37 = some (.iload_n 2, 0, 0) from rfl) (v := Int32.ofInt v2) rfl ?_
      obtain ⟨hg, h⟩ := zt_ckE h
      refine zt_icmp_ne zy_26 (show q_ins q_k26 38 = some (.if_icmp .ne 7, 45, 0) from rfl) (⟨hg.1, hg.2⟩) (fun hc => ?_) (fun hc => ?_)
      · rw [if_pos hc] at h
        refine zt_iconst zy_26 (show q_ins q_k26 41 = some (.iconst 1, 0, 0) from rfl) ?_
        refine zt_goto zy_26 (show q_ins q_k26 42 = some (.goto 4, 46, 0) from rfl) ?_
        exact zt_wk (zt_cov_nil) (S_QR_compares_46  _ _ _ h)
      · rw [if_neg hc] at h
        refine zt_iconst zy_26 (show q_ins q_k26 45 = some (.iconst 0, 0, 0) from rfl) ?_
        exact zt_wk (zt_cov_nil) (S_QR_compares_46  _ _ _ h)
theorem S_QR_holds_142 {X : q_X} {t1 : Nat} (ht1 : t1 ∈ zt_tabs) {r6 : Int → Int64 → Int → Int → zt_S → Option (Int × zt_S)} (hr6 : ∀ (v2 : Int) (v3 : Int64) (v5 : Int) (v6 : Int) (σ : zt_S) (o : (Int × zt_S)), r6 v2 v3 v5 v6 σ = some o → zt_Ex X 3 25 6 [(0, .ref 140), (1, .ref t1), (2, .int (Int32.ofInt v2)), (3, .long v3), (5, .int (Int32.ofInt v5)), (6, .int (Int32.ofInt v6))] [] (zt_M σ) (zo_I o)) : ∀ (v2 : Int) (v3 : Int64) (v5 : Int) (v6 : Int) (σ : zt_S) (o : (Int × zt_S)), F_QR_holds_142 t1 r6 v2 v3 v5 v6 σ = some o → zt_Ex X 3 25 142 [(0, .ref 140), (1, .ref t1), (2, .int (Int32.ofInt v2)), (3, .long v3), (5, .int (Int32.ofInt v5)), (6, .int (Int32.ofInt v6))] [] (zt_M σ) (zo_I o) := by
  intro v2 v3 v5 v6 σ o  h
  unfold F_QR_holds_142 at h
  refine zt_iinc zy_25 (show q_ins q_k25 142 = some (.iinc 6 1, 0, 0) from rfl) (v := v6) (by decide) rfl ?_
  refine zt_goto zy_25 (show q_ins q_k25 145 = some (.goto (-139), 6, 0) from rfl) ?_
  exact zt_wk (zt_cov_cons rfl (zt_cov_cons rfl (zt_cov_cons rfl (zt_cov_cons rfl (zt_cov_cons rfl (zt_cov_cons rfl (zt_cov_nil))))))) (hr6 _ _ _ _ _ _ h)
theorem S_QR_holds_139 {X : q_X} {t1 : Nat} (ht1 : t1 ∈ zt_tabs) {r6 : Int → Int64 → Int → Int → zt_S → Option (Int × zt_S)} (hr6 : ∀ (v2 : Int) (v3 : Int64) (v5 : Int) (v6 : Int) (σ : zt_S) (o : (Int × zt_S)), r6 v2 v3 v5 v6 σ = some o → zt_Ex X 3 25 6 [(0, .ref 140), (1, .ref t1), (2, .int (Int32.ofInt v2)), (3, .long v3), (5, .int (Int32.ofInt v5)), (6, .int (Int32.ofInt v6))] [] (zt_M σ) (zo_I o)) : ∀ (v2 : Int) (v3 : Int64) (v6 : Int) (x0 : Int) (x1 : Int) (σ : zt_S) (o : (Int × zt_S)), F_QR_holds_139 t1 r6 v2 v3 v6 x0 x1 σ = some o → zt_Ex X 3 25 139 [(0, .ref 140), (1, .ref t1), (2, .int (Int32.ofInt v2)), (3, .long v3), (6, .int (Int32.ofInt v6))] [.int (Int32.ofInt x0), .int (Int32.ofInt x1)] (zt_M σ) (zo_I o) := by
  intro v2 v3 v6 x0 x1 σ o  h
  unfold F_QR_holds_139 at h
  refine zt_ior zy_25 (show q_ins q_k25 139 = some (.ior, 0, 0) from rfl) ?_
  refine zt_istore zy_25 (show q_ins q_k25 140 = some (.istore 5, 0, 0) from rfl) (by decide) ?_
  exact zt_wk (zt_cov_cons rfl (zt_cov_cons rfl (zt_cov_cons rfl (zt_cov_cons rfl (zt_cov_cons rfl (zt_cov_cons rfl (zt_cov_nil))))))) (S_QR_holds_142  ht1 hr6 _ _ _ _ _ _ h)
theorem S_QR_holds_160 {X : q_X} {t1 : Nat} (ht1 : t1 ∈ zt_tabs) : ∀ (x0 : Int) (σ : zt_S) (o : (Int × zt_S)), F_QR_holds_160 t1 x0 σ = some o → zt_Ex X 3 25 160 [] [.int (Int32.ofInt x0)] (zt_M σ) (zo_I o) := by
  intro x0 σ o  h
  unfold F_QR_holds_160 at h
  obtain ⟨hg, h⟩ := zt_ckE h
  cases h
  exact zt_zret zy_25 (show q_ins q_k25 160 = some (.ireturn, 0, 0) from rfl) hg
theorem S_QR_holds_148 {X : q_X} {t1 : Nat} (ht1 : t1 ∈ zt_tabs) : ∀ (v5 : Int) (σ : zt_S) (o : (Int × zt_S)), F_QR_holds_148 t1 v5 σ = some o → zt_Ex X 3 25 148 [(5, .int (Int32.ofInt v5))] [] (zt_M σ) (zo_I o) := by
  intro v5 σ o  h
  unfold F_QR_holds_148 at h
  refine zt_iload zy_25 (show q_ins q_k25 148 = some (.iload 5, 0, 0) from rfl) (v := Int32.ofInt v5) rfl ?_
  refine zt_iconst zy_25 (show q_ins q_k25 150 = some (.iconst 1, 0, 0) from rfl) ?_
  refine zt_iand zy_25 (show q_ins q_k25 151 = some (.iand, 0, 0) from rfl) ?_
  refine zt_if_eq zy_25 (show q_ins q_k25 152 = some (.ifCond .eq 7, 159, 0) from rfl) (zt_inT _) (fun hc => ?_) (fun hc => ?_)
  · rw [if_pos hc] at h
    refine zt_iconst zy_25 (show q_ins q_k25 159 = some (.iconst 0, 0, 0) from rfl) ?_
    exact zt_wk (zt_cov_nil) (S_QR_holds_160  ht1 _ _ _ h)
  · rw [if_neg hc] at h
    refine zt_iconst zy_25 (show q_ins q_k25 155 = some (.iconst 1, 0, 0) from rfl) ?_
    refine zt_goto zy_25 (show q_ins q_k25 156 = some (.goto 4, 160, 0) from rfl) ?_
    exact zt_wk (zt_cov_nil) (S_QR_holds_160  ht1 _ _ _ h)
theorem S_QR_holds_6 {X : q_X} {t1 : Nat} (ht1 : t1 ∈ zt_tabs) : ∀ (n : Nat) (v2 : Int) (v3 : Int64) (v5 : Int) (v6 : Int) (σ : zt_S) (o : (Int × zt_S)), F_QR_holds_6 t1 n v2 v3 v5 v6 σ = some o → zt_Ex X 3 25 6 [(0, .ref 140), (1, .ref t1), (2, .int (Int32.ofInt v2)), (3, .long v3), (5, .int (Int32.ofInt v5)), (6, .int (Int32.ofInt v6))] [] (zt_M σ) (zo_I o) := by
  intro n
  induction n with
  | zero => intro v2 v3 v5 v6 σ o  h; cases h
  | succ n ih =>
  intro v2 v3 v5 v6 σ o  h
  rw [F_QR_holds_6] at h
  refine zt_iload zy_25 (show q_ins q_k25 6 = some (.iload 6, 0, 0) from rfl) (v := Int32.ofInt v6) rfl ?_
  refine zt_aload_n zy_25 (show q_ins q_k25 8 = some (.aload_n 0, 0, 0) from rfl) (v := 140) rfl ?_
  refine zt_getI zy_25 (show q_ins q_k25 9 = some (.getfield 25, 3, 4) from rfl) (j := 4) zk_140_4 rfl ?_
  obtain ⟨hg, h⟩ := zt_ckE h
  refine zt_icmp_ge zy_25 (show q_ins q_k25 12 = some (.if_icmp .ge 136, 148, 0) from rfl) (⟨hg.1, hg.2⟩) (fun hc => ?_) (fun hc => ?_)
  · rw [if_pos hc] at h
    refine zt_aload_n zy_25 (show q_ins q_k25 15 = some (.aload_n 0, 0, 0) from rfl) (v := 140) rfl ?_
    refine zt_getR zy_25 (show q_ins q_k25 16 = some (.getfield 9, 3, 1) from rfl) (r := 141) zk_140_1 ?_
    refine zt_iload zy_25 (show q_ins q_k25 19 = some (.iload 6, 0, 0) from rfl) (v := Int32.ofInt v6) rfl ?_
    obtain ⟨a1, s2, hca1, h⟩ := zt_bdE h
    refine zt_callS (d := 2) zy_25 (show q_ins q_k25 21 = some (.invokestatic 157, 309, 2) from rfl) zy_309 (by decide) ⟨zq_lt (by decide), by decide⟩ rfl (by simp [Value.category]) (by simp [lg_sl, Value.category]) rfl (zt_dm (by decide) (S_Rw_at za_141 (by decide) hca1)) ?_
    refine zt_istore zy_25 (show q_ins q_k25 24 = some (.istore 7, 0, 0) from rfl) (by decide) ?_
    refine zt_iload zy_25 (show q_ins q_k25 26 = some (.iload 5, 0, 0) from rfl) (v := Int32.ofInt v5) rfl ?_
    refine zt_iconst zy_25 (show q_ins q_k25 28 = some (.iconst 1, 0, 0) from rfl) ?_
    refine zt_ishr zy_25 (show q_ins q_k25 29 = some (.ishr, 0, 0) from rfl) ?_
    refine zt_istore zy_25 (show q_ins q_k25 30 = some (.istore 8, 0, 0) from rfl) (by decide) ?_
    refine zt_iload zy_25 (show q_ins q_k25 32 = some (.iload 7, 0, 0) from rfl) (v := Int32.ofInt a1) rfl ?_
    refine zt_iconst zy_25 (show q_ins q_k25 34 = some (.iconst 1, 0, 0) from rfl) ?_
    obtain ⟨hg, h⟩ := zt_ckE h
    refine zt_icmp_ne zy_25 (show q_ins q_k25 35 = some (.if_icmp .ne 12, 47, 0) from rfl) (⟨hg, by decide⟩) (fun hc => ?_) (fun hc => ?_)
    · rw [if_pos hc] at h
      refine zt_iload zy_25 (show q_ins q_k25 38 = some (.iload 5, 0, 0) from rfl) (v := Int32.ofInt v5) rfl ?_
      refine zt_iconst zy_25 (show q_ins q_k25 40 = some (.iconst 1, 0, 0) from rfl) ?_
      refine zt_ixor zy_25 (show q_ins q_k25 41 = some (.ixor, 0, 0) from rfl) ?_
      refine zt_istore zy_25 (show q_ins q_k25 42 = some (.istore 5, 0, 0) from rfl) (by decide) ?_
      refine zt_goto zy_25 (show q_ins q_k25 44 = some (.goto 98, 142, 0) from rfl) ?_
      exact zt_wk (zt_cov_cons rfl (zt_cov_cons rfl (zt_cov_cons rfl (zt_cov_cons rfl (zt_cov_cons rfl (zt_cov_cons rfl (zt_cov_nil))))))) (S_QR_holds_142  ht1 ih _ _ _ _ _ _ h)
    · rw [if_neg hc] at h
      refine zt_iload zy_25 (show q_ins q_k25 47 = some (.iload 7, 0, 0) from rfl) (v := Int32.ofInt a1) rfl ?_
      refine zt_iconst zy_25 (show q_ins q_k25 49 = some (.iconst 2, 0, 0) from rfl) ?_
      obtain ⟨hg, h⟩ := zt_ckE h
      refine zt_icmp_ne zy_25 (show q_ins q_k25 50 = some (.if_icmp .ne 16, 66, 0) from rfl) (⟨hg, by decide⟩) (fun hc => ?_) (fun hc => ?_)
      · rw [if_pos hc] at h
        refine zt_iload zy_25 (show q_ins q_k25 53 = some (.iload 8, 0, 0) from rfl) (v := Int32.ofInt (zt_shr v5 (1 : Int))) rfl ?_
        refine zt_iload zy_25 (show q_ins q_k25 55 = some (.iload 5, 0, 0) from rfl) (v := Int32.ofInt v5) rfl ?_
        refine zt_bipush zy_25 (show q_ins q_k25 57 = some (.bipush (-2), 0, 0) from rfl) (by decide) ?_
        refine zt_ior zy_25 (show q_ins q_k25 59 = some (.ior, 0, 0) from rfl) ?_
        refine zt_iand zy_25 (show q_ins q_k25 60 = some (.iand, 0, 0) from rfl) ?_
        refine zt_istore zy_25 (show q_ins q_k25 61 = some (.istore 5, 0, 0) from rfl) (by decide) ?_
        refine zt_goto zy_25 (show q_ins q_k25 63 = some (.goto 79, 142, 0) from rfl) ?_
        exact zt_wk (zt_cov_cons rfl (zt_cov_cons rfl (zt_cov_cons rfl (zt_cov_cons rfl (zt_cov_cons rfl (zt_cov_cons rfl (zt_cov_nil))))))) (S_QR_holds_142  ht1 ih _ _ _ _ _ _ h)
      · rw [if_neg hc] at h
        refine zt_iload zy_25 (show q_ins q_k25 66 = some (.iload 7, 0, 0) from rfl) (v := Int32.ofInt a1) rfl ?_
        refine zt_iconst zy_25 (show q_ins q_k25 68 = some (.iconst 3, 0, 0) from rfl) ?_
        obtain ⟨hg, h⟩ := zt_ckE h
        refine zt_icmp_ne zy_25 (show q_ins q_k25 69 = some (.if_icmp .ne 15, 84, 0) from rfl) (⟨hg, by decide⟩) (fun hc => ?_) (fun hc => ?_)
        · rw [if_pos hc] at h
          refine zt_iload zy_25 (show q_ins q_k25 72 = some (.iload 8, 0, 0) from rfl) (v := Int32.ofInt (zt_shr v5 (1 : Int))) rfl ?_
          refine zt_iload zy_25 (show q_ins q_k25 74 = some (.iload 5, 0, 0) from rfl) (v := Int32.ofInt v5) rfl ?_
          refine zt_iconst zy_25 (show q_ins q_k25 76 = some (.iconst 1, 0, 0) from rfl) ?_
          refine zt_iand zy_25 (show q_ins q_k25 77 = some (.iand, 0, 0) from rfl) ?_
          refine zt_ior zy_25 (show q_ins q_k25 78 = some (.ior, 0, 0) from rfl) ?_
          refine zt_istore zy_25 (show q_ins q_k25 79 = some (.istore 5, 0, 0) from rfl) (by decide) ?_
          refine zt_goto zy_25 (show q_ins q_k25 81 = some (.goto 61, 142, 0) from rfl) ?_
          exact zt_wk (zt_cov_cons rfl (zt_cov_cons rfl (zt_cov_cons rfl (zt_cov_cons rfl (zt_cov_cons rfl (zt_cov_cons rfl (zt_cov_nil))))))) (S_QR_holds_142  ht1 ih _ _ _ _ _ _ h)
        · rw [if_neg hc] at h
          refine zt_aload_n zy_25 (show q_ins q_k25 84 = some (.aload_n 1, 0, 0) from rfl) (v := t1) rfl ?_
          refine zt_iload_n zy_25 (show q_ins q_k25 85 = some (.iload_n 2, 0, 0) from rfl) (v := Int32.ofInt v2) rfl ?_
          refine zt_lload_n zy_25 (show q_ins q_k25 86 = some (.lload_n 3, 0, 0) from rfl) (v := v3) rfl ?_
          refine zt_aload_n zy_25 (show q_ins q_k25 87 = some (.aload_n 0, 0, 0) from rfl) (v := 140) rfl ?_
          refine zt_getR zy_25 (show q_ins q_k25 88 = some (.getfield 15, 3, 2) from rfl) (r := 142) zk_140_2 ?_
          refine zt_iload zy_25 (show q_ins q_k25 91 = some (.iload 6, 0, 0) from rfl) (v := Int32.ofInt v6) rfl ?_
          obtain ⟨a3, s4, hca3, h⟩ := zt_bdE h
          refine zt_callS (d := 2) zy_25 (show q_ins q_k25 93 = some (.invokestatic 157, 309, 2) from rfl) zy_309 (by decide) ⟨zq_lt (by decide), by decide⟩ rfl (by simp [Value.category]) (by simp [lg_sl, Value.category]) rfl (zt_dm (by decide) (S_Rw_at za_142 (by decide) hca3)) ?_
          obtain ⟨a5, s6, hca5, h⟩ := zt_bdE h
          refine zt_callS (d := 2) zy_25 (show q_ins q_k25 96 = some (.invokestatic 161, 27, 4) from rfl) zy_27 (by decide) ⟨zq_lt (by decide), by decide⟩ rfl (by simp [Value.category]) (by simp [lg_sl, Value.category]) rfl (zt_dm (by decide) (S_QR_valueOf ht1 hca5)) ?_
          refine zt_istore zy_25 (show q_ins q_k25 99 = some (.istore 9, 0, 0) from rfl) (by decide) ?_
          refine zt_aload_n zy_25 (show q_ins q_k25 101 = some (.aload_n 1, 0, 0) from rfl) (v := t1) rfl ?_
          refine zt_iload_n zy_25 (show q_ins q_k25 102 = some (.iload_n 2, 0, 0) from rfl) (v := Int32.ofInt v2) rfl ?_
          refine zt_lload_n zy_25 (show q_ins q_k25 103 = some (.lload_n 3, 0, 0) from rfl) (v := v3) rfl ?_
          refine zt_aload_n zy_25 (show q_ins q_k25 104 = some (.aload_n 0, 0, 0) from rfl) (v := 140) rfl ?_
          refine zt_getR zy_25 (show q_ins q_k25 105 = some (.getfield 18, 3, 3) from rfl) (r := 143) zk_140_3 ?_
          refine zt_iload zy_25 (show q_ins q_k25 108 = some (.iload 6, 0, 0) from rfl) (v := Int32.ofInt v6) rfl ?_
          obtain ⟨a7, s8, hca7, h⟩ := zt_bdE h
          refine zt_callS (d := 2) zy_25 (show q_ins q_k25 110 = some (.invokestatic 157, 309, 2) from rfl) zy_309 (by decide) ⟨zq_lt (by decide), by decide⟩ rfl (by simp [Value.category]) (by simp [lg_sl, Value.category]) rfl (zt_dm (by decide) (S_Rw_at za_143 (by decide) hca7)) ?_
          obtain ⟨a9, s10, hca9, h⟩ := zt_bdE h
          refine zt_callS (d := 2) zy_25 (show q_ins q_k25 113 = some (.invokestatic 161, 27, 4) from rfl) zy_27 (by decide) ⟨zq_lt (by decide), by decide⟩ rfl (by simp [Value.category]) (by simp [lg_sl, Value.category]) rfl (zt_dm (by decide) (S_QR_valueOf ht1 hca9)) ?_
          refine zt_istore zy_25 (show q_ins q_k25 116 = some (.istore 10, 0, 0) from rfl) (by decide) ?_
          refine zt_iload zy_25 (show q_ins q_k25 118 = some (.iload 5, 0, 0) from rfl) (v := Int32.ofInt v5) rfl ?_
          refine zt_iconst zy_25 (show q_ins q_k25 120 = some (.iconst 1, 0, 0) from rfl) ?_
          refine zt_ishl zy_25 (show q_ins q_k25 121 = some (.ishl, 0, 0) from rfl) ?_
          refine zt_iload zy_25 (show q_ins q_k25 122 = some (.iload 7, 0, 0) from rfl) (v := Int32.ofInt a1) rfl ?_
          refine zt_iload zy_25 (show q_ins q_k25 124 = some (.iload 9, 0, 0) from rfl) (v := Int32.ofInt a5) rfl ?_
          refine zt_iload zy_25 (show q_ins q_k25 126 = some (.iload 10, 0, 0) from rfl) (v := Int32.ofInt a9) rfl ?_
          obtain ⟨a11, s12, hca11, h⟩ := zt_bdE h
          refine zt_callS (d := 2) zy_25 (show q_ins q_k25 128 = some (.invokestatic 165, 26, 3) from rfl) zy_26 (by decide) ⟨zq_lt (by decide), by decide⟩ rfl (by simp [Value.category]) (by simp [lg_sl, Value.category]) rfl (zt_dm (by decide) (S_QR_compares hca11)) ?_
          obtain ⟨hg, h⟩ := zt_ckE h
          refine zt_if_eq zy_25 (show q_ins q_k25 131 = some (.ifCond .eq 7, 138, 0) from rfl) (hg) (fun hc => ?_) (fun hc => ?_)
          · rw [if_pos hc] at h
            refine zt_iconst zy_25 (show q_ins q_k25 138 = some (.iconst 0, 0, 0) from rfl) ?_
            exact zt_wk (zt_cov_cons rfl (zt_cov_cons rfl (zt_cov_cons rfl (zt_cov_cons rfl (zt_cov_cons rfl (zt_cov_nil)))))) (S_QR_holds_139  ht1 ih _ _ _ _ _ _ _ h)
          · rw [if_neg hc] at h
            refine zt_iconst zy_25 (show q_ins q_k25 134 = some (.iconst 1, 0, 0) from rfl) ?_
            refine zt_goto zy_25 (show q_ins q_k25 135 = some (.goto 4, 139, 0) from rfl) ?_
            exact zt_wk (zt_cov_cons rfl (zt_cov_cons rfl (zt_cov_cons rfl (zt_cov_cons rfl (zt_cov_cons rfl (zt_cov_nil)))))) (S_QR_holds_139  ht1 ih _ _ _ _ _ _ _ h)
  · rw [if_neg hc] at h
    exact zt_wk (zt_cov_cons rfl (zt_cov_nil)) (S_QR_holds_148  ht1 _ _ _ h)
theorem S_QR_holds {X : q_X} {t1 : Nat} (ht1 : t1 ∈ zt_tabs) {v2 : Int} {v3 : Int64} {σ : zt_S} {o : (Int × zt_S)} (h : F_QR_holds t1 v2 v3 σ = some o) : zt_Ex X 3 25 0 (lv_args 0 [.ref 140, .ref t1, .int (Int32.ofInt v2), .long v3]) [] (zt_M σ) (zo_I o) := by
  unfold F_QR_holds at h
  refine zt_iconst zy_25 (show q_ins q_k25 0 = some (.iconst 0, 0, 0) from rfl) ?_
  refine zt_istore zy_25 (show q_ins q_k25 1 = some (.istore 5, 0, 0) from rfl) (by decide) ?_
  refine zt_iconst zy_25 (show q_ins q_k25 3 = some (.iconst 0, 0, 0) from rfl) ?_
  refine zt_istore zy_25 (show q_ins q_k25 4 = some (.istore 6, 0, 0) from rfl) (by decide) ?_
  exact zt_wk (zt_cov_cons rfl (zt_cov_cons rfl (zt_cov_cons rfl (zt_cov_cons rfl (zt_cov_cons rfl (zt_cov_cons rfl (zt_cov_nil))))))) (S_QR_holds_6  ht1 _ _ _ _ _ _ _ h)
theorem S_QR_answer_47 {X : q_X} {t1 : Nat} (ht1 : t1 ∈ zt_tabs) {r11 : Int64 → Int → Int → zt_S → Option (Int × zt_S)} (hr11 : ∀ (v2 : Int64) (v4 : Int) (v5 : Int) (σ : zt_S) (o : (Int × zt_S)), r11 v2 v4 v5 σ = some o → zt_Ex X 4 24 11 [(0, .ref 140), (1, .ref t1), (2, .long v2), (4, .int (Int32.ofInt v4)), (5, .int (Int32.ofInt v5))] [] (zt_M σ) (zo_I o)) : ∀ (v2 : Int64) (v4 : Int) (v5 : Int) (σ : zt_S) (o : (Int × zt_S)), F_QR_answer_47 t1 r11 v2 v4 v5 σ = some o → zt_Ex X 4 24 47 [(0, .ref 140), (1, .ref t1), (2, .long v2), (4, .int (Int32.ofInt v4)), (5, .int (Int32.ofInt v5))] [] (zt_M σ) (zo_I o) := by
  intro v2 v4 v5 σ o  h
  unfold F_QR_answer_47 at h
  refine zt_iinc zy_24 (show q_ins q_k24 47 = some (.iinc 5 1, 0, 0) from rfl) (v := v5) (by decide) rfl ?_
  refine zt_goto zy_24 (show q_ins q_k24 50 = some (.goto (-39), 11, 0) from rfl) ?_
  exact zt_wk (zt_cov_cons rfl (zt_cov_cons rfl (zt_cov_cons rfl (zt_cov_cons rfl (zt_cov_cons rfl (zt_cov_nil)))))) (hr11 _ _ _ _ _ h)
theorem S_QR_answer_66 {X : q_X} {t1 : Nat} (ht1 : t1 ∈ zt_tabs) : ∀ (x0 : Int) (σ : zt_S) (o : (Int × zt_S)), F_QR_answer_66 t1 x0 σ = some o → zt_Ex X 4 24 66 [] [.int (Int32.ofInt x0)] (zt_M σ) (zo_I o) := by
  intro x0 σ o  h
  unfold F_QR_answer_66 at h
  cases h
  exact zt_iret zy_24 (show q_ins q_k24 66 = some (.ireturn, 0, 0) from rfl)
theorem S_QR_answer_53 {X : q_X} {t1 : Nat} (ht1 : t1 ∈ zt_tabs) : ∀ (v4 : Int) (σ : zt_S) (o : (Int × zt_S)), F_QR_answer_53 t1 v4 σ = some o → zt_Ex X 4 24 53 [(0, .ref 140), (4, .int (Int32.ofInt v4))] [] (zt_M σ) (zo_I o) := by
  intro v4 σ o  h
  unfold F_QR_answer_53 at h
  refine zt_aload_n zy_24 (show q_ins q_k24 53 = some (.aload_n 0, 0, 0) from rfl) (v := 140) rfl ?_
  refine zt_getI zy_24 (show q_ins q_k24 54 = some (.getfield 41, 3, 5) from rfl) (j := 5) zk_140_5 rfl ?_
  obtain ⟨hg, h⟩ := zt_ckE h
  refine zt_if_eq zy_24 (show q_ins q_k24 57 = some (.ifCond .eq 8, 65, 0) from rfl) (hg) (fun hc => ?_) (fun hc => ?_)
  · rw [if_pos hc] at h
    refine zt_iconst zy_24 (show q_ins q_k24 65 = some (.iconst (-1), 0, 0) from rfl) ?_
    exact zt_wk (zt_cov_nil) (S_QR_answer_66  ht1 _ _ _ h)
  · rw [if_neg hc] at h
    refine zt_iload zy_24 (show q_ins q_k24 60 = some (.iload 4, 0, 0) from rfl) (v := Int32.ofInt v4) rfl ?_
    refine zt_goto zy_24 (show q_ins q_k24 62 = some (.goto 4, 66, 0) from rfl) ?_
    exact zt_wk (zt_cov_nil) (S_QR_answer_66  ht1 _ _ _ h)
theorem S_QR_answer_11 {X : q_X} {t1 : Nat} (ht1 : t1 ∈ zt_tabs) : ∀ (n : Nat) (v2 : Int64) (v4 : Int) (v5 : Int) (σ : zt_S) (o : (Int × zt_S)), F_QR_answer_11 t1 n v2 v4 v5 σ = some o → zt_Ex X 4 24 11 [(0, .ref 140), (1, .ref t1), (2, .long v2), (4, .int (Int32.ofInt v4)), (5, .int (Int32.ofInt v5))] [] (zt_M σ) (zo_I o) := by
  intro n
  induction n with
  | zero => intro v2 v4 v5 σ o  h; cases h
  | succ n ih =>
  intro v2 v4 v5 σ o  h
  rw [F_QR_answer_11] at h
  refine zt_iload zy_24 (show q_ins q_k24 11 = some (.iload 5, 0, 0) from rfl) (v := Int32.ofInt v5) rfl ?_
  refine zt_aload_n zy_24 (show q_ins q_k24 13 = some (.aload_n 1, 0, 0) from rfl) (v := t1) rfl ?_
  refine zt_getR zy_24 (show q_ins q_k24 14 = some (.getfield 144, 6, 0) from rfl) (r := (zt_su t1)) (zk_T_0 ht1) ?_
  obtain ⟨a3, s4, hca3, h⟩ := zt_bdE h
  refine zt_callV (d := 3) zy_24 (show q_ins q_k24 17 = some (.invokevirtual 148, 30, 0) from rfl) zy_30 (by decide) ⟨zq_lt (by decide), by decide⟩ rfl (by simp [Value.category]) (by simp [lg_sl, Value.category]) (zt_rcv (zc_S (zm_T0 ht1))) (zt_dm (by decide) (S_Su_cardCount (zm_T0 ht1) hca3)) ?_
  obtain ⟨hg, h⟩ := zt_ckE h
  refine zt_icmp_ge zy_24 (show q_ins q_k24 20 = some (.if_icmp .ge 33, 53, 0) from rfl) (⟨hg.1, hg.2⟩) (fun hc => ?_) (fun hc => ?_)
  · rw [if_pos hc] at h
    refine zt_aload_n zy_24 (show q_ins q_k24 23 = some (.aload_n 0, 0, 0) from rfl) (v := 140) rfl ?_
    refine zt_aload_n zy_24 (show q_ins q_k24 24 = some (.aload_n 1, 0, 0) from rfl) (v := t1) rfl ?_
    refine zt_iload zy_24 (show q_ins q_k24 25 = some (.iload 5, 0, 0) from rfl) (v := Int32.ofInt v5) rfl ?_
    refine zt_lload_n zy_24 (show q_ins q_k24 27 = some (.lload_n 2, 0, 0) from rfl) (v := v2) rfl ?_
    obtain ⟨a5, s6, hca5, h⟩ := zt_bdE h
    refine zt_callV (d := 3) zy_24 (show q_ins q_k24 28 = some (.invokevirtual 153, 25, 3) from rfl) zy_25 (by decide) ⟨zq_lt (by decide), by decide⟩ rfl (by simp [Value.category]) (by simp [lg_sl, Value.category]) (zt_rcv zc_140) (zt_dm (by decide) (S_QR_holds ht1 hca5)) ?_
    obtain ⟨hg, h⟩ := zt_ckE h
    refine zt_if_eq zy_24 (show q_ins q_k24 31 = some (.ifCond .eq 16, 47, 0) from rfl) (hg) (fun hc => ?_) (fun hc => ?_)
    · rw [if_pos hc] at h
      exact zt_wk (zt_cov_cons rfl (zt_cov_cons rfl (zt_cov_cons rfl (zt_cov_cons rfl (zt_cov_cons rfl (zt_cov_nil)))))) (S_QR_answer_47  ht1 ih _ _ _ _ _ h)
    · rw [if_neg hc] at h
      refine zt_aload_n zy_24 (show q_ins q_k24 34 = some (.aload_n 0, 0, 0) from rfl) (v := 140) rfl ?_
      refine zt_getI zy_24 (show q_ins q_k24 35 = some (.getfield 41, 3, 5) from rfl) (j := 5) zk_140_5 rfl ?_
      obtain ⟨hg, h⟩ := zt_ckE h
      refine zt_if_ne zy_24 (show q_ins q_k24 38 = some (.ifCond .ne 6, 44, 0) from rfl) (hg) (fun hc => ?_) (fun hc => ?_)
      · rw [if_pos hc] at h
        refine zt_iload zy_24 (show q_ins q_k24 41 = some (.iload 5, 0, 0) from rfl) (v := Int32.ofInt v5) rfl ?_
        cases h
        exact zt_iret zy_24 (show q_ins q_k24 43 = some (.ireturn, 0, 0) from rfl)
      · rw [if_neg hc] at h
        refine zt_iinc zy_24 (show q_ins q_k24 44 = some (.iinc 4 1, 0, 0) from rfl) (v := v4) (by decide) rfl ?_
        exact zt_wk (zt_cov_cons rfl (zt_cov_cons rfl (zt_cov_cons rfl (zt_cov_cons rfl (zt_cov_cons rfl (zt_cov_nil)))))) (S_QR_answer_47  ht1 ih _ _ _ _ _ h)
  · rw [if_neg hc] at h
    exact zt_wk (zt_cov_cons rfl (zt_cov_cons rfl (zt_cov_nil))) (S_QR_answer_53  ht1 _ _ _ h)
theorem S_QR_answer {X : q_X} {t1 : Nat} (ht1 : t1 ∈ zt_tabs)  {σ : zt_S} {o : (Int × zt_S)} (h : F_QR_answer t1  σ = some o) : zt_Ex X 4 24 0 (lv_args 0 [.ref 140, .ref t1]) [] (zt_M σ) (zo_I o) := by
  unfold F_QR_answer at h
  refine zt_aload_n zy_24 (show q_ins q_k24 0 = some (.aload_n 1, 0, 0) from rfl) (v := t1) rfl ?_
  obtain ⟨a1, s2, hca1, h⟩ := zt_bdE h
  refine zt_callV (d := 3) zy_24 (show q_ins q_k24 1 = some (.invokevirtual 138, 65, 0) from rfl) zy_65 (by decide) ⟨zq_lt (by decide), by decide⟩ rfl (by simp [Value.category]) (by simp [lg_sl, Value.category]) (zt_rcv (zc_T ht1)) (zt_dm (by decide) (S_Tb_allowedCards ht1 hca1)) ?_
  refine zt_lstore_n zy_24 (show q_ins q_k24 4 = some (.lstore_n 2, 0, 0) from rfl) (by decide) ?_
  refine zt_iconst zy_24 (show q_ins q_k24 5 = some (.iconst 0, 0, 0) from rfl) ?_
  refine zt_istore zy_24 (show q_ins q_k24 6 = some (.istore 4, 0, 0) from rfl) (by decide) ?_
  refine zt_iconst zy_24 (show q_ins q_k24 8 = some (.iconst 0, 0, 0) from rfl) ?_
  refine zt_istore zy_24 (show q_ins q_k24 9 = some (.istore 5, 0, 0) from rfl) (by decide) ?_
  exact zt_wk (zt_cov_cons rfl (zt_cov_cons rfl (zt_cov_cons rfl (zt_cov_cons rfl (zt_cov_cons rfl (zt_cov_nil)))))) (S_QR_answer_11  ht1 _ _ _ _ _ _ h)
theorem S_Su_copyFrom {X : q_X} {t0 : Nat} {t1 : Nat} (ht0 : t0 ∈ zt_sets) (ht1 : t1 ∈ zt_sets)  {σ : zt_S} {o : (Unit × zt_S)} (h : F_Su_copyFrom t0 t1  σ = some o) : zt_Ex X 0 29 0 (lv_args 0 [.ref t0, .ref t1]) [] (zt_M σ) (zo_V o) := by
  unfold F_Su_copyFrom at h
  refine zt_aload_n zy_29 (show q_ins q_k29 0 = some (.aload_n 0, 0, 0) from rfl) (v := t0) rfl ?_
  refine zt_aload_n zy_29 (show q_ins q_k29 1 = some (.aload_n 1, 0, 0) from rfl) (v := t1) rfl ?_
  refine zt_getI zy_29 (show q_ins q_k29 2 = some (.getfield 9, 4, 0) from rfl) (j := 0) (zk_S_0 ht1) rfl ?_
  obtain ⟨s1, hs1, h⟩ := zt_letE h
  refine zt_putI zy_29 (show q_ins q_k29 5 = some (.putfield 9, 4, 0) from rfl) (j := 0) (zk_S_0 ht0) rfl rfl rfl ?_
  rw [← hs1]
  refine zt_aload_n zy_29 (show q_ins q_k29 8 = some (.aload_n 0, 0, 0) from rfl) (v := t0) rfl ?_
  refine zt_aload_n zy_29 (show q_ins q_k29 9 = some (.aload_n 1, 0, 0) from rfl) (v := t1) rfl ?_
  refine zt_getI zy_29 (show q_ins q_k29 10 = some (.getfield 15, 4, 1) from rfl) (j := 1) (zk_S_1 ht1) rfl ?_
  obtain ⟨s2, hs2, h⟩ := zt_letE h
  refine zt_putI zy_29 (show q_ins q_k29 13 = some (.putfield 15, 4, 1) from rfl) (j := 1) (zk_S_1 ht0) rfl rfl rfl ?_
  rw [← hs2]
  refine zt_aload_n zy_29 (show q_ins q_k29 16 = some (.aload_n 0, 0, 0) from rfl) (v := t0) rfl ?_
  refine zt_aload_n zy_29 (show q_ins q_k29 17 = some (.aload_n 1, 0, 0) from rfl) (v := t1) rfl ?_
  refine zt_getI zy_29 (show q_ins q_k29 18 = some (.getfield 18, 4, 2) from rfl) (j := 2) (zk_S_2 ht1) rfl ?_
  obtain ⟨s3, hs3, h⟩ := zt_letE h
  refine zt_putI zy_29 (show q_ins q_k29 21 = some (.putfield 18, 4, 2) from rfl) (j := 2) (zk_S_2 ht0) rfl rfl rfl ?_
  rw [← hs3]
  refine zt_aload_n zy_29 (show q_ins q_k29 24 = some (.aload_n 0, 0, 0) from rfl) (v := t0) rfl ?_
  refine zt_aload_n zy_29 (show q_ins q_k29 25 = some (.aload_n 1, 0, 0) from rfl) (v := t1) rfl ?_
  refine zt_getI zy_29 (show q_ins q_k29 26 = some (.getfield 21, 4, 3) from rfl) (j := 3) (zk_S_3 ht1) rfl ?_
  obtain ⟨s4, hs4, h⟩ := zt_letE h
  refine zt_putI zy_29 (show q_ins q_k29 29 = some (.putfield 21, 4, 3) from rfl) (j := 3) (zk_S_3 ht0) rfl rfl rfl ?_
  rw [← hs4]
  cases h
  exact zt_ret zy_29 (show q_ins q_k29 32 = some (.return_, 0, 0) from rfl)
theorem S_Su_mostHeld_26 {X : q_X} {t0 : Nat} (ht0 : t0 ∈ zt_sets) : ∀ (x0 : Int) (σ : zt_S) (o : (Int × zt_S)), F_Su_mostHeld_26 t0 x0 σ = some o → zt_Ex X 1 32 26 [] [.int (Int32.ofInt x0)] (zt_M σ) (zo_I o) := by
  intro x0 σ o  h
  unfold F_Su_mostHeld_26 at h
  cases h
  exact zt_iret zy_32 (show q_ins q_k32 26 = some (.ireturn, 0, 0) from rfl)
theorem S_Su_mostHeld {X : q_X} {t0 : Nat} (ht0 : t0 ∈ zt_sets)  {σ : zt_S} {o : (Int × zt_S)} (h : F_Su_mostHeld t0  σ = some o) : zt_Ex X 1 32 0 (lv_args 0 [.ref t0]) [] (zt_M σ) (zo_I o) := by
  unfold F_Su_mostHeld at h
  refine zt_aload_n zy_32 (show q_ins q_k32 0 = some (.aload_n 0, 0, 0) from rfl) (v := t0) rfl ?_
  refine zt_getI zy_32 (show q_ins q_k32 1 = some (.getfield 15, 4, 1) from rfl) (j := 1) (zk_S_1 ht0) rfl ?_
  obtain ⟨hg, h⟩ := zt_ckE h
  refine zt_if_gt zy_32 (show q_ins q_k32 4 = some (.ifCond .gt 8, 12, 0) from rfl) (hg) (fun hc => ?_) (fun hc => ?_)
  · rw [if_pos hc] at h
    refine zt_bipush zy_32 (show q_ins q_k32 12 = some (.bipush 13, 0, 0) from rfl) (by decide) ?_
    refine zt_aload_n zy_32 (show q_ins q_k32 14 = some (.aload_n 0, 0, 0) from rfl) (v := t0) rfl ?_
    obtain ⟨a1, s2, hca1, h⟩ := zt_bdE h
    refine zt_callV (d := 0) zy_32 (show q_ins q_k32 15 = some (.invokevirtual 24, 30, 0) from rfl) zy_30 (by decide) ⟨zq_lt (by decide), by decide⟩ rfl (by simp [Value.category]) (by simp [lg_sl, Value.category]) (zt_rcv (zc_S ht0)) (zt_dm (by decide) (S_Su_cardCount ht0 hca1)) ?_
    refine zt_aload_n zy_32 (show q_ins q_k32 18 = some (.aload_n 0, 0, 0) from rfl) (v := t0) rfl ?_
    refine zt_getI zy_32 (show q_ins q_k32 19 = some (.getfield 15, 4, 1) from rfl) (j := 1) (zk_S_1 ht0) rfl ?_
    obtain ⟨hg, h⟩ := zt_ckE h
    refine zt_idiv zy_32 (show q_ins q_k32 22 = some (.idiv, 0, 0) from rfl) hg.1 hg.2 ?_
    obtain ⟨hg, h⟩ := zt_ckE h
    refine zt_min zy_32 (show q_ins q_k32 23 = some (.invokestatic 28, 911, 2) from rfl) rfl ⟨by decide, hg⟩ (by simp [Value.category]) ?_
    exact zt_wk (zt_cov_nil) (S_Su_mostHeld_26  ht0 _ _ _ h)
  · rw [if_neg hc] at h
    refine zt_bipush zy_32 (show q_ins q_k32 7 = some (.bipush 13, 0, 0) from rfl) (by decide) ?_
    refine zt_goto zy_32 (show q_ins q_k32 9 = some (.goto 17, 26, 0) from rfl) ?_
    exact zt_wk (zt_cov_nil) (S_Su_mostHeld_26  ht0 _ _ _ h)
theorem S_Su_trickOf_17 {X : q_X} {t0 : Nat} (ht0 : t0 ∈ zt_sets) : ∀ (x0 : Int) (σ : zt_S) (o : (Int × zt_S)), F_Su_trickOf_17 t0 x0 σ = some o → zt_Ex X 0 35 17 [] [.int (Int32.ofInt x0)] (zt_M σ) (zo_I o) := by
  intro x0 σ o  h
  unfold F_Su_trickOf_17 at h
  cases h
  exact zt_iret zy_35 (show q_ins q_k35 17 = some (.ireturn, 0, 0) from rfl)
theorem S_Su_trickOf {X : q_X} {t0 : Nat} (ht0 : t0 ∈ zt_sets) {v1 : Int} {σ : zt_S} {o : (Int × zt_S)} (h : F_Su_trickOf t0 v1 σ = some o) : zt_Ex X 0 35 0 (lv_args 0 [.ref t0, .int (Int32.ofInt v1)]) [] (zt_M σ) (zo_I o) := by
  unfold F_Su_trickOf at h
  refine zt_aload_n zy_35 (show q_ins q_k35 0 = some (.aload_n 0, 0, 0) from rfl) (v := t0) rfl ?_
  refine zt_getI zy_35 (show q_ins q_k35 1 = some (.getfield 15, 4, 1) from rfl) (j := 1) (zk_S_1 ht0) rfl ?_
  obtain ⟨hg, h⟩ := zt_ckE h
  refine zt_if_gt zy_35 (show q_ins q_k35 4 = some (.ifCond .gt 7, 11, 0) from rfl) (hg) (fun hc => ?_) (fun hc => ?_)
  · rw [if_pos hc] at h
    refine zt_iload_n zy_35 (show q_ins q_k35 11 = some (.iload_n 1, 0, 0) from rfl) (v := Int32.ofInt v1) rfl ?_
    refine zt_aload_n zy_35 (show q_ins q_k35 12 = some (.aload_n 0, 0, 0) from rfl) (v := t0) rfl ?_
    refine zt_getI zy_35 (show q_ins q_k35 13 = some (.getfield 15, 4, 1) from rfl) (j := 1) (zk_S_1 ht0) rfl ?_
    obtain ⟨hg, h⟩ := zt_ckE h
    refine zt_idiv zy_35 (show q_ins q_k35 16 = some (.idiv, 0, 0) from rfl) hg.1 hg.2 ?_
    exact zt_wk (zt_cov_nil) (S_Su_trickOf_17  ht0 _ _ _ h)
  · rw [if_neg hc] at h
    refine zt_iconst zy_35 (show q_ins q_k35 7 = some (.iconst 0, 0, 0) from rfl) ?_
    refine zt_goto zy_35 (show q_ins q_k35 8 = some (.goto 9, 17, 0) from rfl) ?_
    exact zt_wk (zt_cov_nil) (S_Su_trickOf_17  ht0 _ _ _ h)
theorem S_Su_behind_17 {X : q_X} {t0 : Nat} (ht0 : t0 ∈ zt_sets) : ∀ (x0 : Int) (σ : zt_S) (o : (Int × zt_S)), F_Su_behind_17 t0 x0 σ = some o → zt_Ex X 0 37 17 [] [.int (Int32.ofInt x0)] (zt_M σ) (zo_I o) := by
  intro x0 σ o  h
  unfold F_Su_behind_17 at h
  cases h
  exact zt_iret zy_37 (show q_ins q_k37 17 = some (.ireturn, 0, 0) from rfl)
theorem S_Su_behind {X : q_X} {t0 : Nat} (ht0 : t0 ∈ zt_sets) {v1 : Int} {σ : zt_S} {o : (Int × zt_S)} (h : F_Su_behind t0 v1 σ = some o) : zt_Ex X 0 37 0 (lv_args 0 [.ref t0, .int (Int32.ofInt v1)]) [] (zt_M σ) (zo_I o) := by
  unfold F_Su_behind at h
  refine zt_iload_n zy_37 (show q_ins q_k37 0 = some (.iload_n 1, 0, 0) from rfl) (v := Int32.ofInt v1) rfl ?_
  refine zt_iconst zy_37 (show q_ins q_k37 1 = some (.iconst 1, 0, 0) from rfl) ?_
  refine zt_iadd zy_37 (show q_ins q_k37 2 = some (.iadd, 0, 0) from rfl) ?_
  refine zt_aload_n zy_37 (show q_ins q_k37 3 = some (.aload_n 0, 0, 0) from rfl) (v := t0) rfl ?_
  refine zt_getI zy_37 (show q_ins q_k37 4 = some (.getfield 15, 4, 1) from rfl) (j := 1) (zk_S_1 ht0) rfl ?_
  obtain ⟨hg, h⟩ := zt_ckE h
  refine zt_icmp_ge zy_37 (show q_ins q_k37 7 = some (.if_icmp .ge 9, 16, 0) from rfl) (⟨hg.1, hg.2⟩) (fun hc => ?_) (fun hc => ?_)
  · rw [if_pos hc] at h
    refine zt_iload_n zy_37 (show q_ins q_k37 10 = some (.iload_n 1, 0, 0) from rfl) (v := Int32.ofInt v1) rfl ?_
    refine zt_iconst zy_37 (show q_ins q_k37 11 = some (.iconst 1, 0, 0) from rfl) ?_
    refine zt_iadd zy_37 (show q_ins q_k37 12 = some (.iadd, 0, 0) from rfl) ?_
    refine zt_goto zy_37 (show q_ins q_k37 13 = some (.goto 4, 17, 0) from rfl) ?_
    exact zt_wk (zt_cov_nil) (S_Su_behind_17  ht0 _ _ _ h)
  · rw [if_neg hc] at h
    refine zt_iconst zy_37 (show q_ins q_k37 16 = some (.iconst 0, 0, 0) from rfl) ?_
    exact zt_wk (zt_cov_nil) (S_Su_behind_17  ht0 _ _ _ h)
theorem S_Tb_allHands_4 {X : q_X} {t0 : Nat} (ht0 : t0 ∈ zt_tabs) : ∀ (n : Nat) (v1 : Int64) (v3 : Int) (σ : zt_S) (o : (Int64 × zt_S)), F_Tb_allHands_4 t0 n v1 v3 σ = some o → zt_Ex X 0 62 4 [(0, .ref t0), (1, .long v1), (3, .int (Int32.ofInt v3))] [] (zt_M σ) (zo_L o) := by
  intro n
  induction n with
  | zero => intro v1 v3 σ o  h; cases h
  | succ n ih =>
  intro v1 v3 σ o  h
  rw [F_Tb_allHands_4] at h
  refine zt_iload_n zy_62 (show q_ins q_k62 4 = some (.iload_n 3, 0, 0) from rfl) (v := Int32.ofInt v3) rfl ?_
  refine zt_aload_n zy_62 (show q_ins q_k62 5 = some (.aload_n 0, 0, 0) from rfl) (v := t0) rfl ?_
  refine zt_getR zy_62 (show q_ins q_k62 6 = some (.getfield 18, 6, 2) from rfl) (r := (t0 + 2)) (zk_T_2 ht0) ?_
  refine zt_alen zy_62 (show q_ins q_k62 9 = some (.arraylength, 0, 0) from rfl) (za_T2 ht0) (by decide) ?_
  obtain ⟨hg, h⟩ := zt_ckE h
  refine zt_icmp_ge zy_62 (show q_ins q_k62 10 = some (.if_icmp .ge 18, 28, 0) from rfl) (⟨hg, by decide⟩) (fun hc => ?_) (fun hc => ?_)
  · rw [if_pos hc] at h
    refine zt_lload_n zy_62 (show q_ins q_k62 13 = some (.lload_n 1, 0, 0) from rfl) (v := v1) rfl ?_
    refine zt_aload_n zy_62 (show q_ins q_k62 14 = some (.aload_n 0, 0, 0) from rfl) (v := t0) rfl ?_
    refine zt_getR zy_62 (show q_ins q_k62 15 = some (.getfield 18, 6, 2) from rfl) (r := (t0 + 2)) (zk_T_2 ht0) ?_
    refine zt_iload_n zy_62 (show q_ins q_k62 18 = some (.iload_n 3, 0, 0) from rfl) (v := Int32.ofInt v3) rfl ?_
    obtain ⟨hg, h⟩ := zt_ckE h
    refine zt_lld zy_62 (show q_ins q_k62 19 = some (.laload, 0, 0) from rfl) (za_T2 ht0) (by decide) hg ?_
    refine zt_lor zy_62 (show q_ins q_k62 20 = some (.lor, 0, 0) from rfl) ?_
    refine zt_lstore_n zy_62 (show q_ins q_k62 21 = some (.lstore_n 1, 0, 0) from rfl) (by decide) ?_
    refine zt_iinc zy_62 (show q_ins q_k62 22 = some (.iinc 3 1, 0, 0) from rfl) (v := v3) (by decide) rfl ?_
    refine zt_goto zy_62 (show q_ins q_k62 25 = some (.goto (-21), 4, 0) from rfl) ?_
    exact zt_wk (zt_cov_cons rfl (zt_cov_cons rfl (zt_cov_cons rfl (zt_cov_nil)))) (ih _ _ _ _ h)
  · rw [if_neg hc] at h
    refine zt_lload_n zy_62 (show q_ins q_k62 28 = some (.lload_n 1, 0, 0) from rfl) (v := v1) rfl ?_
    cases h
    exact zt_lret zy_62 (show q_ins q_k62 29 = some (.lreturn, 0, 0) from rfl)
theorem S_Tb_allHands {X : q_X} {t0 : Nat} (ht0 : t0 ∈ zt_tabs)  {σ : zt_S} {o : (Int64 × zt_S)} (h : F_Tb_allHands t0  σ = some o) : zt_Ex X 0 62 0 (lv_args 0 [.ref t0]) [] (zt_M σ) (zo_L o) := by
  unfold F_Tb_allHands at h
  refine zt_lconst zy_62 (show q_ins q_k62 0 = some (.lconst 0, 0, 0) from rfl) (v := (0 : Int64)) (by decide) ?_
  refine zt_lstore_n zy_62 (show q_ins q_k62 1 = some (.lstore_n 1, 0, 0) from rfl) (by decide) ?_
  refine zt_iconst zy_62 (show q_ins q_k62 2 = some (.iconst 0, 0, 0) from rfl) ?_
  refine zt_istore_n zy_62 (show q_ins q_k62 3 = some (.istore_n 3, 0, 0) from rfl) (by decide) ?_
  exact zt_wk (zt_cov_cons rfl (zt_cov_cons rfl (zt_cov_cons rfl (zt_cov_nil)))) (S_Tb_allHands_4  ht0 _ _ _ _ _ h)
theorem S_J_bitCount {X : q_X}   {v0 : Int64} {σ : zt_S} {o : (Int × zt_S)} (h : F_J_bitCount  v0 σ = some o) : zt_Ex X 0 352 0 (lv_args 0 [.long v0]) [] (zt_M σ) (zo_I o) := by
  unfold F_J_bitCount at h
  refine zt_lload_n zy_352 (show q_ins q_k352 0 = some (.lload_n 0, 0, 0) from rfl) (v := v0) rfl ?_
  refine zt_lload_n zy_352 (show q_ins q_k352 1 = some (.lload_n 0, 0, 0) from rfl) (v := v0) rfl ?_
  refine zt_iconst zy_352 (show q_ins q_k352 2 = some (.iconst 1, 0, 0) from rfl) ?_
  refine zt_lushr zy_352 (show q_ins q_k352 3 = some (.lushr, 0, 0) from rfl) ?_
  refine zt_ldc2 zy_352 (show q_ins q_k352 4 = some (.ldc2_w 314, 0, 6148914691236517205) from rfl) (v := (6148914691236517205 : Int64)) (by decide) ?_
  refine zt_land zy_352 (show q_ins q_k352 7 = some (.land, 0, 0) from rfl) ?_
  refine zt_lsub zy_352 (show q_ins q_k352 8 = some (.lsub, 0, 0) from rfl) ?_
  refine zt_lstore_n zy_352 (show q_ins q_k352 9 = some (.lstore_n 0, 0, 0) from rfl) (by decide) ?_
  refine zt_lload_n zy_352 (show q_ins q_k352 10 = some (.lload_n 0, 0, 0) from rfl) (v := (v0 - ((zt_us v0 (1 : Int)) &&& (6148914691236517205 : Int64)))) rfl ?_
  refine zt_ldc2 zy_352 (show q_ins q_k352 11 = some (.ldc2_w 316, 0, 3689348814741910323) from rfl) (v := (3689348814741910323 : Int64)) (by decide) ?_
  refine zt_land zy_352 (show q_ins q_k352 14 = some (.land, 0, 0) from rfl) ?_
  refine zt_lload_n zy_352 (show q_ins q_k352 15 = some (.lload_n 0, 0, 0) from rfl) (v := (v0 - ((zt_us v0 (1 : Int)) &&& (6148914691236517205 : Int64)))) rfl ?_
  refine zt_iconst zy_352 (show q_ins q_k352 16 = some (.iconst 2, 0, 0) from rfl) ?_
  refine zt_lushr zy_352 (show q_ins q_k352 17 = some (.lushr, 0, 0) from rfl) ?_
  refine zt_ldc2 zy_352 (show q_ins q_k352 18 = some (.ldc2_w 316, 0, 3689348814741910323) from rfl) (v := (3689348814741910323 : Int64)) (by decide) ?_
  refine zt_land zy_352 (show q_ins q_k352 21 = some (.land, 0, 0) from rfl) ?_
  refine zt_ladd zy_352 (show q_ins q_k352 22 = some (.ladd, 0, 0) from rfl) ?_
  refine zt_lstore_n zy_352 (show q_ins q_k352 23 = some (.lstore_n 0, 0, 0) from rfl) (by decide) ?_
  refine zt_lload_n zy_352 (show q_ins q_k352 24 = some (.lload_n 0, 0, 0) from rfl) (v := (((v0 - ((zt_us v0 (1 : Int)) &&& (6148914691236517205 : Int64))) &&& (3689348814741910323 : Int64)) + ((zt_us (v0 - ((zt_us v0 (1 : Int)) &&& (6148914691236517205 : Int64))) (2 : Int)) &&& (3689348814741910323 : Int64)))) rfl ?_
  refine zt_lload_n zy_352 (show q_ins q_k352 25 = some (.lload_n 0, 0, 0) from rfl) (v := (((v0 - ((zt_us v0 (1 : Int)) &&& (6148914691236517205 : Int64))) &&& (3689348814741910323 : Int64)) + ((zt_us (v0 - ((zt_us v0 (1 : Int)) &&& (6148914691236517205 : Int64))) (2 : Int)) &&& (3689348814741910323 : Int64)))) rfl ?_
  refine zt_iconst zy_352 (show q_ins q_k352 26 = some (.iconst 4, 0, 0) from rfl) ?_
  refine zt_lushr zy_352 (show q_ins q_k352 27 = some (.lushr, 0, 0) from rfl) ?_
  refine zt_ladd zy_352 (show q_ins q_k352 28 = some (.ladd, 0, 0) from rfl) ?_
  refine zt_ldc2 zy_352 (show q_ins q_k352 29 = some (.ldc2_w 318, 0, 1085102592571150095) from rfl) (v := (1085102592571150095 : Int64)) (by decide) ?_
  refine zt_land zy_352 (show q_ins q_k352 32 = some (.land, 0, 0) from rfl) ?_
  refine zt_lstore_n zy_352 (show q_ins q_k352 33 = some (.lstore_n 0, 0, 0) from rfl) (by decide) ?_
  refine zt_lload_n zy_352 (show q_ins q_k352 34 = some (.lload_n 0, 0, 0) from rfl) (v := (((((v0 - ((zt_us v0 (1 : Int)) &&& (6148914691236517205 : Int64))) &&& (3689348814741910323 : Int64)) + ((zt_us (v0 - ((zt_us v0 (1 : Int)) &&& (6148914691236517205 : Int64))) (2 : Int)) &&& (3689348814741910323 : Int64))) + (zt_us (((v0 - ((zt_us v0 (1 : Int)) &&& (6148914691236517205 : Int64))) &&& (3689348814741910323 : Int64)) + ((zt_us (v0 - ((zt_us v0 (1 : Int)) &&& (6148914691236517205 : Int64))) (2 : Int)) &&& (3689348814741910323 : Int64))) (4 : Int))) &&& (1085102592571150095 : Int64))) rfl ?_
  refine zt_lload_n zy_352 (show q_ins q_k352 35 = some (.lload_n 0, 0, 0) from rfl) (v := (((((v0 - ((zt_us v0 (1 : Int)) &&& (6148914691236517205 : Int64))) &&& (3689348814741910323 : Int64)) + ((zt_us (v0 - ((zt_us v0 (1 : Int)) &&& (6148914691236517205 : Int64))) (2 : Int)) &&& (3689348814741910323 : Int64))) + (zt_us (((v0 - ((zt_us v0 (1 : Int)) &&& (6148914691236517205 : Int64))) &&& (3689348814741910323 : Int64)) + ((zt_us (v0 - ((zt_us v0 (1 : Int)) &&& (6148914691236517205 : Int64))) (2 : Int)) &&& (3689348814741910323 : Int64))) (4 : Int))) &&& (1085102592571150095 : Int64))) rfl ?_
  refine zt_bipush zy_352 (show q_ins q_k352 36 = some (.bipush 8, 0, 0) from rfl) (by decide) ?_
  refine zt_lushr zy_352 (show q_ins q_k352 38 = some (.lushr, 0, 0) from rfl) ?_
  refine zt_ladd zy_352 (show q_ins q_k352 39 = some (.ladd, 0, 0) from rfl) ?_
  refine zt_lstore_n zy_352 (show q_ins q_k352 40 = some (.lstore_n 0, 0, 0) from rfl) (by decide) ?_
  refine zt_lload_n zy_352 (show q_ins q_k352 41 = some (.lload_n 0, 0, 0) from rfl) (v := ((((((v0 - ((zt_us v0 (1 : Int)) &&& (6148914691236517205 : Int64))) &&& (3689348814741910323 : Int64)) + ((zt_us (v0 - ((zt_us v0 (1 : Int)) &&& (6148914691236517205 : Int64))) (2 : Int)) &&& (3689348814741910323 : Int64))) + (zt_us (((v0 - ((zt_us v0 (1 : Int)) &&& (6148914691236517205 : Int64))) &&& (3689348814741910323 : Int64)) + ((zt_us (v0 - ((zt_us v0 (1 : Int)) &&& (6148914691236517205 : Int64))) (2 : Int)) &&& (3689348814741910323 : Int64))) (4 : Int))) &&& (1085102592571150095 : Int64)) + (zt_us (((((v0 - ((zt_us v0 (1 : Int)) &&& (6148914691236517205 : Int64))) &&& (3689348814741910323 : Int64)) + ((zt_us (v0 - ((zt_us v0 (1 : Int)) &&& (6148914691236517205 : Int64))) (2 : Int)) &&& (3689348814741910323 : Int64))) + (zt_us (((v0 - ((zt_us v0 (1 : Int)) &&& (6148914691236517205 : Int64))) &&& (3689348814741910323 : Int64)) + ((zt_us (v0 - ((zt_us v0 (1 : Int)) &&& (6148914691236517205 : Int64))) (2 : Int)) &&& (3689348814741910323 : Int64))) (4 : Int))) &&& (1085102592571150095 : Int64)) (8 : Int)))) rfl ?_
  refine zt_lload_n zy_352 (show q_ins q_k352 42 = some (.lload_n 0, 0, 0) from rfl) (v := ((((((v0 - ((zt_us v0 (1 : Int)) &&& (6148914691236517205 : Int64))) &&& (3689348814741910323 : Int64)) + ((zt_us (v0 - ((zt_us v0 (1 : Int)) &&& (6148914691236517205 : Int64))) (2 : Int)) &&& (3689348814741910323 : Int64))) + (zt_us (((v0 - ((zt_us v0 (1 : Int)) &&& (6148914691236517205 : Int64))) &&& (3689348814741910323 : Int64)) + ((zt_us (v0 - ((zt_us v0 (1 : Int)) &&& (6148914691236517205 : Int64))) (2 : Int)) &&& (3689348814741910323 : Int64))) (4 : Int))) &&& (1085102592571150095 : Int64)) + (zt_us (((((v0 - ((zt_us v0 (1 : Int)) &&& (6148914691236517205 : Int64))) &&& (3689348814741910323 : Int64)) + ((zt_us (v0 - ((zt_us v0 (1 : Int)) &&& (6148914691236517205 : Int64))) (2 : Int)) &&& (3689348814741910323 : Int64))) + (zt_us (((v0 - ((zt_us v0 (1 : Int)) &&& (6148914691236517205 : Int64))) &&& (3689348814741910323 : Int64)) + ((zt_us (v0 - ((zt_us v0 (1 : Int)) &&& (6148914691236517205 : Int64))) (2 : Int)) &&& (3689348814741910323 : Int64))) (4 : Int))) &&& (1085102592571150095 : Int64)) (8 : Int)))) rfl ?_
  refine zt_bipush zy_352 (show q_ins q_k352 43 = some (.bipush 16, 0, 0) from rfl) (by decide) ?_
  refine zt_lushr zy_352 (show q_ins q_k352 45 = some (.lushr, 0, 0) from rfl) ?_
  refine zt_ladd zy_352 (show q_ins q_k352 46 = some (.ladd, 0, 0) from rfl) ?_
  refine zt_lstore_n zy_352 (show q_ins q_k352 47 = some (.lstore_n 0, 0, 0) from rfl) (by decide) ?_
  refine zt_lload_n zy_352 (show q_ins q_k352 48 = some (.lload_n 0, 0, 0) from rfl) (v := (((((((v0 - ((zt_us v0 (1 : Int)) &&& (6148914691236517205 : Int64))) &&& (3689348814741910323 : Int64)) + ((zt_us (v0 - ((zt_us v0 (1 : Int)) &&& (6148914691236517205 : Int64))) (2 : Int)) &&& (3689348814741910323 : Int64))) + (zt_us (((v0 - ((zt_us v0 (1 : Int)) &&& (6148914691236517205 : Int64))) &&& (3689348814741910323 : Int64)) + ((zt_us (v0 - ((zt_us v0 (1 : Int)) &&& (6148914691236517205 : Int64))) (2 : Int)) &&& (3689348814741910323 : Int64))) (4 : Int))) &&& (1085102592571150095 : Int64)) + (zt_us (((((v0 - ((zt_us v0 (1 : Int)) &&& (6148914691236517205 : Int64))) &&& (3689348814741910323 : Int64)) + ((zt_us (v0 - ((zt_us v0 (1 : Int)) &&& (6148914691236517205 : Int64))) (2 : Int)) &&& (3689348814741910323 : Int64))) + (zt_us (((v0 - ((zt_us v0 (1 : Int)) &&& (6148914691236517205 : Int64))) &&& (3689348814741910323 : Int64)) + ((zt_us (v0 - ((zt_us v0 (1 : Int)) &&& (6148914691236517205 : Int64))) (2 : Int)) &&& (3689348814741910323 : Int64))) (4 : Int))) &&& (1085102592571150095 : Int64)) (8 : Int))) + (zt_us ((((((v0 - ((zt_us v0 (1 : Int)) &&& (6148914691236517205 : Int64))) &&& (3689348814741910323 : Int64)) + ((zt_us (v0 - ((zt_us v0 (1 : Int)) &&& (6148914691236517205 : Int64))) (2 : Int)) &&& (3689348814741910323 : Int64))) + (zt_us (((v0 - ((zt_us v0 (1 : Int)) &&& (6148914691236517205 : Int64))) &&& (3689348814741910323 : Int64)) + ((zt_us (v0 - ((zt_us v0 (1 : Int)) &&& (6148914691236517205 : Int64))) (2 : Int)) &&& (3689348814741910323 : Int64))) (4 : Int))) &&& (1085102592571150095 : Int64)) + (zt_us (((((v0 - ((zt_us v0 (1 : Int)) &&& (6148914691236517205 : Int64))) &&& (3689348814741910323 : Int64)) + ((zt_us (v0 - ((zt_us v0 (1 : Int)) &&& (6148914691236517205 : Int64))) (2 : Int)) &&& (3689348814741910323 : Int64))) + (zt_us (((v0 - ((zt_us v0 (1 : Int)) &&& (6148914691236517205 : Int64))) &&& (3689348814741910323 : Int64)) + ((zt_us (v0 - ((zt_us v0 (1 : Int)) &&& (6148914691236517205 : Int64))) (2 : Int)) &&& (3689348814741910323 : Int64))) (4 : Int))) &&& (1085102592571150095 : Int64)) (8 : Int))) (16 : Int)))) rfl ?_
  refine zt_lload_n zy_352 (show q_ins q_k352 49 = some (.lload_n 0, 0, 0) from rfl) (v := (((((((v0 - ((zt_us v0 (1 : Int)) &&& (6148914691236517205 : Int64))) &&& (3689348814741910323 : Int64)) + ((zt_us (v0 - ((zt_us v0 (1 : Int)) &&& (6148914691236517205 : Int64))) (2 : Int)) &&& (3689348814741910323 : Int64))) + (zt_us (((v0 - ((zt_us v0 (1 : Int)) &&& (6148914691236517205 : Int64))) &&& (3689348814741910323 : Int64)) + ((zt_us (v0 - ((zt_us v0 (1 : Int)) &&& (6148914691236517205 : Int64))) (2 : Int)) &&& (3689348814741910323 : Int64))) (4 : Int))) &&& (1085102592571150095 : Int64)) + (zt_us (((((v0 - ((zt_us v0 (1 : Int)) &&& (6148914691236517205 : Int64))) &&& (3689348814741910323 : Int64)) + ((zt_us (v0 - ((zt_us v0 (1 : Int)) &&& (6148914691236517205 : Int64))) (2 : Int)) &&& (3689348814741910323 : Int64))) + (zt_us (((v0 - ((zt_us v0 (1 : Int)) &&& (6148914691236517205 : Int64))) &&& (3689348814741910323 : Int64)) + ((zt_us (v0 - ((zt_us v0 (1 : Int)) &&& (6148914691236517205 : Int64))) (2 : Int)) &&& (3689348814741910323 : Int64))) (4 : Int))) &&& (1085102592571150095 : Int64)) (8 : Int))) + (zt_us ((((((v0 - ((zt_us v0 (1 : Int)) &&& (6148914691236517205 : Int64))) &&& (3689348814741910323 : Int64)) + ((zt_us (v0 - ((zt_us v0 (1 : Int)) &&& (6148914691236517205 : Int64))) (2 : Int)) &&& (3689348814741910323 : Int64))) + (zt_us (((v0 - ((zt_us v0 (1 : Int)) &&& (6148914691236517205 : Int64))) &&& (3689348814741910323 : Int64)) + ((zt_us (v0 - ((zt_us v0 (1 : Int)) &&& (6148914691236517205 : Int64))) (2 : Int)) &&& (3689348814741910323 : Int64))) (4 : Int))) &&& (1085102592571150095 : Int64)) + (zt_us (((((v0 - ((zt_us v0 (1 : Int)) &&& (6148914691236517205 : Int64))) &&& (3689348814741910323 : Int64)) + ((zt_us (v0 - ((zt_us v0 (1 : Int)) &&& (6148914691236517205 : Int64))) (2 : Int)) &&& (3689348814741910323 : Int64))) + (zt_us (((v0 - ((zt_us v0 (1 : Int)) &&& (6148914691236517205 : Int64))) &&& (3689348814741910323 : Int64)) + ((zt_us (v0 - ((zt_us v0 (1 : Int)) &&& (6148914691236517205 : Int64))) (2 : Int)) &&& (3689348814741910323 : Int64))) (4 : Int))) &&& (1085102592571150095 : Int64)) (8 : Int))) (16 : Int)))) rfl ?_
  refine zt_bipush zy_352 (show q_ins q_k352 50 = some (.bipush 32, 0, 0) from rfl) (by decide) ?_
  refine zt_lushr zy_352 (show q_ins q_k352 52 = some (.lushr, 0, 0) from rfl) ?_
  refine zt_ladd zy_352 (show q_ins q_k352 53 = some (.ladd, 0, 0) from rfl) ?_
  refine zt_lstore_n zy_352 (show q_ins q_k352 54 = some (.lstore_n 0, 0, 0) from rfl) (by decide) ?_
  refine zt_lload_n zy_352 (show q_ins q_k352 55 = some (.lload_n 0, 0, 0) from rfl) (v := ((((((((v0 - ((zt_us v0 (1 : Int)) &&& (6148914691236517205 : Int64))) &&& (3689348814741910323 : Int64)) + ((zt_us (v0 - ((zt_us v0 (1 : Int)) &&& (6148914691236517205 : Int64))) (2 : Int)) &&& (3689348814741910323 : Int64))) + (zt_us (((v0 - ((zt_us v0 (1 : Int)) &&& (6148914691236517205 : Int64))) &&& (3689348814741910323 : Int64)) + ((zt_us (v0 - ((zt_us v0 (1 : Int)) &&& (6148914691236517205 : Int64))) (2 : Int)) &&& (3689348814741910323 : Int64))) (4 : Int))) &&& (1085102592571150095 : Int64)) + (zt_us (((((v0 - ((zt_us v0 (1 : Int)) &&& (6148914691236517205 : Int64))) &&& (3689348814741910323 : Int64)) + ((zt_us (v0 - ((zt_us v0 (1 : Int)) &&& (6148914691236517205 : Int64))) (2 : Int)) &&& (3689348814741910323 : Int64))) + (zt_us (((v0 - ((zt_us v0 (1 : Int)) &&& (6148914691236517205 : Int64))) &&& (3689348814741910323 : Int64)) + ((zt_us (v0 - ((zt_us v0 (1 : Int)) &&& (6148914691236517205 : Int64))) (2 : Int)) &&& (3689348814741910323 : Int64))) (4 : Int))) &&& (1085102592571150095 : Int64)) (8 : Int))) + (zt_us ((((((v0 - ((zt_us v0 (1 : Int)) &&& (6148914691236517205 : Int64))) &&& (3689348814741910323 : Int64)) + ((zt_us (v0 - ((zt_us v0 (1 : Int)) &&& (6148914691236517205 : Int64))) (2 : Int)) &&& (3689348814741910323 : Int64))) + (zt_us (((v0 - ((zt_us v0 (1 : Int)) &&& (6148914691236517205 : Int64))) &&& (3689348814741910323 : Int64)) + ((zt_us (v0 - ((zt_us v0 (1 : Int)) &&& (6148914691236517205 : Int64))) (2 : Int)) &&& (3689348814741910323 : Int64))) (4 : Int))) &&& (1085102592571150095 : Int64)) + (zt_us (((((v0 - ((zt_us v0 (1 : Int)) &&& (6148914691236517205 : Int64))) &&& (3689348814741910323 : Int64)) + ((zt_us (v0 - ((zt_us v0 (1 : Int)) &&& (6148914691236517205 : Int64))) (2 : Int)) &&& (3689348814741910323 : Int64))) + (zt_us (((v0 - ((zt_us v0 (1 : Int)) &&& (6148914691236517205 : Int64))) &&& (3689348814741910323 : Int64)) + ((zt_us (v0 - ((zt_us v0 (1 : Int)) &&& (6148914691236517205 : Int64))) (2 : Int)) &&& (3689348814741910323 : Int64))) (4 : Int))) &&& (1085102592571150095 : Int64)) (8 : Int))) (16 : Int))) + (zt_us (((((((v0 - ((zt_us v0 (1 : Int)) &&& (6148914691236517205 : Int64))) &&& (3689348814741910323 : Int64)) + ((zt_us (v0 - ((zt_us v0 (1 : Int)) &&& (6148914691236517205 : Int64))) (2 : Int)) &&& (3689348814741910323 : Int64))) + (zt_us (((v0 - ((zt_us v0 (1 : Int)) &&& (6148914691236517205 : Int64))) &&& (3689348814741910323 : Int64)) + ((zt_us (v0 - ((zt_us v0 (1 : Int)) &&& (6148914691236517205 : Int64))) (2 : Int)) &&& (3689348814741910323 : Int64))) (4 : Int))) &&& (1085102592571150095 : Int64)) + (zt_us (((((v0 - ((zt_us v0 (1 : Int)) &&& (6148914691236517205 : Int64))) &&& (3689348814741910323 : Int64)) + ((zt_us (v0 - ((zt_us v0 (1 : Int)) &&& (6148914691236517205 : Int64))) (2 : Int)) &&& (3689348814741910323 : Int64))) + (zt_us (((v0 - ((zt_us v0 (1 : Int)) &&& (6148914691236517205 : Int64))) &&& (3689348814741910323 : Int64)) + ((zt_us (v0 - ((zt_us v0 (1 : Int)) &&& (6148914691236517205 : Int64))) (2 : Int)) &&& (3689348814741910323 : Int64))) (4 : Int))) &&& (1085102592571150095 : Int64)) (8 : Int))) + (zt_us ((((((v0 - ((zt_us v0 (1 : Int)) &&& (6148914691236517205 : Int64))) &&& (3689348814741910323 : Int64)) + ((zt_us (v0 - ((zt_us v0 (1 : Int)) &&& (6148914691236517205 : Int64))) (2 : Int)) &&& (3689348814741910323 : Int64))) + (zt_us (((v0 - ((zt_us v0 (1 : Int)) &&& (6148914691236517205 : Int64))) &&& (3689348814741910323 : Int64)) + ((zt_us (v0 - ((zt_us v0 (1 : Int)) &&& (6148914691236517205 : Int64))) (2 : Int)) &&& (3689348814741910323 : Int64))) (4 : Int))) &&& (1085102592571150095 : Int64)) + (zt_us (((((v0 - ((zt_us v0 (1 : Int)) &&& (6148914691236517205 : Int64))) &&& (3689348814741910323 : Int64)) + ((zt_us (v0 - ((zt_us v0 (1 : Int)) &&& (6148914691236517205 : Int64))) (2 : Int)) &&& (3689348814741910323 : Int64))) + (zt_us (((v0 - ((zt_us v0 (1 : Int)) &&& (6148914691236517205 : Int64))) &&& (3689348814741910323 : Int64)) + ((zt_us (v0 - ((zt_us v0 (1 : Int)) &&& (6148914691236517205 : Int64))) (2 : Int)) &&& (3689348814741910323 : Int64))) (4 : Int))) &&& (1085102592571150095 : Int64)) (8 : Int))) (16 : Int))) (32 : Int)))) rfl ?_
  refine zt_l2i zy_352 (show q_ins q_k352 56 = some (.l2i, 0, 0) from rfl) ?_
  refine zt_bipush zy_352 (show q_ins q_k352 57 = some (.bipush 127, 0, 0) from rfl) (by decide) ?_
  refine zt_iand zy_352 (show q_ins q_k352 59 = some (.iand, 0, 0) from rfl) ?_
  cases h
  exact zt_iret zy_352 (show q_ins q_k352 60 = some (.ireturn, 0, 0) from rfl)
theorem S_SS_isOpen_30 {X : q_X}   : ∀ (x0 : Int) (σ : zt_S) (o : (Int × zt_S)), F_SS_isOpen_30  x0 σ = some o → zt_Ex X 2 39 30 [] [.int (Int32.ofInt x0)] (zt_M σ) (zo_I o) := by
  intro x0 σ o  h
  unfold F_SS_isOpen_30 at h
  obtain ⟨hg, h⟩ := zt_ckE h
  cases h
  exact zt_zret zy_39 (show q_ins q_k39 30 = some (.ireturn, 0, 0) from rfl) hg
theorem S_SS_isOpen_29 {X : q_X}   : ∀  (σ : zt_S) (o : (Int × zt_S)), F_SS_isOpen_29   σ = some o → zt_Ex X 2 39 29 [] [] (zt_M σ) (zo_I o) := by
  intro  σ o  h
  unfold F_SS_isOpen_29 at h
  refine zt_iconst zy_39 (show q_ins q_k39 29 = some (.iconst 0, 0, 0) from rfl) ?_
  exact zt_wk (zt_cov_nil) (S_SS_isOpen_30  _ _ _ h)
theorem S_SS_isOpen {X : q_X}    {σ : zt_S} {o : (Int × zt_S)} (h : F_SS_isOpen   σ = some o) : zt_Ex X 2 39 0 (lv_args 0 [.ref 144]) [] (zt_M σ) (zo_I o) := by
  unfold F_SS_isOpen at h
  refine zt_aload_n zy_39 (show q_ins q_k39 0 = some (.aload_n 0, 0, 0) from rfl) (v := 144) rfl ?_
  refine zt_getR zy_39 (show q_ins q_k39 1 = some (.getfield 25, 5, 0) from rfl) (r := 6) zk_144_0 ?_
  obtain ⟨a1, s2, hca1, h⟩ := zt_bdE h
  refine zt_callV (d := 1) zy_39 (show q_ins q_k39 4 = some (.invokevirtual 37, 64, 0) from rfl) zy_64 (by decide) ⟨zq_lt (by decide), by decide⟩ rfl (by simp [Value.category]) (by simp [lg_sl, Value.category]) (zt_rcv zc_6) (zt_dm (by decide) (S_Tb_isOver (by decide) hca1)) ?_
  obtain ⟨hg, h⟩ := zt_ckE h
  refine zt_if_ne zy_39 (show q_ins q_k39 7 = some (.ifCond .ne 22, 29, 0) from rfl) (hg) (fun hc => ?_) (fun hc => ?_)
  · rw [if_pos hc] at h
    refine zt_aload_n zy_39 (show q_ins q_k39 10 = some (.aload_n 0, 0, 0) from rfl) (v := 144) rfl ?_
    refine zt_getR zy_39 (show q_ins q_k39 11 = some (.getfield 25, 5, 0) from rfl) (r := 6) zk_144_0 ?_
    obtain ⟨a3, s4, hca3, h⟩ := zt_bdE h
    refine zt_callV (d := 1) zy_39 (show q_ins q_k39 14 = some (.invokevirtual 41, 62, 0) from rfl) zy_62 (by decide) ⟨zq_lt (by decide), by decide⟩ rfl (by simp [Value.category]) (by simp [lg_sl, Value.category]) (zt_rcv zc_6) (zt_dm (by decide) (S_Tb_allHands (by decide) hca3)) ?_
    obtain ⟨a5, s6, hca5, h⟩ := zt_bdE h
    refine zt_callS (d := 1) zy_39 (show q_ins q_k39 17 = some (.invokestatic 45, 352, 1) from rfl) zy_352 (by decide) ⟨zq_lt (by decide), by decide⟩ rfl (by simp [Value.category]) (by simp [lg_sl, Value.category]) rfl (zt_dm (by decide) (S_J_bitCount hca5)) ?_
    refine zt_bipush zy_39 (show q_ins q_k39 20 = some (.bipush 12, 0, 0) from rfl) (by decide) ?_
    obtain ⟨hg, h⟩ := zt_ckE h
    refine zt_icmp_gt zy_39 (show q_ins q_k39 22 = some (.if_icmp .gt 7, 29, 0) from rfl) (⟨hg, by decide⟩) (fun hc => ?_) (fun hc => ?_)
    · rw [if_pos hc] at h
      exact zt_wk (zt_cov_nil) (S_SS_isOpen_29  _ _ h)
    · rw [if_neg hc] at h
      refine zt_iconst zy_39 (show q_ins q_k39 25 = some (.iconst 1, 0, 0) from rfl) ?_
      refine zt_goto zy_39 (show q_ins q_k39 26 = some (.goto 4, 30, 0) from rfl) ?_
      exact zt_wk (zt_cov_nil) (S_SS_isOpen_30  _ _ _ h)
  · rw [if_neg hc] at h
    exact zt_wk (zt_cov_nil) (S_SS_isOpen_29  _ _ h)
theorem S_SS_trickAt_22 {X : q_X}   : ∀  (σ : zt_S) (o : (Nat × zt_S)), F_SS_trickAt_22   σ = some o → zt_Ex X 0 42 22 [] [] (zt_M σ) (zo_R o) := by
  intro  σ o  h
  unfold F_SS_trickAt_22 at h
  cases h
theorem S_SS_trickAt {X : q_X}   {v1 : Int} {σ : zt_S} {o : (Nat × zt_S)} (h : F_SS_trickAt  v1 σ = some o) : zt_Ex X 0 42 0 (lv_args 0 [.ref 144, .int (Int32.ofInt v1)]) [] (zt_M σ) (zo_R o) := by
  unfold F_SS_trickAt at h
  refine zt_iload_n zy_42 (show q_ins q_k42 0 = some (.iload_n 1, 0, 0) from rfl) (v := Int32.ofInt v1) rfl ?_
  obtain ⟨hg, h⟩ := zt_ckE h
  refine zt_if_lt zy_42 (show q_ins q_k42 1 = some (.ifCond .lt 21, 22, 0) from rfl) (hg) (fun hc => ?_) (fun hc => ?_)
  · rw [if_pos hc] at h
    exact zt_wk (zt_cov_nil) (S_SS_trickAt_22  _ _ h)
  · rw [if_neg hc] at h
    refine zt_iload_n zy_42 (show q_ins q_k42 4 = some (.iload_n 1, 0, 0) from rfl) (v := Int32.ofInt v1) rfl ?_
    refine zt_aload_n zy_42 (show q_ins q_k42 5 = some (.aload_n 0, 0, 0) from rfl) (v := 144) rfl ?_
    refine zt_getR zy_42 (show q_ins q_k42 6 = some (.getfield 13, 5, 2) from rfl) (r := 145) zk_144_2 ?_
    refine zt_alen zy_42 (show q_ins q_k42 9 = some (.arraylength, 0, 0) from rfl) za_145 (by decide) ?_
    obtain ⟨hg, h⟩ := zt_ckE h
    refine zt_icmp_ge zy_42 (show q_ins q_k42 10 = some (.if_icmp .ge 12, 22, 0) from rfl) (⟨hg, by decide⟩) (fun hc => ?_) (fun hc => ?_)
    · rw [if_pos hc] at h
      refine zt_aload_n zy_42 (show q_ins q_k42 13 = some (.aload_n 0, 0, 0) from rfl) (v := 144) rfl ?_
      refine zt_getR zy_42 (show q_ins q_k42 14 = some (.getfield 13, 5, 2) from rfl) (r := 145) zk_144_2 ?_
      refine zt_iload_n zy_42 (show q_ins q_k42 17 = some (.iload_n 1, 0, 0) from rfl) (v := Int32.ofInt v1) rfl ?_
      obtain ⟨hg1, h⟩ := zt_ckE h
      refine zt_rld zy_42 (show q_ins q_k42 18 = some (.aaload, 0, 0) from rfl) za_145 (by decide) (by decide) hg1 (zg_145 hg1) ?_
      refine zt_goto zy_42 (show q_ins q_k42 19 = some (.goto 4, 23, 0) from rfl) ?_
      cases h
      exact zt_aret zy_42 (show q_ins q_k42 23 = some (.areturn, 0, 0) from rfl)
    · rw [if_neg hc] at h
      exact zt_wk (zt_cov_nil) (S_SS_trickAt_22  _ _ h)
theorem S_SS_listCards_48 {X : q_X}   {r7 : Int64 → Int → zt_S → Option (Unit × zt_S)} (hr7 : ∀ (v1 : Int64) (v3 : Int) (σ : zt_S) (o : (Unit × zt_S)), r7 v1 v3 σ = some o → zt_Ex X 1 41 7 [(0, .ref 144), (1, .long v1), (3, .int (Int32.ofInt v3))] [] (zt_M σ) (zo_V o)) : ∀ (v1 : Int64) (v3 : Int) (σ : zt_S) (o : (Unit × zt_S)), F_SS_listCards_48  r7 v1 v3 σ = some o → zt_Ex X 1 41 48 [(0, .ref 144), (1, .long v1), (3, .int (Int32.ofInt v3))] [] (zt_M σ) (zo_V o) := by
  intro v1 v3 σ o  h
  unfold F_SS_listCards_48 at h
  refine zt_iinc zy_41 (show q_ins q_k41 48 = some (.iinc 3 1, 0, 0) from rfl) (v := v3) (by decide) rfl ?_
  refine zt_goto zy_41 (show q_ins q_k41 51 = some (.goto (-44), 7, 0) from rfl) ?_
  exact zt_wk (zt_cov_cons rfl (zt_cov_cons rfl (zt_cov_cons rfl (zt_cov_nil)))) (hr7 _ _ _ _ h)
theorem S_SS_listCards_7 {X : q_X}   : ∀ (n : Nat) (v1 : Int64) (v3 : Int) (σ : zt_S) (o : (Unit × zt_S)), F_SS_listCards_7  n v1 v3 σ = some o → zt_Ex X 1 41 7 [(0, .ref 144), (1, .long v1), (3, .int (Int32.ofInt v3))] [] (zt_M σ) (zo_V o) := by
  intro n
  induction n with
  | zero => intro v1 v3 σ o  h; cases h
  | succ n ih =>
  intro v1 v3 σ o  h
  rw [F_SS_listCards_7] at h
  refine zt_iload_n zy_41 (show q_ins q_k41 7 = some (.iload_n 3, 0, 0) from rfl) (v := Int32.ofInt v3) rfl ?_
  refine zt_aload_n zy_41 (show q_ins q_k41 8 = some (.aload_n 0, 0, 0) from rfl) (v := 144) rfl ?_
  refine zt_getR zy_41 (show q_ins q_k41 9 = some (.getfield 35, 5, 1) from rfl) (r := 3) zk_144_1 ?_
  obtain ⟨a2, s3, hca2, h⟩ := zt_bdE h
  refine zt_callV (d := 0) zy_41 (show q_ins q_k41 12 = some (.invokevirtual 88, 30, 0) from rfl) zy_30 (by decide) ⟨zq_lt (by decide), by decide⟩ rfl (by simp [Value.category]) (by simp [lg_sl, Value.category]) (zt_rcv zc_3) (zt_dm (by decide) (S_Su_cardCount (by decide) hca2)) ?_
  obtain ⟨hg, h⟩ := zt_ckE h
  refine zt_icmp_ge zy_41 (show q_ins q_k41 15 = some (.if_icmp .ge 39, 54, 0) from rfl) (⟨hg.1, hg.2⟩) (fun hc => ?_) (fun hc => ?_)
  · rw [if_pos hc] at h
    refine zt_lload_n zy_41 (show q_ins q_k41 18 = some (.lload_n 1, 0, 0) from rfl) (v := v1) rfl ?_
    refine zt_iload_n zy_41 (show q_ins q_k41 19 = some (.iload_n 3, 0, 0) from rfl) (v := Int32.ofInt v3) rfl ?_
    obtain ⟨a4, s5, hca4, h⟩ := zt_bdE h
    refine zt_callS (d := 0) zy_41 (show q_ins q_k41 20 = some (.invokestatic 94, 314, 2) from rfl) zy_314 (by decide) ⟨zq_lt (by decide), by decide⟩ rfl (by simp [Value.category]) (by simp [lg_sl, Value.category]) rfl (zt_dm (by decide) (S_Rw_has hca4)) ?_
    obtain ⟨hg, h⟩ := zt_ckE h
    refine zt_if_eq zy_41 (show q_ins q_k41 23 = some (.ifCond .eq 25, 48, 0) from rfl) (hg) (fun hc => ?_) (fun hc => ?_)
    · rw [if_pos hc] at h
      exact zt_wk (zt_cov_cons rfl (zt_cov_cons rfl (zt_cov_cons rfl (zt_cov_nil)))) (S_SS_listCards_48  ih _ _ _ _ h)
    · rw [if_neg hc] at h
      refine zt_aload_n zy_41 (show q_ins q_k41 26 = some (.aload_n 0, 0, 0) from rfl) (v := 144) rfl ?_
      refine zt_getR zy_41 (show q_ins q_k41 27 = some (.getfield 17, 5, 3) from rfl) (r := 146) zk_144_3 ?_
      refine zt_aload_n zy_41 (show q_ins q_k41 30 = some (.aload_n 0, 0, 0) from rfl) (v := 144) rfl ?_
      refine zt_getI zy_41 (show q_ins q_k41 31 = some (.getfield 85, 5, 6) from rfl) (j := 6) zk_144_6 rfl ?_
      refine zt_iload_n zy_41 (show q_ins q_k41 34 = some (.iload_n 3, 0, 0) from rfl) (v := Int32.ofInt v3) rfl ?_
      obtain ⟨a6, s7, hca6, h⟩ := zt_bdE h
      refine zt_callS (d := 0) zy_41 (show q_ins q_k41 35 = some (.invokestatic 100, 310, 3) from rfl) zy_310 (by decide) ⟨zq_lt (by decide), by decide⟩ rfl (by simp [Value.category]) (by simp [lg_sl, Value.category]) rfl (zt_dm (by decide) (S_Rw_set za_146 (by decide) hca6)) ?_
      refine zt_aload_n zy_41 (show q_ins q_k41 38 = some (.aload_n 0, 0, 0) from rfl) (v := 144) rfl ?_
      refine zt_dup zy_41 (show q_ins q_k41 39 = some (.dup, 0, 0) from rfl) rfl ?_
      refine zt_getI zy_41 (show q_ins q_k41 40 = some (.getfield 85, 5, 6) from rfl) (j := 6) zk_144_6 rfl ?_
      refine zt_iconst zy_41 (show q_ins q_k41 43 = some (.iconst 1, 0, 0) from rfl) ?_
      refine zt_iadd zy_41 (show q_ins q_k41 44 = some (.iadd, 0, 0) from rfl) ?_
      obtain ⟨s8, hs8, h⟩ := zt_letE h
      refine zt_putI zy_41 (show q_ins q_k41 45 = some (.putfield 85, 5, 6) from rfl) (j := 6) zk_144_6 rfl rfl rfl ?_
      rw [← hs8]
      exact zt_wk (zt_cov_cons rfl (zt_cov_cons rfl (zt_cov_cons rfl (zt_cov_nil)))) (S_SS_listCards_48  ih _ _ _ _ h)
  · rw [if_neg hc] at h
    cases h
    exact zt_ret zy_41 (show q_ins q_k41 54 = some (.return_, 0, 0) from rfl)
theorem S_SS_listCards {X : q_X}   {v1 : Int64} {σ : zt_S} {o : (Unit × zt_S)} (h : F_SS_listCards  v1 σ = some o) : zt_Ex X 1 41 0 (lv_args 0 [.ref 144, .long v1]) [] (zt_M σ) (zo_V o) := by
  unfold F_SS_listCards at h
  refine zt_aload_n zy_41 (show q_ins q_k41 0 = some (.aload_n 0, 0, 0) from rfl) (v := 144) rfl ?_
  refine zt_iconst zy_41 (show q_ins q_k41 1 = some (.iconst 0, 0, 0) from rfl) ?_
  obtain ⟨s1, hs1, h⟩ := zt_letE h
  refine zt_putI zy_41 (show q_ins q_k41 2 = some (.putfield 85, 5, 6) from rfl) (j := 6) zk_144_6 rfl rfl rfl ?_
  rw [← hs1]
  refine zt_iconst zy_41 (show q_ins q_k41 5 = some (.iconst 0, 0, 0) from rfl) ?_
  refine zt_istore_n zy_41 (show q_ins q_k41 6 = some (.istore_n 3, 0, 0) from rfl) (by decide) ?_
  exact zt_wk (zt_cov_cons rfl (zt_cov_cons rfl (zt_cov_cons rfl (zt_cov_nil)))) (S_SS_listCards_7  _ _ _ _ _ h)
theorem S_SS_placeOf_40 {X : q_X}   {r6 : Int64 → Int → Int → Int → zt_S → Option (Int × zt_S)} (hr6 : ∀ (v1 : Int64) (v3 : Int) (v4 : Int) (v5 : Int) (σ : zt_S) (o : (Int × zt_S)), r6 v1 v3 v4 v5 σ = some o → zt_Ex X 1 46 6 [(0, .ref 144), (1, .long v1), (3, .int (Int32.ofInt v3)), (4, .int (Int32.ofInt v4)), (5, .int (Int32.ofInt v5))] [] (zt_M σ) (zo_I o)) : ∀ (v1 : Int64) (v3 : Int) (v4 : Int) (v5 : Int) (σ : zt_S) (o : (Int × zt_S)), F_SS_placeOf_40  r6 v1 v3 v4 v5 σ = some o → zt_Ex X 1 46 40 [(0, .ref 144), (1, .long v1), (3, .int (Int32.ofInt v3)), (4, .int (Int32.ofInt v4)), (5, .int (Int32.ofInt v5))] [] (zt_M σ) (zo_I o) := by
  intro v1 v3 v4 v5 σ o  h
  unfold F_SS_placeOf_40 at h
  refine zt_iinc zy_46 (show q_ins q_k46 40 = some (.iinc 5 1, 0, 0) from rfl) (v := v5) (by decide) rfl ?_
  refine zt_goto zy_46 (show q_ins q_k46 43 = some (.goto (-37), 6, 0) from rfl) ?_
  exact zt_wk (zt_cov_cons rfl (zt_cov_cons rfl (zt_cov_cons rfl (zt_cov_cons rfl (zt_cov_cons rfl (zt_cov_nil)))))) (hr6 _ _ _ _ _ _ h)
theorem S_SS_placeOf_6 {X : q_X}   : ∀ (n : Nat) (v1 : Int64) (v3 : Int) (v4 : Int) (v5 : Int) (σ : zt_S) (o : (Int × zt_S)), F_SS_placeOf_6  n v1 v3 v4 v5 σ = some o → zt_Ex X 1 46 6 [(0, .ref 144), (1, .long v1), (3, .int (Int32.ofInt v3)), (4, .int (Int32.ofInt v4)), (5, .int (Int32.ofInt v5))] [] (zt_M σ) (zo_I o) := by
  intro n
  induction n with
  | zero => intro v1 v3 v4 v5 σ o  h; cases h
  | succ n ih =>
  intro v1 v3 v4 v5 σ o  h
  rw [F_SS_placeOf_6] at h
  refine zt_iload zy_46 (show q_ins q_k46 6 = some (.iload 5, 0, 0) from rfl) (v := Int32.ofInt v5) rfl ?_
  refine zt_aload_n zy_46 (show q_ins q_k46 8 = some (.aload_n 0, 0, 0) from rfl) (v := 144) rfl ?_
  refine zt_getI zy_46 (show q_ins q_k46 9 = some (.getfield 85, 5, 6) from rfl) (j := 6) zk_144_6 rfl ?_
  obtain ⟨hg, h⟩ := zt_ckE h
  refine zt_icmp_ge zy_46 (show q_ins q_k46 12 = some (.if_icmp .ge 34, 46, 0) from rfl) (⟨hg.1, hg.2⟩) (fun hc => ?_) (fun hc => ?_)
  · rw [if_pos hc] at h
    refine zt_lload_n zy_46 (show q_ins q_k46 15 = some (.lload_n 1, 0, 0) from rfl) (v := v1) rfl ?_
    refine zt_aload_n zy_46 (show q_ins q_k46 16 = some (.aload_n 0, 0, 0) from rfl) (v := 144) rfl ?_
    refine zt_getR zy_46 (show q_ins q_k46 17 = some (.getfield 17, 5, 3) from rfl) (r := 146) zk_144_3 ?_
    refine zt_iload zy_46 (show q_ins q_k46 20 = some (.iload 5, 0, 0) from rfl) (v := Int32.ofInt v5) rfl ?_
    obtain ⟨a1, s2, hca1, h⟩ := zt_bdE h
    refine zt_callS (d := 0) zy_46 (show q_ins q_k46 22 = some (.invokestatic 140, 309, 2) from rfl) zy_309 (by decide) ⟨zq_lt (by decide), by decide⟩ rfl (by simp [Value.category]) (by simp [lg_sl, Value.category]) rfl (zt_dm (by decide) (S_Rw_at za_146 (by decide) hca1)) ?_
    obtain ⟨a3, s4, hca3, h⟩ := zt_bdE h
    refine zt_callS (d := 0) zy_46 (show q_ins q_k46 25 = some (.invokestatic 94, 314, 2) from rfl) zy_314 (by decide) ⟨zq_lt (by decide), by decide⟩ rfl (by simp [Value.category]) (by simp [lg_sl, Value.category]) rfl (zt_dm (by decide) (S_Rw_has hca3)) ?_
    obtain ⟨hg, h⟩ := zt_ckE h
    refine zt_if_eq zy_46 (show q_ins q_k46 28 = some (.ifCond .eq 12, 40, 0) from rfl) (hg) (fun hc => ?_) (fun hc => ?_)
    · rw [if_pos hc] at h
      exact zt_wk (zt_cov_cons rfl (zt_cov_cons rfl (zt_cov_cons rfl (zt_cov_cons rfl (zt_cov_cons rfl (zt_cov_nil)))))) (S_SS_placeOf_40  ih _ _ _ _ _ _ h)
    · rw [if_neg hc] at h
      refine zt_iload zy_46 (show q_ins q_k46 31 = some (.iload 4, 0, 0) from rfl) (v := Int32.ofInt v4) rfl ?_
      refine zt_iconst zy_46 (show q_ins q_k46 33 = some (.iconst 1, 0, 0) from rfl) ?_
      refine zt_iload zy_46 (show q_ins q_k46 34 = some (.iload 5, 0, 0) from rfl) (v := Int32.ofInt v5) rfl ?_
      refine zt_ishl zy_46 (show q_ins q_k46 36 = some (.ishl, 0, 0) from rfl) ?_
      refine zt_ior zy_46 (show q_ins q_k46 37 = some (.ior, 0, 0) from rfl) ?_
      refine zt_istore zy_46 (show q_ins q_k46 38 = some (.istore 4, 0, 0) from rfl) (by decide) ?_
      exact zt_wk (zt_cov_cons rfl (zt_cov_cons rfl (zt_cov_cons rfl (zt_cov_cons rfl (zt_cov_cons rfl (zt_cov_nil)))))) (S_SS_placeOf_40  ih _ _ _ _ _ _ h)
  · rw [if_neg hc] at h
    refine zt_iload zy_46 (show q_ins q_k46 46 = some (.iload 4, 0, 0) from rfl) (v := Int32.ofInt v4) rfl ?_
    refine zt_iconst zy_46 (show q_ins q_k46 48 = some (.iconst 4, 0, 0) from rfl) ?_
    refine zt_imul zy_46 (show q_ins q_k46 49 = some (.imul, 0, 0) from rfl) ?_
    refine zt_iload_n zy_46 (show q_ins q_k46 50 = some (.iload_n 3, 0, 0) from rfl) (v := Int32.ofInt v3) rfl ?_
    refine zt_iadd zy_46 (show q_ins q_k46 51 = some (.iadd, 0, 0) from rfl) ?_
    cases h
    exact zt_iret zy_46 (show q_ins q_k46 52 = some (.ireturn, 0, 0) from rfl)
theorem S_SS_placeOf {X : q_X}   {v1 : Int64} {v3 : Int} {σ : zt_S} {o : (Int × zt_S)} (h : F_SS_placeOf  v1 v3 σ = some o) : zt_Ex X 1 46 0 (lv_args 0 [.ref 144, .long v1, .int (Int32.ofInt v3)]) [] (zt_M σ) (zo_I o) := by
  unfold F_SS_placeOf at h
  refine zt_iconst zy_46 (show q_ins q_k46 0 = some (.iconst 0, 0, 0) from rfl) ?_
  refine zt_istore zy_46 (show q_ins q_k46 1 = some (.istore 4, 0, 0) from rfl) (by decide) ?_
  refine zt_iconst zy_46 (show q_ins q_k46 3 = some (.iconst 0, 0, 0) from rfl) ?_
  refine zt_istore zy_46 (show q_ins q_k46 4 = some (.istore 5, 0, 0) from rfl) (by decide) ?_
  exact zt_wk (zt_cov_cons rfl (zt_cov_cons rfl (zt_cov_cons rfl (zt_cov_cons rfl (zt_cov_cons rfl (zt_cov_nil)))))) (S_SS_placeOf_6  _ _ _ _ _ _ _ h)
theorem S_SS_recall_30 {X : q_X}   : ∀  (σ : zt_S) (o : (Int × zt_S)), F_SS_recall_30   σ = some o → zt_Ex X 0 47 30 [] [] (zt_M σ) (zo_I o) := by
  intro  σ o  h
  unfold F_SS_recall_30 at h
  refine zt_iconst zy_47 (show q_ins q_k47 30 = some (.iconst 0, 0, 0) from rfl) ?_
  cases h
  exact zt_iret zy_47 (show q_ins q_k47 31 = some (.ireturn, 0, 0) from rfl)
theorem S_SS_recall {X : q_X}   {v1 : Int} {v2 : Int} {σ : zt_S} {o : (Int × zt_S)} (h : F_SS_recall  v1 v2 σ = some o) : zt_Ex X 0 47 0 (lv_args 0 [.ref 144, .int (Int32.ofInt v1), .int (Int32.ofInt v2)]) [] (zt_M σ) (zo_I o) := by
  unfold F_SS_recall at h
  refine zt_iload_n zy_47 (show q_ins q_k47 0 = some (.iload_n 1, 0, 0) from rfl) (v := Int32.ofInt v1) rfl ?_
  obtain ⟨hg, h⟩ := zt_ckE h
  refine zt_if_lt zy_47 (show q_ins q_k47 1 = some (.ifCond .lt 29, 30, 0) from rfl) (hg) (fun hc => ?_) (fun hc => ?_)
  · rw [if_pos hc] at h
    exact zt_wk (zt_cov_nil) (S_SS_recall_30  _ _ h)
  · rw [if_neg hc] at h
    refine zt_iload_n zy_47 (show q_ins q_k47 4 = some (.iload_n 1, 0, 0) from rfl) (v := Int32.ofInt v1) rfl ?_
    refine zt_aload_n zy_47 (show q_ins q_k47 5 = some (.aload_n 0, 0, 0) from rfl) (v := 144) rfl ?_
    refine zt_getR zy_47 (show q_ins q_k47 6 = some (.getfield 21, 5, 4) from rfl) (r := 147) zk_144_4 ?_
    refine zt_alen zy_47 (show q_ins q_k47 9 = some (.arraylength, 0, 0) from rfl) za_147 (by decide) ?_
    obtain ⟨hg, h⟩ := zt_ckE h
    refine zt_icmp_ge zy_47 (show q_ins q_k47 10 = some (.if_icmp .ge 20, 30, 0) from rfl) (⟨hg, by decide⟩) (fun hc => ?_) (fun hc => ?_)
    · rw [if_pos hc] at h
      refine zt_aload_n zy_47 (show q_ins q_k47 13 = some (.aload_n 0, 0, 0) from rfl) (v := 144) rfl ?_
      refine zt_getR zy_47 (show q_ins q_k47 14 = some (.getfield 21, 5, 4) from rfl) (r := 147) zk_144_4 ?_
      refine zt_iload_n zy_47 (show q_ins q_k47 17 = some (.iload_n 1, 0, 0) from rfl) (v := Int32.ofInt v1) rfl ?_
      obtain ⟨hg, h⟩ := zt_ckE h
      refine zt_lld zy_47 (show q_ins q_k47 18 = some (.laload, 0, 0) from rfl) za_147 (by decide) hg ?_
      refine zt_bipush zy_47 (show q_ins q_k47 19 = some (.bipush 20, 0, 0) from rfl) (by decide) ?_
      refine zt_lshr zy_47 (show q_ins q_k47 21 = some (.lshr, 0, 0) from rfl) ?_
      refine zt_aload_n zy_47 (show q_ins q_k47 22 = some (.aload_n 0, 0, 0) from rfl) (v := 144) rfl ?_
      refine zt_getL zy_47 (show q_ins q_k47 23 = some (.getfield 73, 5, 5) from rfl) (j := 5) zk_144_5 rfl ?_
      refine zt_lcmp zy_47 (show q_ins q_k47 26 = some (.lcmp, 0, 0) from rfl) ?_
      refine zt_if_eq zy_47 (show q_ins q_k47 27 = some (.ifCond .eq 5, 32, 0) from rfl) (zt_inT _) (fun hc => ?_) (fun hc => ?_)
      · rw [if_pos hc] at h
        refine zt_aload_n zy_47 (show q_ins q_k47 32 = some (.aload_n 0, 0, 0) from rfl) (v := 144) rfl ?_
        refine zt_getR zy_47 (show q_ins q_k47 33 = some (.getfield 21, 5, 4) from rfl) (r := 147) zk_144_4 ?_
        refine zt_iload_n zy_47 (show q_ins q_k47 36 = some (.iload_n 1, 0, 0) from rfl) (v := Int32.ofInt v1) rfl ?_
        obtain ⟨hg, h⟩ := zt_ckE h
        refine zt_lld zy_47 (show q_ins q_k47 37 = some (.laload, 0, 0) from rfl) za_147 (by decide) hg ?_
        refine zt_iload_n zy_47 (show q_ins q_k47 38 = some (.iload_n 2, 0, 0) from rfl) (v := Int32.ofInt v2) rfl ?_
        refine zt_lshr zy_47 (show q_ins q_k47 39 = some (.lshr, 0, 0) from rfl) ?_
        refine zt_ldc2 zy_47 (show q_ins q_k47 40 = some (.ldc2_w 173, 0, 15) from rfl) (v := (15 : Int64)) (by decide) ?_
        refine zt_land zy_47 (show q_ins q_k47 43 = some (.land, 0, 0) from rfl) ?_
        refine zt_l2i zy_47 (show q_ins q_k47 44 = some (.l2i, 0, 0) from rfl) ?_
        cases h
        exact zt_iret zy_47 (show q_ins q_k47 45 = some (.ireturn, 0, 0) from rfl)
      · rw [if_neg hc] at h
        exact zt_wk (zt_cov_nil) (S_SS_recall_30  _ _ h)
    · rw [if_neg hc] at h
      exact zt_wk (zt_cov_nil) (S_SS_recall_30  _ _ h)
theorem S_SS_remember_13 {X : q_X}   : ∀  (σ : zt_S) (o : (Unit × zt_S)), F_SS_remember_13   σ = some o → zt_Ex X 0 48 13 [] [] (zt_M σ) (zo_V o) := by
  intro  σ o  h
  unfold F_SS_remember_13 at h
  cases h
  exact zt_ret zy_48 (show q_ins q_k48 13 = some (.return_, 0, 0) from rfl)
theorem S_SS_remember_44 {X : q_X}   : ∀ (v1 : Int) (v2 : Int) (v3 : Int) (σ : zt_S) (o : (Unit × zt_S)), F_SS_remember_44  v1 v2 v3 σ = some o → zt_Ex X 0 48 44 [(0, .ref 144), (1, .int (Int32.ofInt v1)), (2, .int (Int32.ofInt v2)), (3, .int (Int32.ofInt v3))] [] (zt_M σ) (zo_V o) := by
  intro v1 v2 v3 σ o  h
  unfold F_SS_remember_44 at h
  refine zt_aload_n zy_48 (show q_ins q_k48 44 = some (.aload_n 0, 0, 0) from rfl) (v := 144) rfl ?_
  refine zt_getR zy_48 (show q_ins q_k48 45 = some (.getfield 21, 5, 4) from rfl) (r := 147) zk_144_4 ?_
  refine zt_iload_n zy_48 (show q_ins q_k48 48 = some (.iload_n 1, 0, 0) from rfl) (v := Int32.ofInt v1) rfl ?_
  refine zt_dup2 zy_48 (show q_ins q_k48 49 = some (.dup2, 0, 0) from rfl) ⟨rfl, rfl⟩ ?_
  obtain ⟨hg, h⟩ := zt_ckE h
  refine zt_lld zy_48 (show q_ins q_k48 50 = some (.laload, 0, 0) from rfl) za_147 (by decide) hg ?_
  refine zt_iload_n zy_48 (show q_ins q_k48 51 = some (.iload_n 3, 0, 0) from rfl) (v := Int32.ofInt v3) rfl ?_
  refine zt_i2l zy_48 (show q_ins q_k48 52 = some (.i2l, 0, 0) from rfl) ?_
  refine zt_iload_n zy_48 (show q_ins q_k48 53 = some (.iload_n 2, 0, 0) from rfl) (v := Int32.ofInt v2) rfl ?_
  refine zt_lshl zy_48 (show q_ins q_k48 54 = some (.lshl, 0, 0) from rfl) ?_
  refine zt_lor zy_48 (show q_ins q_k48 55 = some (.lor, 0, 0) from rfl) ?_
  obtain ⟨hg, h⟩ := zt_ckE h
  obtain ⟨s1, hs1, h⟩ := zt_letE h
  refine zt_lst zy_48 (show q_ins q_k48 56 = some (.lastore, 0, 0) from rfl) za_147 (by decide) hg ?_
  rw [← hs1]
  cases h
  exact zt_ret zy_48 (show q_ins q_k48 57 = some (.return_, 0, 0) from rfl)
theorem S_SS_remember {X : q_X}   {v1 : Int} {v2 : Int} {v3 : Int} {σ : zt_S} {o : (Unit × zt_S)} (h : F_SS_remember  v1 v2 v3 σ = some o) : zt_Ex X 0 48 0 (lv_args 0 [.ref 144, .int (Int32.ofInt v1), .int (Int32.ofInt v2), .int (Int32.ofInt v3)]) [] (zt_M σ) (zo_V o) := by
  unfold F_SS_remember at h
  refine zt_iload_n zy_48 (show q_ins q_k48 0 = some (.iload_n 1, 0, 0) from rfl) (v := Int32.ofInt v1) rfl ?_
  obtain ⟨hg, h⟩ := zt_ckE h
  refine zt_if_lt zy_48 (show q_ins q_k48 1 = some (.ifCond .lt 12, 13, 0) from rfl) (hg) (fun hc => ?_) (fun hc => ?_)
  · rw [if_pos hc] at h
    exact zt_wk (zt_cov_nil) (S_SS_remember_13  _ _ h)
  · rw [if_neg hc] at h
    refine zt_iload_n zy_48 (show q_ins q_k48 4 = some (.iload_n 1, 0, 0) from rfl) (v := Int32.ofInt v1) rfl ?_
    refine zt_aload_n zy_48 (show q_ins q_k48 5 = some (.aload_n 0, 0, 0) from rfl) (v := 144) rfl ?_
    refine zt_getR zy_48 (show q_ins q_k48 6 = some (.getfield 21, 5, 4) from rfl) (r := 147) zk_144_4 ?_
    refine zt_alen zy_48 (show q_ins q_k48 9 = some (.arraylength, 0, 0) from rfl) za_147 (by decide) ?_
    obtain ⟨hg, h⟩ := zt_ckE h
    refine zt_icmp_lt zy_48 (show q_ins q_k48 10 = some (.if_icmp .lt 4, 14, 0) from rfl) (⟨hg, by decide⟩) (fun hc => ?_) (fun hc => ?_)
    · rw [if_pos hc] at h
      refine zt_aload_n zy_48 (show q_ins q_k48 14 = some (.aload_n 0, 0, 0) from rfl) (v := 144) rfl ?_
      refine zt_getR zy_48 (show q_ins q_k48 15 = some (.getfield 21, 5, 4) from rfl) (r := 147) zk_144_4 ?_
      refine zt_iload_n zy_48 (show q_ins q_k48 18 = some (.iload_n 1, 0, 0) from rfl) (v := Int32.ofInt v1) rfl ?_
      obtain ⟨hg, h⟩ := zt_ckE h
      refine zt_lld zy_48 (show q_ins q_k48 19 = some (.laload, 0, 0) from rfl) za_147 (by decide) hg ?_
      refine zt_bipush zy_48 (show q_ins q_k48 20 = some (.bipush 20, 0, 0) from rfl) (by decide) ?_
      refine zt_lshr zy_48 (show q_ins q_k48 22 = some (.lshr, 0, 0) from rfl) ?_
      refine zt_aload_n zy_48 (show q_ins q_k48 23 = some (.aload_n 0, 0, 0) from rfl) (v := 144) rfl ?_
      refine zt_getL zy_48 (show q_ins q_k48 24 = some (.getfield 73, 5, 5) from rfl) (j := 5) zk_144_5 rfl ?_
      refine zt_lcmp zy_48 (show q_ins q_k48 27 = some (.lcmp, 0, 0) from rfl) ?_
      refine zt_if_eq zy_48 (show q_ins q_k48 28 = some (.ifCond .eq 16, 44, 0) from rfl) (zt_inT _) (fun hc => ?_) (fun hc => ?_)
      · rw [if_pos hc] at h
        exact zt_wk (zt_cov_cons rfl (zt_cov_cons rfl (zt_cov_cons rfl (zt_cov_cons rfl (zt_cov_nil))))) (S_SS_remember_44  _ _ _ _ _ h)
      · rw [if_neg hc] at h
        refine zt_aload_n zy_48 (show q_ins q_k48 31 = some (.aload_n 0, 0, 0) from rfl) (v := 144) rfl ?_
        refine zt_getR zy_48 (show q_ins q_k48 32 = some (.getfield 21, 5, 4) from rfl) (r := 147) zk_144_4 ?_
        refine zt_iload_n zy_48 (show q_ins q_k48 35 = some (.iload_n 1, 0, 0) from rfl) (v := Int32.ofInt v1) rfl ?_
        refine zt_aload_n zy_48 (show q_ins q_k48 36 = some (.aload_n 0, 0, 0) from rfl) (v := 144) rfl ?_
        refine zt_getL zy_48 (show q_ins q_k48 37 = some (.getfield 73, 5, 5) from rfl) (j := 5) zk_144_5 rfl ?_
        refine zt_bipush zy_48 (show q_ins q_k48 40 = some (.bipush 20, 0, 0) from rfl) (by decide) ?_
        refine zt_lshl zy_48 (show q_ins q_k48 42 = some (.lshl, 0, 0) from rfl) ?_
        obtain ⟨hg, h⟩ := zt_ckE h
        obtain ⟨s2, hs2, h⟩ := zt_letE h
        refine zt_lst zy_48 (show q_ins q_k48 43 = some (.lastore, 0, 0) from rfl) za_147 (by decide) hg ?_
        rw [← hs2]
        exact zt_wk (zt_cov_cons rfl (zt_cov_cons rfl (zt_cov_cons rfl (zt_cov_cons rfl (zt_cov_nil))))) (S_SS_remember_44  _ _ _ _ _ h)
    · rw [if_neg hc] at h
      exact zt_wk (zt_cov_nil) (S_SS_remember_13  _ _ h)
theorem S_Tr_place_56 {X : q_X} {t0 : Nat} {t1 : Nat} (ht0 : t0 ∈ zt_tris) (ht1 : t1 ∈ zt_sets) : ∀  (σ : zt_S) (o : (Unit × zt_S)), F_Tr_place_56 t0 t1  σ = some o → zt_Ex X 2 111 56 [(0, .ref t0), (1, .ref t1)] [] (zt_M σ) (zo_V o) := by
  intro  σ o  h
  unfold F_Tr_place_56 at h
  refine zt_aload_n zy_111 (show q_ins q_k111 56 = some (.aload_n 0, 0, 0) from rfl) (v := t0) rfl ?_
  refine zt_dup zy_111 (show q_ins q_k111 57 = some (.dup, 0, 0) from rfl) rfl ?_
  refine zt_getI zy_111 (show q_ins q_k111 58 = some (.getfield 30, 9, 2) from rfl) (j := 2) (zk_K_2 ht0) rfl ?_
  refine zt_iconst zy_111 (show q_ins q_k111 61 = some (.iconst 1, 0, 0) from rfl) ?_
  refine zt_iadd zy_111 (show q_ins q_k111 62 = some (.iadd, 0, 0) from rfl) ?_
  obtain ⟨s9, hs9, h⟩ := zt_letE h
  refine zt_putI zy_111 (show q_ins q_k111 63 = some (.putfield 30, 9, 2) from rfl) (j := 2) (zk_K_2 ht0) rfl rfl rfl ?_
  rw [← hs9]
  refine zt_aload_n zy_111 (show q_ins q_k111 66 = some (.aload_n 0, 0, 0) from rfl) (v := t0) rfl ?_
  refine zt_aload_n zy_111 (show q_ins q_k111 67 = some (.aload_n 1, 0, 0) from rfl) (v := t1) rfl ?_
  refine zt_aload_n zy_111 (show q_ins q_k111 68 = some (.aload_n 0, 0, 0) from rfl) (v := t0) rfl ?_
  refine zt_getI zy_111 (show q_ins q_k111 69 = some (.getfield 27, 9, 1) from rfl) (j := 1) (zk_K_1 ht0) rfl ?_
  obtain ⟨a10, s11, hca10, h⟩ := zt_bdE h
  refine zt_callV (d := 1) zy_111 (show q_ins q_k111 72 = some (.invokevirtual 52, 37, 1) from rfl) zy_37 (by decide) ⟨zq_lt (by decide), by decide⟩ rfl (by simp [Value.category]) (by simp [lg_sl, Value.category]) (zt_rcv (zc_S ht1)) (zt_dm (by decide) (S_Su_behind ht1 hca10)) ?_
  obtain ⟨s12, hs12, h⟩ := zt_letE h
  refine zt_putI zy_111 (show q_ins q_k111 75 = some (.putfield 27, 9, 1) from rfl) (j := 1) (zk_K_1 ht0) rfl rfl rfl ?_
  rw [← hs12]
  cases h
  exact zt_ret zy_111 (show q_ins q_k111 78 = some (.return_, 0, 0) from rfl)
theorem S_Tr_place_38 {X : q_X} {t0 : Nat} {t1 : Nat} (ht0 : t0 ∈ zt_tris) (ht1 : t1 ∈ zt_sets) : ∀ (v2 : Int) (v3 : Int) (σ : zt_S) (o : (Unit × zt_S)), F_Tr_place_38 t0 t1 v2 v3 σ = some o → zt_Ex X 2 111 38 [(0, .ref t0), (1, .ref t1), (2, .int (Int32.ofInt v2)), (3, .int (Int32.ofInt v3))] [] (zt_M σ) (zo_V o) := by
  intro v2 v3 σ o  h
  unfold F_Tr_place_38 at h
  refine zt_aload_n zy_111 (show q_ins q_k111 38 = some (.aload_n 0, 0, 0) from rfl) (v := t0) rfl ?_
  refine zt_iload_n zy_111 (show q_ins q_k111 39 = some (.iload_n 3, 0, 0) from rfl) (v := Int32.ofInt v3) rfl ?_
  obtain ⟨s6, hs6, h⟩ := zt_letE h
  refine zt_putI zy_111 (show q_ins q_k111 40 = some (.putfield 33, 9, 4) from rfl) (j := 4) (zk_K_4 ht0) rfl rfl rfl ?_
  rw [← hs6]
  refine zt_aload_n zy_111 (show q_ins q_k111 43 = some (.aload_n 0, 0, 0) from rfl) (v := t0) rfl ?_
  refine zt_iload_n zy_111 (show q_ins q_k111 44 = some (.iload_n 2, 0, 0) from rfl) (v := Int32.ofInt v2) rfl ?_
  obtain ⟨s7, hs7, h⟩ := zt_letE h
  refine zt_putI zy_111 (show q_ins q_k111 45 = some (.putfield 15, 9, 5) from rfl) (j := 5) (zk_K_5 ht0) rfl rfl rfl ?_
  rw [← hs7]
  refine zt_aload_n zy_111 (show q_ins q_k111 48 = some (.aload_n 0, 0, 0) from rfl) (v := t0) rfl ?_
  refine zt_aload_n zy_111 (show q_ins q_k111 49 = some (.aload_n 0, 0, 0) from rfl) (v := t0) rfl ?_
  refine zt_getI zy_111 (show q_ins q_k111 50 = some (.getfield 27, 9, 1) from rfl) (j := 1) (zk_K_1 ht0) rfl ?_
  obtain ⟨s8, hs8, h⟩ := zt_letE h
  refine zt_putI zy_111 (show q_ins q_k111 53 = some (.putfield 18, 9, 6) from rfl) (j := 6) (zk_K_6 ht0) rfl rfl rfl ?_
  rw [← hs8]
  exact zt_wk (zt_cov_cons rfl (zt_cov_cons rfl (zt_cov_nil))) (S_Tr_place_56  ht0 ht1 _ _ h)
theorem S_Tr_place_23 {X : q_X} {t0 : Nat} {t1 : Nat} (ht0 : t0 ∈ zt_tris) (ht1 : t1 ∈ zt_sets) : ∀ (v2 : Int) (v3 : Int) (σ : zt_S) (o : (Unit × zt_S)), F_Tr_place_23 t0 t1 v2 v3 σ = some o → zt_Ex X 2 111 23 [(0, .ref t0), (1, .ref t1), (2, .int (Int32.ofInt v2)), (3, .int (Int32.ofInt v3))] [] (zt_M σ) (zo_V o) := by
  intro v2 v3 σ o  h
  unfold F_Tr_place_23 at h
  refine zt_aload_n zy_111 (show q_ins q_k111 23 = some (.aload_n 0, 0, 0) from rfl) (v := t0) rfl ?_
  refine zt_getI zy_111 (show q_ins q_k111 24 = some (.getfield 30, 9, 2) from rfl) (j := 2) (zk_K_2 ht0) rfl ?_
  obtain ⟨hg, h⟩ := zt_ckE h
  refine zt_if_eq zy_111 (show q_ins q_k111 27 = some (.ifCond .eq 11, 38, 0) from rfl) (hg) (fun hc => ?_) (fun hc => ?_)
  · rw [if_pos hc] at h
    exact zt_wk (zt_cov_cons rfl (zt_cov_cons rfl (zt_cov_cons rfl (zt_cov_cons rfl (zt_cov_nil))))) (S_Tr_place_38  ht0 ht1 _ _ _ _ h)
  · rw [if_neg hc] at h
    refine zt_iload_n zy_111 (show q_ins q_k111 30 = some (.iload_n 3, 0, 0) from rfl) (v := Int32.ofInt v3) rfl ?_
    refine zt_aload_n zy_111 (show q_ins q_k111 31 = some (.aload_n 0, 0, 0) from rfl) (v := t0) rfl ?_
    refine zt_getI zy_111 (show q_ins q_k111 32 = some (.getfield 33, 9, 4) from rfl) (j := 4) (zk_K_4 ht0) rfl ?_
    obtain ⟨hg, h⟩ := zt_ckE h
    refine zt_icmp_le zy_111 (show q_ins q_k111 35 = some (.if_icmp .le 21, 56, 0) from rfl) (⟨hg.1, hg.2⟩) (fun hc => ?_) (fun hc => ?_)
    · rw [if_pos hc] at h
      exact zt_wk (zt_cov_cons rfl (zt_cov_cons rfl (zt_cov_cons rfl (zt_cov_cons rfl (zt_cov_nil))))) (S_Tr_place_38  ht0 ht1 _ _ _ _ h)
    · rw [if_neg hc] at h
      exact zt_wk (zt_cov_cons rfl (zt_cov_cons rfl (zt_cov_nil))) (S_Tr_place_56  ht0 ht1 _ _ h)
theorem S_Tr_place {X : q_X} {t0 : Nat} {t1 : Nat} (ht0 : t0 ∈ zt_tris) (ht1 : t1 ∈ zt_sets) {v2 : Int} {σ : zt_S} {o : (Unit × zt_S)} (h : F_Tr_place t0 t1 v2 σ = some o) : zt_Ex X 2 111 0 (lv_args 0 [.ref t0, .ref t1, .int (Int32.ofInt v2)]) [] (zt_M σ) (zo_V o) := by
  unfold F_Tr_place at h
  refine zt_aload_n zy_111 (show q_ins q_k111 0 = some (.aload_n 0, 0, 0) from rfl) (v := t0) rfl ?_
  refine zt_aload_n zy_111 (show q_ins q_k111 1 = some (.aload_n 1, 0, 0) from rfl) (v := t1) rfl ?_
  refine zt_iload_n zy_111 (show q_ins q_k111 2 = some (.iload_n 2, 0, 0) from rfl) (v := Int32.ofInt v2) rfl ?_
  obtain ⟨a1, s2, hca1, h⟩ := zt_bdE h
  refine zt_callV (d := 1) zy_111 (show q_ins q_k111 3 = some (.invokevirtual 48, 108, 2) from rfl) zy_108 (by decide) ⟨zq_lt (by decide), by decide⟩ rfl (by simp [Value.category]) (by simp [lg_sl, Value.category]) (zt_rcv (zc_K ht0)) (zt_dm (by decide) (S_Tr_powerOf ht0 ht1 hca1)) ?_
  refine zt_istore_n zy_111 (show q_ins q_k111 6 = some (.istore_n 3, 0, 0) from rfl) (by decide) ?_
  refine zt_aload_n zy_111 (show q_ins q_k111 7 = some (.aload_n 0, 0, 0) from rfl) (v := t0) rfl ?_
  refine zt_getI zy_111 (show q_ins q_k111 8 = some (.getfield 30, 9, 2) from rfl) (j := 2) (zk_K_2 ht0) rfl ?_
  obtain ⟨hg, h⟩ := zt_ckE h
  refine zt_if_ne zy_111 (show q_ins q_k111 11 = some (.ifCond .ne 12, 23, 0) from rfl) (hg) (fun hc => ?_) (fun hc => ?_)
  · rw [if_pos hc] at h
    refine zt_aload_n zy_111 (show q_ins q_k111 14 = some (.aload_n 0, 0, 0) from rfl) (v := t0) rfl ?_
    refine zt_aload_n zy_111 (show q_ins q_k111 15 = some (.aload_n 1, 0, 0) from rfl) (v := t1) rfl ?_
    refine zt_iload_n zy_111 (show q_ins q_k111 16 = some (.iload_n 2, 0, 0) from rfl) (v := Int32.ofInt v2) rfl ?_
    obtain ⟨a3, s4, hca3, h⟩ := zt_bdE h
    refine zt_callV (d := 1) zy_111 (show q_ins q_k111 17 = some (.invokevirtual 39, 33, 1) from rfl) zy_33 (by decide) ⟨zq_lt (by decide), by decide⟩ rfl (by simp [Value.category]) (by simp [lg_sl, Value.category]) (zt_rcv (zc_S ht1)) (zt_dm (by decide) (S_Su_suitOf ht1 hca3)) ?_
    obtain ⟨s5, hs5, h⟩ := zt_letE h
    refine zt_putI zy_111 (show q_ins q_k111 20 = some (.putfield 9, 9, 3) from rfl) (j := 3) (zk_K_3 ht0) rfl rfl rfl ?_
    rw [← hs5]
    exact zt_wk (zt_cov_cons rfl (zt_cov_cons rfl (zt_cov_cons rfl (zt_cov_cons rfl (zt_cov_nil))))) (S_Tr_place_23  ht0 ht1 _ _ _ _ h)
  · rw [if_neg hc] at h
    exact zt_wk (zt_cov_cons rfl (zt_cov_cons rfl (zt_cov_cons rfl (zt_cov_cons rfl (zt_cov_nil))))) (S_Tr_place_23  ht0 ht1 _ _ _ _ h)
theorem S_Tr_dim_63 {X : q_X} {t0 : Nat} {t1 : Nat} (ht0 : t0 ∈ zt_tris) (ht1 : t1 ∈ zt_sets) : ∀ (x0 : Int) (σ : zt_S) (o : (Unit × zt_S)), F_Tr_dim_63 t0 t1 x0 σ = some o → zt_Ex X 1 113 63 [] [.int (Int32.ofInt x0), .ref t0] (zt_M σ) (zo_V o) := by
  intro x0 σ o  h
  unfold F_Tr_dim_63 at h
  obtain ⟨s3, hs3, h⟩ := zt_letE h
  refine zt_putI zy_113 (show q_ins q_k113 63 = some (.putfield 36, 9, 8) from rfl) (j := 8) (zk_K_8 ht0) rfl rfl rfl ?_
  rw [← hs3]
  cases h
  exact zt_ret zy_113 (show q_ins q_k113 66 = some (.return_, 0, 0) from rfl)
theorem S_Tr_dim_47 {X : q_X} {t0 : Nat} {t1 : Nat} (ht0 : t0 ∈ zt_tris) (ht1 : t1 ∈ zt_sets) : ∀ (v3 : Int) (x0 : Int) (σ : zt_S) (o : (Unit × zt_S)), F_Tr_dim_47 t0 t1 v3 x0 σ = some o → zt_Ex X 1 113 47 [(0, .ref t0), (1, .ref t1), (3, .int (Int32.ofInt v3))] [.int (Int32.ofInt x0), .ref t0] (zt_M σ) (zo_V o) := by
  intro v3 x0 σ o  h
  unfold F_Tr_dim_47 at h
  obtain ⟨s2, hs2, h⟩ := zt_letE h
  refine zt_putI zy_113 (show q_ins q_k113 47 = some (.putfield 21, 9, 7) from rfl) (j := 7) (zk_K_7 ht0) rfl rfl rfl ?_
  rw [← hs2]
  refine zt_aload_n zy_113 (show q_ins q_k113 50 = some (.aload_n 0, 0, 0) from rfl) (v := t0) rfl ?_
  refine zt_iload_n zy_113 (show q_ins q_k113 51 = some (.iload_n 3, 0, 0) from rfl) (v := Int32.ofInt v3) rfl ?_
  obtain ⟨hg, h⟩ := zt_ckE h
  refine zt_if_eq zy_113 (show q_ins q_k113 52 = some (.ifCond .eq 10, 62, 0) from rfl) (hg) (fun hc => ?_) (fun hc => ?_)
  · rw [if_pos hc] at h
    refine zt_iconst zy_113 (show q_ins q_k113 62 = some (.iconst 0, 0, 0) from rfl) ?_
    exact zt_wk (zt_cov_nil) (S_Tr_dim_63  ht0 ht1 _ _ _ h)
  · rw [if_neg hc] at h
    refine zt_aload_n zy_113 (show q_ins q_k113 55 = some (.aload_n 1, 0, 0) from rfl) (v := t1) rfl ?_
    refine zt_getI zy_113 (show q_ins q_k113 56 = some (.getfield 69, 4, 3) from rfl) (j := 3) (zk_S_3 ht1) rfl ?_
    refine zt_goto zy_113 (show q_ins q_k113 59 = some (.goto 4, 63, 0) from rfl) ?_
    exact zt_wk (zt_cov_nil) (S_Tr_dim_63  ht0 ht1 _ _ _ h)
theorem S_Tr_dim {X : q_X} {t0 : Nat} {t1 : Nat} (ht0 : t0 ∈ zt_tris) (ht1 : t1 ∈ zt_sets) {v2 : Int} {v3 : Int} {σ : zt_S} {o : (Unit × zt_S)} (h : F_Tr_dim t0 t1 v2 v3 σ = some o) : zt_Ex X 1 113 0 (lv_args 0 [.ref t0, .ref t1, .int (Int32.ofInt v2), .int (Int32.ofInt v3)]) [] (zt_M σ) (zo_V o) := by
  unfold F_Tr_dim at h
  refine zt_aload_n zy_113 (show q_ins q_k113 0 = some (.aload_n 0, 0, 0) from rfl) (v := t0) rfl ?_
  refine zt_getI zy_113 (show q_ins q_k113 1 = some (.getfield 36, 9, 8) from rfl) (j := 8) (zk_K_8 ht0) rfl ?_
  obtain ⟨hg, h⟩ := zt_ckE h
  refine zt_if_ne zy_113 (show q_ins q_k113 4 = some (.ifCond .ne 4, 8, 0) from rfl) (hg) (fun hc => ?_) (fun hc => ?_)
  · rw [if_pos hc] at h
    cases h
    exact zt_ret zy_113 (show q_ins q_k113 7 = some (.return_, 0, 0) from rfl)
  · rw [if_neg hc] at h
    refine zt_aload_n zy_113 (show q_ins q_k113 8 = some (.aload_n 0, 0, 0) from rfl) (v := t0) rfl ?_
    refine zt_iconst zy_113 (show q_ins q_k113 9 = some (.iconst 0, 0, 0) from rfl) ?_
    refine zt_aload_n zy_113 (show q_ins q_k113 10 = some (.aload_n 0, 0, 0) from rfl) (v := t0) rfl ?_
    refine zt_getI zy_113 (show q_ins q_k113 11 = some (.getfield 36, 9, 8) from rfl) (j := 8) (zk_K_8 ht0) rfl ?_
    refine zt_iload_n zy_113 (show q_ins q_k113 14 = some (.iload_n 2, 0, 0) from rfl) (v := Int32.ofInt v2) rfl ?_
    refine zt_isub zy_113 (show q_ins q_k113 15 = some (.isub, 0, 0) from rfl) ?_
    obtain ⟨hg, h⟩ := zt_ckE h
    refine zt_max zy_113 (show q_ins q_k113 16 = some (.invokestatic 63, 910, 2) from rfl) rfl ⟨by decide, hg⟩ (by simp [Value.category]) ?_
    obtain ⟨s1, hs1, h⟩ := zt_letE h
    refine zt_putI zy_113 (show q_ins q_k113 19 = some (.putfield 36, 9, 8) from rfl) (j := 8) (zk_K_8 ht0) rfl rfl rfl ?_
    rw [← hs1]
    refine zt_aload_n zy_113 (show q_ins q_k113 22 = some (.aload_n 0, 0, 0) from rfl) (v := t0) rfl ?_
    refine zt_getI zy_113 (show q_ins q_k113 23 = some (.getfield 36, 9, 8) from rfl) (j := 8) (zk_K_8 ht0) rfl ?_
    obtain ⟨hg, h⟩ := zt_ckE h
    refine zt_if_le zy_113 (show q_ins q_k113 26 = some (.ifCond .le 4, 30, 0) from rfl) (hg) (fun hc => ?_) (fun hc => ?_)
    · rw [if_pos hc] at h
      cases h
      exact zt_ret zy_113 (show q_ins q_k113 29 = some (.return_, 0, 0) from rfl)
    · rw [if_neg hc] at h
      refine zt_aload_n zy_113 (show q_ins q_k113 30 = some (.aload_n 0, 0, 0) from rfl) (v := t0) rfl ?_
      refine zt_iload_n zy_113 (show q_ins q_k113 31 = some (.iload_n 3, 0, 0) from rfl) (v := Int32.ofInt v3) rfl ?_
      obtain ⟨hg, h⟩ := zt_ckE h
      refine zt_if_eq zy_113 (show q_ins q_k113 32 = some (.ifCond .eq 14, 46, 0) from rfl) (hg) (fun hc => ?_) (fun hc => ?_)
      · rw [if_pos hc] at h
        refine zt_iconst zy_113 (show q_ins q_k113 46 = some (.iconst (-1), 0, 0) from rfl) ?_
        exact zt_wk (zt_cov_cons rfl (zt_cov_cons rfl (zt_cov_cons rfl (zt_cov_nil)))) (S_Tr_dim_47  ht0 ht1 _ _ _ _ h)
      · rw [if_neg hc] at h
        refine zt_aload_n zy_113 (show q_ins q_k113 35 = some (.aload_n 1, 0, 0) from rfl) (v := t1) rfl ?_
        refine zt_aload_n zy_113 (show q_ins q_k113 36 = some (.aload_n 0, 0, 0) from rfl) (v := t0) rfl ?_
        refine zt_getI zy_113 (show q_ins q_k113 37 = some (.getfield 15, 9, 5) from rfl) (j := 5) (zk_K_5 ht0) rfl ?_
        obtain ⟨a4, s5, hca4, h⟩ := zt_bdE h
        refine zt_callV (d := 0) zy_113 (show q_ins q_k113 40 = some (.invokevirtual 39, 33, 1) from rfl) zy_33 (by decide) ⟨zq_lt (by decide), by decide⟩ rfl (by simp [Value.category]) (by simp [lg_sl, Value.category]) (zt_rcv (zc_S ht1)) (zt_dm (by decide) (S_Su_suitOf ht1 hca4)) ?_
        refine zt_goto zy_113 (show q_ins q_k113 43 = some (.goto 4, 47, 0) from rfl) ?_
        exact zt_wk (zt_cov_cons rfl (zt_cov_cons rfl (zt_cov_cons rfl (zt_cov_nil)))) (S_Tr_dim_47  ht0 ht1 _ _ _ _ h)
theorem S_Tr_begin {X : q_X} {t0 : Nat} (ht0 : t0 ∈ zt_tris) {v1 : Int} {σ : zt_S} {o : (Unit × zt_S)} (h : F_Tr_begin t0 v1 σ = some o) : zt_Ex X 0 107 0 (lv_args 0 [.ref t0, .int (Int32.ofInt v1)]) [] (zt_M σ) (zo_V o) := by
  unfold F_Tr_begin at h
  refine zt_aload_n zy_107 (show q_ins q_k107 0 = some (.aload_n 0, 0, 0) from rfl) (v := t0) rfl ?_
  refine zt_iload_n zy_107 (show q_ins q_k107 1 = some (.iload_n 1, 0, 0) from rfl) (v := Int32.ofInt v1) rfl ?_
  obtain ⟨s1, hs1, h⟩ := zt_letE h
  refine zt_putI zy_107 (show q_ins q_k107 2 = some (.putfield 24, 9, 0) from rfl) (j := 0) (zk_K_0 ht0) rfl rfl rfl ?_
  rw [← hs1]
  refine zt_aload_n zy_107 (show q_ins q_k107 5 = some (.aload_n 0, 0, 0) from rfl) (v := t0) rfl ?_
  refine zt_iload_n zy_107 (show q_ins q_k107 6 = some (.iload_n 1, 0, 0) from rfl) (v := Int32.ofInt v1) rfl ?_
  obtain ⟨s2, hs2, h⟩ := zt_letE h
  refine zt_putI zy_107 (show q_ins q_k107 7 = some (.putfield 27, 9, 1) from rfl) (j := 1) (zk_K_1 ht0) rfl rfl rfl ?_
  rw [← hs2]
  refine zt_aload_n zy_107 (show q_ins q_k107 10 = some (.aload_n 0, 0, 0) from rfl) (v := t0) rfl ?_
  refine zt_iconst zy_107 (show q_ins q_k107 11 = some (.iconst 0, 0, 0) from rfl) ?_
  obtain ⟨s3, hs3, h⟩ := zt_letE h
  refine zt_putI zy_107 (show q_ins q_k107 12 = some (.putfield 30, 9, 2) from rfl) (j := 2) (zk_K_2 ht0) rfl rfl rfl ?_
  rw [← hs3]
  refine zt_aload_n zy_107 (show q_ins q_k107 15 = some (.aload_n 0, 0, 0) from rfl) (v := t0) rfl ?_
  refine zt_iconst zy_107 (show q_ins q_k107 16 = some (.iconst (-1), 0, 0) from rfl) ?_
  obtain ⟨s4, hs4, h⟩ := zt_letE h
  refine zt_putI zy_107 (show q_ins q_k107 17 = some (.putfield 9, 9, 3) from rfl) (j := 3) (zk_K_3 ht0) rfl rfl rfl ?_
  rw [← hs4]
  refine zt_aload_n zy_107 (show q_ins q_k107 20 = some (.aload_n 0, 0, 0) from rfl) (v := t0) rfl ?_
  refine zt_iconst zy_107 (show q_ins q_k107 21 = some (.iconst 0, 0, 0) from rfl) ?_
  obtain ⟨s5, hs5, h⟩ := zt_letE h
  refine zt_putI zy_107 (show q_ins q_k107 22 = some (.putfield 33, 9, 4) from rfl) (j := 4) (zk_K_4 ht0) rfl rfl rfl ?_
  rw [← hs5]
  refine zt_aload_n zy_107 (show q_ins q_k107 25 = some (.aload_n 0, 0, 0) from rfl) (v := t0) rfl ?_
  refine zt_iconst zy_107 (show q_ins q_k107 26 = some (.iconst (-1), 0, 0) from rfl) ?_
  obtain ⟨s6, hs6, h⟩ := zt_letE h
  refine zt_putI zy_107 (show q_ins q_k107 27 = some (.putfield 15, 9, 5) from rfl) (j := 5) (zk_K_5 ht0) rfl rfl rfl ?_
  rw [← hs6]
  refine zt_aload_n zy_107 (show q_ins q_k107 30 = some (.aload_n 0, 0, 0) from rfl) (v := t0) rfl ?_
  refine zt_iconst zy_107 (show q_ins q_k107 31 = some (.iconst (-1), 0, 0) from rfl) ?_
  obtain ⟨s7, hs7, h⟩ := zt_letE h
  refine zt_putI zy_107 (show q_ins q_k107 32 = some (.putfield 18, 9, 6) from rfl) (j := 6) (zk_K_6 ht0) rfl rfl rfl ?_
  rw [← hs7]
  cases h
  exact zt_ret zy_107 (show q_ins q_k107 35 = some (.return_, 0, 0) from rfl)
theorem S_Tr_finish {X : q_X} {t0 : Nat} {t1 : Nat} (ht0 : t0 ∈ zt_tris) (ht1 : t1 ∈ zt_sets) {v2 : Int} {v3 : Int} {σ : zt_S} {o : (Unit × zt_S)} (h : F_Tr_finish t0 t1 v2 v3 σ = some o) : zt_Ex X 2 112 0 (lv_args 0 [.ref t0, .ref t1, .int (Int32.ofInt v2), .int (Int32.ofInt v3)]) [] (zt_M σ) (zo_V o) := by
  unfold F_Tr_finish at h
  refine zt_aload_n zy_112 (show q_ins q_k112 0 = some (.aload_n 0, 0, 0) from rfl) (v := t0) rfl ?_
  refine zt_aload_n zy_112 (show q_ins q_k112 1 = some (.aload_n 1, 0, 0) from rfl) (v := t1) rfl ?_
  refine zt_iload_n zy_112 (show q_ins q_k112 2 = some (.iload_n 2, 0, 0) from rfl) (v := Int32.ofInt v2) rfl ?_
  refine zt_iload_n zy_112 (show q_ins q_k112 3 = some (.iload_n 3, 0, 0) from rfl) (v := Int32.ofInt v3) rfl ?_
  obtain ⟨a1, s2, hca1, h⟩ := zt_bdE h
  refine zt_callV (d := 1) zy_112 (show q_ins q_k112 4 = some (.invokevirtual 55, 113, 3) from rfl) zy_113 (by decide) ⟨zq_lt (by decide), by decide⟩ rfl (by simp [Value.category]) (by simp [lg_sl, Value.category]) (zt_rcv (zc_K ht0)) (zt_dm (by decide) (S_Tr_dim ht0 ht1 hca1)) ?_
  refine zt_aload_n zy_112 (show q_ins q_k112 7 = some (.aload_n 0, 0, 0) from rfl) (v := t0) rfl ?_
  refine zt_aload_n zy_112 (show q_ins q_k112 8 = some (.aload_n 0, 0, 0) from rfl) (v := t0) rfl ?_
  refine zt_getI zy_112 (show q_ins q_k112 9 = some (.getfield 18, 9, 6) from rfl) (j := 6) (zk_K_6 ht0) rfl ?_
  obtain ⟨a3, s4, hca3, h⟩ := zt_bdE h
  refine zt_callV (d := 1) zy_112 (show q_ins q_k112 12 = some (.invokevirtual 59, 107, 1) from rfl) zy_107 (by decide) ⟨zq_lt (by decide), by decide⟩ rfl (by simp [Value.category]) (by simp [lg_sl, Value.category]) (zt_rcv (zc_K ht0)) (zt_dm (by decide) (S_Tr_begin ht0 hca3)) ?_
  cases h
  exact zt_ret zy_112 (show q_ins q_k112 15 = some (.return_, 0, 0) from rfl)
theorem S_Rw_without {X : q_X}   {v0 : Int64} {v2 : Int} {σ : zt_S} {o : (Int64 × zt_S)} (h : F_Rw_without  v0 v2 σ = some o) : zt_Ex X 0 316 0 (lv_args 0 [.long v0, .int (Int32.ofInt v2)]) [] (zt_M σ) (zo_L o) := by
  unfold F_Rw_without at h
  refine zt_lload_n zy_316 (show q_ins q_k316 0 = some (.lload_n 0, 0, 0) from rfl) (v := v0) rfl ?_
  refine zt_lconst zy_316 (show q_ins q_k316 1 = some (.lconst 1, 0, 0) from rfl) (v := (1 : Int64)) (by decide) ?_
  refine zt_iload_n zy_316 (show q_ins q_k316 2 = some (.iload_n 2, 0, 0) from rfl) (v := Int32.ofInt v2) rfl ?_
  refine zt_lshl zy_316 (show q_ins q_k316 3 = some (.lshl, 0, 0) from rfl) ?_
  refine zt_ldc2 zy_316 (show q_ins q_k316 4 = some (.ldc2_w 19, 0, 18446744073709551615) from rfl) (v := (-1 : Int64)) (by decide) ?_
  refine zt_lxor zy_316 (show q_ins q_k316 7 = some (.lxor, 0, 0) from rfl) ?_
  refine zt_land zy_316 (show q_ins q_k316 8 = some (.land, 0, 0) from rfl) ?_
  cases h
  exact zt_lret zy_316 (show q_ins q_k316 9 = some (.lreturn, 0, 0) from rfl)
theorem S_SS_tricksWith_93 {X : q_X} {D : Nat} (hD : 3 ≤ D) {w : Int → Int64 → zt_S → Option (Int × zt_S)} (hw : ∀ (v1 : Int) (v2 : Int64) (σ : zt_S) (o : (Int × zt_S)), w v1 v2 σ = some o → zt_Ex X D 43 0 (lv_args 0 [.ref 144, .int (Int32.ofInt v1), .long v2]) [] (zt_M σ) (zo_I o)) {t2 : Nat} (ht2 : t2 ∈ zt_tris) : ∀ (v1 : Int) (v3 : Int64) (v5 : Int) (v7 : Int) (σ : zt_S) (o : (Int × zt_S)), F_SS_tricksWith_93 t2 w v1 v3 v5 v7 σ = some o → zt_Ex X (D + 1) 45 93 [(0, .ref 144), (1, .int (Int32.ofInt v1)), (3, .long v3), (5, .int (Int32.ofInt v5)), (7, .int (Int32.ofInt v7))] [] (zt_M σ) (zo_I o) := by
  intro v1 v3 v5 v7 σ o  h
  unfold F_SS_tricksWith_93 at h
  refine zt_iload zy_45 (show q_ins q_k45 93 = some (.iload 7, 0, 0) from rfl) (v := Int32.ofInt v7) rfl ?_
  refine zt_aload_n zy_45 (show q_ins q_k45 95 = some (.aload_n 0, 0, 0) from rfl) (v := 144) rfl ?_
  refine zt_iload_n zy_45 (show q_ins q_k45 96 = some (.iload_n 1, 0, 0) from rfl) (v := Int32.ofInt v1) rfl ?_
  refine zt_iconst zy_45 (show q_ins q_k45 97 = some (.iconst 1, 0, 0) from rfl) ?_
  refine zt_iadd zy_45 (show q_ins q_k45 98 = some (.iadd, 0, 0) from rfl) ?_
  refine zt_lload_n zy_45 (show q_ins q_k45 99 = some (.lload_n 3, 0, 0) from rfl) (v := v3) rfl ?_
  refine zt_iload zy_45 (show q_ins q_k45 100 = some (.iload 5, 0, 0) from rfl) (v := Int32.ofInt v5) rfl ?_
  obtain ⟨a7, s8, hca7, h⟩ := zt_bdE h
  refine zt_callS (d := D + 0) zy_45 (show q_ins q_k45 102 = some (.invokestatic 169, 316, 2) from rfl) zy_316 (by decide) ⟨zq_lt (by decide), by decide⟩ rfl (by simp [Value.category]) (by simp [lg_sl, Value.category]) rfl (zt_dm (by omega) (S_Rw_without hca7)) ?_
  obtain ⟨a9, s10, hca9, h⟩ := zt_bdE h
  refine zt_callV (d := D + 0) zy_45 (show q_ins q_k45 105 = some (.invokevirtual 81, 43, 2) from rfl) zy_43 (by decide) ⟨zq_lt (by decide), by decide⟩ rfl (by simp [Value.category]) (by simp [lg_sl, Value.category]) (zt_rcv zc_144) (zt_dm (by omega) (hw _ _ _ _ hca9)) ?_
  refine zt_iadd zy_45 (show q_ins q_k45 108 = some (.iadd, 0, 0) from rfl) ?_
  cases h
  exact zt_iret zy_45 (show q_ins q_k45 109 = some (.ireturn, 0, 0) from rfl)
theorem S_SS_tricksWith_68 {X : q_X} {D : Nat} (hD : 3 ≤ D) {w : Int → Int64 → zt_S → Option (Int × zt_S)} (hw : ∀ (v1 : Int) (v2 : Int64) (σ : zt_S) (o : (Int × zt_S)), w v1 v2 σ = some o → zt_Ex X D 43 0 (lv_args 0 [.ref 144, .int (Int32.ofInt v1), .long v2]) [] (zt_M σ) (zo_I o)) {t2 : Nat} (ht2 : t2 ∈ zt_tris) : ∀ (v1 : Int) (v3 : Int64) (v5 : Int) (v6 : Nat) (x0 : Int) (σ : zt_S) (o : (Int × zt_S)) (hv6 : v6 ∈ zt_tris), F_SS_tricksWith_68 t2 w v1 v3 v5 v6 x0 σ = some o → zt_Ex X (D + 1) 45 68 [(0, .ref 144), (1, .int (Int32.ofInt v1)), (3, .long v3), (5, .int (Int32.ofInt v5)), (6, .ref v6)] [.int (Int32.ofInt x0)] (zt_M σ) (zo_I o) := by
  intro v1 v3 v5 v6 x0 σ o hv6 h
  unfold F_SS_tricksWith_68 at h
  refine zt_istore zy_45 (show q_ins q_k45 68 = some (.istore 7, 0, 0) from rfl) (by decide) ?_
  refine zt_aload zy_45 (show q_ins q_k45 70 = some (.aload 6, 0, 0) from rfl) (v := v6) rfl ?_
  refine zt_aload_n zy_45 (show q_ins q_k45 72 = some (.aload_n 0, 0, 0) from rfl) (v := 144) rfl ?_
  refine zt_getR zy_45 (show q_ins q_k45 73 = some (.getfield 35, 5, 1) from rfl) (r := 3) zk_144_1 ?_
  refine zt_aload_n zy_45 (show q_ins q_k45 76 = some (.aload_n 0, 0, 0) from rfl) (v := 144) rfl ?_
  refine zt_getR zy_45 (show q_ins q_k45 77 = some (.getfield 25, 5, 0) from rfl) (r := 6) zk_144_0 ?_
  refine zt_getI zy_45 (show q_ins q_k45 80 = some (.getfield 158, 6, 12) from rfl) (j := 12) zk_6_12 rfl ?_
  refine zt_aload_n zy_45 (show q_ins q_k45 83 = some (.aload_n 0, 0, 0) from rfl) (v := 144) rfl ?_
  refine zt_getR zy_45 (show q_ins q_k45 84 = some (.getfield 25, 5, 0) from rfl) (r := 6) zk_144_0 ?_
  refine zt_getI zy_45 (show q_ins q_k45 87 = some (.getfield 161, 6, 13) from rfl) (j := 13) zk_6_13 rfl ?_
  obtain ⟨a11, s12, hca11, h⟩ := zt_bdE h
  refine zt_callV (d := D + 0) zy_45 (show q_ins q_k45 90 = some (.invokevirtual 165, 112, 3) from rfl) zy_112 (by decide) ⟨zq_lt (by decide), by decide⟩ rfl (by simp [Value.category]) (by simp [lg_sl, Value.category]) (zt_rcv (zc_K hv6)) (zt_dm (by omega) (S_Tr_finish hv6 (by decide) hca11)) ?_
  exact zt_wk (zt_cov_cons rfl (zt_cov_cons rfl (zt_cov_cons rfl (zt_cov_cons rfl (zt_cov_cons rfl (zt_cov_nil)))))) (S_SS_tricksWith_93 hD hw ht2 _ _ _ _ _ _ h)
theorem S_SS_tricksWith {X : q_X} {D : Nat} (hD : 3 ≤ D) {w : Int → Int64 → zt_S → Option (Int × zt_S)} (hw : ∀ (v1 : Int) (v2 : Int64) (σ : zt_S) (o : (Int × zt_S)), w v1 v2 σ = some o → zt_Ex X D 43 0 (lv_args 0 [.ref 144, .int (Int32.ofInt v1), .long v2]) [] (zt_M σ) (zo_I o)) {t2 : Nat} (ht2 : t2 ∈ zt_tris) {v1 : Int} {v3 : Int64} {v5 : Int} {σ : zt_S} {o : (Int × zt_S)} (h : F_SS_tricksWith t2 w v1 v3 v5 σ = some o) : zt_Ex X (D + 1) 45 0 (lv_args 0 [.ref 144, .int (Int32.ofInt v1), .ref t2, .long v3, .int (Int32.ofInt v5)]) [] (zt_M σ) (zo_I o) := by
  unfold F_SS_tricksWith at h
  refine zt_aload_n zy_45 (show q_ins q_k45 0 = some (.aload_n 0, 0, 0) from rfl) (v := 144) rfl ?_
  refine zt_iload_n zy_45 (show q_ins q_k45 1 = some (.iload_n 1, 0, 0) from rfl) (v := Int32.ofInt v1) rfl ?_
  refine zt_iconst zy_45 (show q_ins q_k45 2 = some (.iconst 1, 0, 0) from rfl) ?_
  refine zt_iadd zy_45 (show q_ins q_k45 3 = some (.iadd, 0, 0) from rfl) ?_
  obtain ⟨a1, s2, hca1, h⟩ := zt_bdE h
  refine zt_callV (d := D + 0) zy_45 (show q_ins q_k45 4 = some (.invokevirtual 51, 42, 1) from rfl) zy_42 (by decide) ⟨zq_lt (by decide), by decide⟩ rfl (by simp [Value.category]) (by simp [lg_sl, Value.category]) (zt_rcv zc_144) (zt_dm (by omega) (S_SS_trickAt hca1)) ?_
  obtain ⟨ha1, h⟩ := zt_ckE h
  refine zt_astore zy_45 (show q_ins q_k45 7 = some (.astore 6, 0, 0) from rfl) (by decide) ?_
  refine zt_aload zy_45 (show q_ins q_k45 9 = some (.aload 6, 0, 0) from rfl) (v := a1) rfl ?_
  refine zt_ifnonnull_r zy_45 (show q_ins q_k45 11 = some (.ifnonnull 5, 16, 0) from rfl) ?_
  refine zt_aload zy_45 (show q_ins q_k45 16 = some (.aload 6, 0, 0) from rfl) (v := a1) rfl ?_
  refine zt_aload_n zy_45 (show q_ins q_k45 18 = some (.aload_n 2, 0, 0) from rfl) (v := t2) rfl ?_
  obtain ⟨a3, s4, hca3, h⟩ := zt_bdE h
  refine zt_callV (d := D + 0) zy_45 (show q_ins q_k45 19 = some (.invokevirtual 59, 106, 1) from rfl) zy_106 (by decide) ⟨zq_lt (by decide), by decide⟩ rfl (by simp [Value.category]) (by simp [lg_sl, Value.category]) (zt_rcv (zc_K ha1)) (zt_dm (by omega) (S_Tr_copyFrom ha1 ht2 hca3)) ?_
  refine zt_aload zy_45 (show q_ins q_k45 22 = some (.aload 6, 0, 0) from rfl) (v := a1) rfl ?_
  refine zt_aload_n zy_45 (show q_ins q_k45 24 = some (.aload_n 0, 0, 0) from rfl) (v := 144) rfl ?_
  refine zt_getR zy_45 (show q_ins q_k45 25 = some (.getfield 35, 5, 1) from rfl) (r := 3) zk_144_1 ?_
  refine zt_iload zy_45 (show q_ins q_k45 28 = some (.iload 5, 0, 0) from rfl) (v := Int32.ofInt v5) rfl ?_
  obtain ⟨a5, s6, hca5, h⟩ := zt_bdE h
  refine zt_callV (d := D + 0) zy_45 (show q_ins q_k45 30 = some (.invokevirtual 148, 111, 2) from rfl) zy_111 (by decide) ⟨zq_lt (by decide), by decide⟩ rfl (by simp [Value.category]) (by simp [lg_sl, Value.category]) (zt_rcv (zc_K ha1)) (zt_dm (by omega) (S_Tr_place ha1 (by decide) hca5)) ?_
  refine zt_iconst zy_45 (show q_ins q_k45 33 = some (.iconst 0, 0, 0) from rfl) ?_
  refine zt_istore zy_45 (show q_ins q_k45 34 = some (.istore 7, 0, 0) from rfl) (by decide) ?_
  refine zt_aload zy_45 (show q_ins q_k45 36 = some (.aload 6, 0, 0) from rfl) (v := a1) rfl ?_
  refine zt_getI zy_45 (show q_ins q_k45 38 = some (.getfield 104, 9, 2) from rfl) (j := 2) (zk_K_2 ha1) rfl ?_
  refine zt_aload_n zy_45 (show q_ins q_k45 41 = some (.aload_n 0, 0, 0) from rfl) (v := 144) rfl ?_
  refine zt_getR zy_45 (show q_ins q_k45 42 = some (.getfield 35, 5, 1) from rfl) (r := 3) zk_144_1 ?_
  refine zt_getI zy_45 (show q_ins q_k45 45 = some (.getfield 152, 4, 1) from rfl) (j := 1) zk_3_1 rfl ?_
  obtain ⟨hg, h⟩ := zt_ckE h
  refine zt_icmp_lt zy_45 (show q_ins q_k45 48 = some (.if_icmp .lt 45, 93, 0) from rfl) (⟨hg.1, hg.2⟩) (fun hc => ?_) (fun hc => ?_)
  · rw [if_pos hc] at h
    exact zt_wk (zt_cov_cons rfl (zt_cov_cons rfl (zt_cov_cons rfl (zt_cov_cons rfl (zt_cov_cons rfl (zt_cov_nil)))))) (S_SS_tricksWith_93 hD hw ht2 _ _ _ _ _ _ h)
  · rw [if_neg hc] at h
    refine zt_aload zy_45 (show q_ins q_k45 51 = some (.aload 6, 0, 0) from rfl) (v := a1) rfl ?_
    refine zt_getI zy_45 (show q_ins q_k45 53 = some (.getfield 155, 9, 6) from rfl) (j := 6) (zk_K_6 ha1) rfl ?_
    refine zt_aload_n zy_45 (show q_ins q_k45 56 = some (.aload_n 0, 0, 0) from rfl) (v := 144) rfl ?_
    refine zt_getI zy_45 (show q_ins q_k45 57 = some (.getfield 67, 5, 7) from rfl) (j := 7) zk_144_7 rfl ?_
    obtain ⟨hg, h⟩ := zt_ckE h
    refine zt_icmp_ne zy_45 (show q_ins q_k45 60 = some (.if_icmp .ne 7, 67, 0) from rfl) (⟨hg.1, hg.2⟩) (fun hc => ?_) (fun hc => ?_)
    · rw [if_pos hc] at h
      refine zt_iconst zy_45 (show q_ins q_k45 63 = some (.iconst 1, 0, 0) from rfl) ?_
      refine zt_goto zy_45 (show q_ins q_k45 64 = some (.goto 4, 68, 0) from rfl) ?_
      exact zt_wk (zt_cov_cons rfl (zt_cov_cons rfl (zt_cov_cons rfl (zt_cov_cons rfl (zt_cov_cons rfl (zt_cov_nil)))))) (S_SS_tricksWith_68 hD hw ht2 _ _ _ _ _ _ _ ha1 h)
    · rw [if_neg hc] at h
      refine zt_iconst zy_45 (show q_ins q_k45 67 = some (.iconst 0, 0, 0) from rfl) ?_
      exact zt_wk (zt_cov_cons rfl (zt_cov_cons rfl (zt_cov_cons rfl (zt_cov_cons rfl (zt_cov_cons rfl (zt_cov_nil)))))) (S_SS_tricksWith_68 hD hw ht2 _ _ _ _ _ _ _ ha1 h)
theorem S_SS_bestFrom_177 {X : q_X} {D : Nat} (hD : 3 ≤ D) {w : Int → Int64 → zt_S → Option (Int × zt_S)} (hw : ∀ (v1 : Int) (v2 : Int64) (σ : zt_S) (o : (Int × zt_S)), w v1 v2 σ = some o → zt_Ex X D 43 0 (lv_args 0 [.ref 144, .int (Int32.ofInt v1), .long v2]) [] (zt_M σ) (zo_I o)) {t2 : Nat} (ht2 : t2 ∈ zt_tris) : ∀ (v11 : Int) (σ : zt_S) (o : (Int × zt_S)), F_SS_bestFrom_177 t2 w v11 σ = some o → zt_Ex X (D + 2) 44 177 [(11, .int (Int32.ofInt v11))] [] (zt_M σ) (zo_I o) := by
  intro v11 σ o  h
  unfold F_SS_bestFrom_177 at h
  refine zt_iload zy_44 (show q_ins q_k44 177 = some (.iload 11, 0, 0) from rfl) (v := Int32.ofInt v11) rfl ?_
  cases h
  exact zt_iret zy_44 (show q_ins q_k44 179 = some (.ireturn, 0, 0) from rfl)
theorem S_SS_bestFrom_171 {X : q_X} {D : Nat} (hD : 3 ≤ D) {w : Int → Int64 → zt_S → Option (Int × zt_S)} (hw : ∀ (v1 : Int) (v2 : Int64) (σ : zt_S) (o : (Int × zt_S)), w v1 v2 σ = some o → zt_Ex X D 43 0 (lv_args 0 [.ref 144, .int (Int32.ofInt v1), .long v2]) [] (zt_M σ) (zo_I o)) {t2 : Nat} (ht2 : t2 ∈ zt_tris) {r74 : Int → Int64 → Int → Int64 → Int → Int → Int → zt_S → Option (Int × zt_S)} (hr74 : ∀ (v1 : Int) (v3 : Int64) (v5 : Int) (v8 : Int64) (v10 : Int) (v11 : Int) (v12 : Int) (σ : zt_S) (o : (Int × zt_S)), r74 v1 v3 v5 v8 v10 v11 v12 σ = some o → zt_Ex X (D + 2) 44 74 [(0, .ref 144), (1, .int (Int32.ofInt v1)), (2, .ref t2), (3, .long v3), (5, .int (Int32.ofInt v5)), (8, .long v8), (10, .int (Int32.ofInt v10)), (11, .int (Int32.ofInt v11)), (12, .int (Int32.ofInt v12))] [] (zt_M σ) (zo_I o)) : ∀ (v1 : Int) (v3 : Int64) (v5 : Int) (v8 : Int64) (v10 : Int) (v11 : Int) (v12 : Int) (σ : zt_S) (o : (Int × zt_S)), F_SS_bestFrom_171 t2 w r74 v1 v3 v5 v8 v10 v11 v12 σ = some o → zt_Ex X (D + 2) 44 171 [(0, .ref 144), (1, .int (Int32.ofInt v1)), (2, .ref t2), (3, .long v3), (5, .int (Int32.ofInt v5)), (8, .long v8), (10, .int (Int32.ofInt v10)), (11, .int (Int32.ofInt v11)), (12, .int (Int32.ofInt v12))] [] (zt_M σ) (zo_I o) := by
  intro v1 v3 v5 v8 v10 v11 v12 σ o  h
  unfold F_SS_bestFrom_171 at h
  refine zt_iinc zy_44 (show q_ins q_k44 171 = some (.iinc 12 1, 0, 0) from rfl) (v := v12) (by decide) rfl ?_
  refine zt_goto zy_44 (show q_ins q_k44 174 = some (.goto (-100), 74, 0) from rfl) ?_
  exact zt_wk (zt_cov_cons rfl (zt_cov_cons rfl (zt_cov_cons rfl (zt_cov_cons rfl (zt_cov_cons rfl (zt_cov_cons rfl (zt_cov_cons rfl (zt_cov_cons rfl (zt_cov_cons rfl (zt_cov_nil)))))))))) (hr74 _ _ _ _ _ _ _ _ _ h)
theorem S_SS_bestFrom_168 {X : q_X} {D : Nat} (hD : 3 ≤ D) {w : Int → Int64 → zt_S → Option (Int × zt_S)} (hw : ∀ (v1 : Int) (v2 : Int64) (σ : zt_S) (o : (Int × zt_S)), w v1 v2 σ = some o → zt_Ex X D 43 0 (lv_args 0 [.ref 144, .int (Int32.ofInt v1), .long v2]) [] (zt_M σ) (zo_I o)) {t2 : Nat} (ht2 : t2 ∈ zt_tris) {r74 : Int → Int64 → Int → Int64 → Int → Int → Int → zt_S → Option (Int × zt_S)} (hr74 : ∀ (v1 : Int) (v3 : Int64) (v5 : Int) (v8 : Int64) (v10 : Int) (v11 : Int) (v12 : Int) (σ : zt_S) (o : (Int × zt_S)), r74 v1 v3 v5 v8 v10 v11 v12 σ = some o → zt_Ex X (D + 2) 44 74 [(0, .ref 144), (1, .int (Int32.ofInt v1)), (2, .ref t2), (3, .long v3), (5, .int (Int32.ofInt v5)), (8, .long v8), (10, .int (Int32.ofInt v10)), (11, .int (Int32.ofInt v11)), (12, .int (Int32.ofInt v12))] [] (zt_M σ) (zo_I o)) : ∀ (v1 : Int) (v3 : Int64) (v5 : Int) (v8 : Int64) (v10 : Int) (v11 : Int) (v12 : Int) (x0 : Int) (σ : zt_S) (o : (Int × zt_S)), F_SS_bestFrom_168 t2 w r74 v1 v3 v5 v8 v10 v11 v12 x0 σ = some o → zt_Ex X (D + 2) 44 168 [(0, .ref 144), (1, .int (Int32.ofInt v1)), (2, .ref t2), (3, .long v3), (5, .int (Int32.ofInt v5)), (8, .long v8), (10, .int (Int32.ofInt v10)), (11, .int (Int32.ofInt v11)), (12, .int (Int32.ofInt v12))] [.int (Int32.ofInt x0), .ref 144] (zt_M σ) (zo_I o) := by
  intro v1 v3 v5 v8 v10 v11 v12 x0 σ o  h
  unfold F_SS_bestFrom_168 at h
  obtain ⟨s11, hs11, h⟩ := zt_letE h
  refine zt_putI zy_44 (show q_ins q_k44 168 = some (.putfield 70, 5, 8) from rfl) (j := 8) zk_144_8 rfl rfl rfl ?_
  rw [← hs11]
  exact zt_wk (zt_cov_cons rfl (zt_cov_cons rfl (zt_cov_cons rfl (zt_cov_cons rfl (zt_cov_cons rfl (zt_cov_cons rfl (zt_cov_cons rfl (zt_cov_cons rfl (zt_cov_cons rfl (zt_cov_nil)))))))))) (S_SS_bestFrom_171 hD hw ht2 hr74 _ _ _ _ _ _ _ _ _ h)
theorem S_SS_bestFrom_150 {X : q_X} {D : Nat} (hD : 3 ≤ D) {w : Int → Int64 → zt_S → Option (Int × zt_S)} (hw : ∀ (v1 : Int) (v2 : Int64) (σ : zt_S) (o : (Int × zt_S)), w v1 v2 σ = some o → zt_Ex X D 43 0 (lv_args 0 [.ref 144, .int (Int32.ofInt v1), .long v2]) [] (zt_M σ) (zo_I o)) {t2 : Nat} (ht2 : t2 ∈ zt_tris) {r74 : Int → Int64 → Int → Int64 → Int → Int → Int → zt_S → Option (Int × zt_S)} (hr74 : ∀ (v1 : Int) (v3 : Int64) (v5 : Int) (v8 : Int64) (v10 : Int) (v11 : Int) (v12 : Int) (σ : zt_S) (o : (Int × zt_S)), r74 v1 v3 v5 v8 v10 v11 v12 σ = some o → zt_Ex X (D + 2) 44 74 [(0, .ref 144), (1, .int (Int32.ofInt v1)), (2, .ref t2), (3, .long v3), (5, .int (Int32.ofInt v5)), (8, .long v8), (10, .int (Int32.ofInt v10)), (11, .int (Int32.ofInt v11)), (12, .int (Int32.ofInt v12))] [] (zt_M σ) (zo_I o)) : ∀ (v1 : Int) (v3 : Int64) (v5 : Int) (v8 : Int64) (v10 : Int) (v12 : Int) (v13 : Int) (v14 : Int) (σ : zt_S) (o : (Int × zt_S)), F_SS_bestFrom_150 t2 w r74 v1 v3 v5 v8 v10 v12 v13 v14 σ = some o → zt_Ex X (D + 2) 44 150 [(0, .ref 144), (1, .int (Int32.ofInt v1)), (2, .ref t2), (3, .long v3), (5, .int (Int32.ofInt v5)), (8, .long v8), (10, .int (Int32.ofInt v10)), (12, .int (Int32.ofInt v12)), (13, .int (Int32.ofInt v13)), (14, .int (Int32.ofInt v14))] [] (zt_M σ) (zo_I o) := by
  intro v1 v3 v5 v8 v10 v12 v13 v14 σ o  h
  unfold F_SS_bestFrom_150 at h
  refine zt_iload zy_44 (show q_ins q_k44 150 = some (.iload 14, 0, 0) from rfl) (v := Int32.ofInt v14) rfl ?_
  refine zt_istore zy_44 (show q_ins q_k44 152 = some (.istore 11, 0, 0) from rfl) (by decide) ?_
  refine zt_aload_n zy_44 (show q_ins q_k44 154 = some (.aload_n 0, 0, 0) from rfl) (v := 144) rfl ?_
  refine zt_iload_n zy_44 (show q_ins q_k44 155 = some (.iload_n 1, 0, 0) from rfl) (v := Int32.ofInt v1) rfl ?_
  obtain ⟨hg, h⟩ := zt_ckE h
  refine zt_if_ne zy_44 (show q_ins q_k44 156 = some (.ifCond .ne 8, 164, 0) from rfl) (hg) (fun hc => ?_) (fun hc => ?_)
  · rw [if_pos hc] at h
    refine zt_iload zy_44 (show q_ins q_k44 159 = some (.iload 13, 0, 0) from rfl) (v := Int32.ofInt v13) rfl ?_
    refine zt_goto zy_44 (show q_ins q_k44 161 = some (.goto 7, 168, 0) from rfl) ?_
    exact zt_wk (zt_cov_cons rfl (zt_cov_cons rfl (zt_cov_cons rfl (zt_cov_cons rfl (zt_cov_cons rfl (zt_cov_cons rfl (zt_cov_cons rfl (zt_cov_cons rfl (zt_cov_cons rfl (zt_cov_nil)))))))))) (S_SS_bestFrom_168 hD hw ht2 hr74 _ _ _ _ _ _ _ _ _ _ h)
  · rw [if_neg hc] at h
    refine zt_aload_n zy_44 (show q_ins q_k44 164 = some (.aload_n 0, 0, 0) from rfl) (v := 144) rfl ?_
    refine zt_getI zy_44 (show q_ins q_k44 165 = some (.getfield 70, 5, 8) from rfl) (j := 8) zk_144_8 rfl ?_
    exact zt_wk (zt_cov_cons rfl (zt_cov_cons rfl (zt_cov_cons rfl (zt_cov_cons rfl (zt_cov_cons rfl (zt_cov_cons rfl (zt_cov_cons rfl (zt_cov_cons rfl (zt_cov_cons rfl (zt_cov_nil)))))))))) (S_SS_bestFrom_168 hD hw ht2 hr74 _ _ _ _ _ _ _ _ _ _ h)
theorem S_SS_bestFrom_74 {X : q_X} {D : Nat} (hD : 3 ≤ D) {w : Int → Int64 → zt_S → Option (Int × zt_S)} (hw : ∀ (v1 : Int) (v2 : Int64) (σ : zt_S) (o : (Int × zt_S)), w v1 v2 σ = some o → zt_Ex X D 43 0 (lv_args 0 [.ref 144, .int (Int32.ofInt v1), .long v2]) [] (zt_M σ) (zo_I o)) {t2 : Nat} (ht2 : t2 ∈ zt_tris) : ∀ (n : Nat) (v1 : Int) (v3 : Int64) (v5 : Int) (v8 : Int64) (v10 : Int) (v11 : Int) (v12 : Int) (σ : zt_S) (o : (Int × zt_S)), F_SS_bestFrom_74 t2 w n v1 v3 v5 v8 v10 v11 v12 σ = some o → zt_Ex X (D + 2) 44 74 [(0, .ref 144), (1, .int (Int32.ofInt v1)), (2, .ref t2), (3, .long v3), (5, .int (Int32.ofInt v5)), (8, .long v8), (10, .int (Int32.ofInt v10)), (11, .int (Int32.ofInt v11)), (12, .int (Int32.ofInt v12))] [] (zt_M σ) (zo_I o) := by
  intro n
  induction n with
  | zero => intro v1 v3 v5 v8 v10 v11 v12 σ o  h; cases h
  | succ n ih =>
  intro v1 v3 v5 v8 v10 v11 v12 σ o  h
  rw [F_SS_bestFrom_74] at h
  refine zt_iload zy_44 (show q_ins q_k44 74 = some (.iload 12, 0, 0) from rfl) (v := Int32.ofInt v12) rfl ?_
  refine zt_aload_n zy_44 (show q_ins q_k44 76 = some (.aload_n 0, 0, 0) from rfl) (v := 144) rfl ?_
  refine zt_getI zy_44 (show q_ins q_k44 77 = some (.getfield 85, 5, 6) from rfl) (j := 6) zk_144_6 rfl ?_
  obtain ⟨hg, h⟩ := zt_ckE h
  refine zt_icmp_ge zy_44 (show q_ins q_k44 80 = some (.if_icmp .ge 97, 177, 0) from rfl) (⟨hg.1, hg.2⟩) (fun hc => ?_) (fun hc => ?_)
  · rw [if_pos hc] at h
    refine zt_iload zy_44 (show q_ins q_k44 83 = some (.iload 11, 0, 0) from rfl) (v := Int32.ofInt v11) rfl ?_
    refine zt_iload zy_44 (show q_ins q_k44 85 = some (.iload 10, 0, 0) from rfl) (v := Int32.ofInt v10) rfl ?_
    obtain ⟨hg, h⟩ := zt_ckE h
    refine zt_icmp_eq zy_44 (show q_ins q_k44 87 = some (.if_icmp .eq 90, 177, 0) from rfl) (⟨hg.1, hg.2⟩) (fun hc => ?_) (fun hc => ?_)
    · rw [if_pos hc] at h
      exact zt_wk (zt_cov_cons rfl (zt_cov_nil)) (S_SS_bestFrom_177 hD hw ht2 _ _ _ h)
    · rw [if_neg hc] at h
      refine zt_aload_n zy_44 (show q_ins q_k44 90 = some (.aload_n 0, 0, 0) from rfl) (v := 144) rfl ?_
      refine zt_getR zy_44 (show q_ins q_k44 91 = some (.getfield 17, 5, 3) from rfl) (r := 146) zk_144_3 ?_
      refine zt_iload zy_44 (show q_ins q_k44 94 = some (.iload 12, 0, 0) from rfl) (v := Int32.ofInt v12) rfl ?_
      obtain ⟨a5, s6, hca5, h⟩ := zt_bdE h
      refine zt_callS (d := D + 1) zy_44 (show q_ins q_k44 96 = some (.invokestatic 140, 309, 2) from rfl) zy_309 (by decide) ⟨zq_lt (by decide), by decide⟩ rfl (by simp [Value.category]) (by simp [lg_sl, Value.category]) rfl (zt_dm (by omega) (S_Rw_at za_146 (by decide) hca5)) ?_
      refine zt_istore zy_44 (show q_ins q_k44 99 = some (.istore 13, 0, 0) from rfl) (by decide) ?_
      refine zt_lload zy_44 (show q_ins q_k44 101 = some (.lload 8, 0, 0) from rfl) (v := v8) rfl ?_
      refine zt_iload zy_44 (show q_ins q_k44 103 = some (.iload 13, 0, 0) from rfl) (v := Int32.ofInt a5) rfl ?_
      obtain ⟨a7, s8, hca7, h⟩ := zt_bdE h
      refine zt_callS (d := D + 1) zy_44 (show q_ins q_k44 105 = some (.invokestatic 94, 314, 2) from rfl) zy_314 (by decide) ⟨zq_lt (by decide), by decide⟩ rfl (by simp [Value.category]) (by simp [lg_sl, Value.category]) rfl (zt_dm (by omega) (S_Rw_has hca7)) ?_
      obtain ⟨hg, h⟩ := zt_ckE h
      refine zt_if_eq zy_44 (show q_ins q_k44 108 = some (.ifCond .eq 63, 171, 0) from rfl) (hg) (fun hc => ?_) (fun hc => ?_)
      · rw [if_pos hc] at h
        exact zt_wk (zt_cov_cons rfl (zt_cov_cons rfl (zt_cov_cons rfl (zt_cov_cons rfl (zt_cov_cons rfl (zt_cov_cons rfl (zt_cov_cons rfl (zt_cov_cons rfl (zt_cov_cons rfl (zt_cov_nil)))))))))) (S_SS_bestFrom_171 hD hw ht2 ih _ _ _ _ _ _ _ _ _ h)
      · rw [if_neg hc] at h
        refine zt_aload_n zy_44 (show q_ins q_k44 111 = some (.aload_n 0, 0, 0) from rfl) (v := 144) rfl ?_
        refine zt_iload_n zy_44 (show q_ins q_k44 112 = some (.iload_n 1, 0, 0) from rfl) (v := Int32.ofInt v1) rfl ?_
        refine zt_aload_n zy_44 (show q_ins q_k44 113 = some (.aload_n 2, 0, 0) from rfl) (v := t2) rfl ?_
        refine zt_lload_n zy_44 (show q_ins q_k44 114 = some (.lload_n 3, 0, 0) from rfl) (v := v3) rfl ?_
        refine zt_iload zy_44 (show q_ins q_k44 115 = some (.iload 13, 0, 0) from rfl) (v := Int32.ofInt a5) rfl ?_
        obtain ⟨a9, s10, hca9, h⟩ := zt_bdE h
        refine zt_callV (d := D + 1) zy_44 (show q_ins q_k44 117 = some (.invokevirtual 144, 45, 4) from rfl) zy_45 (by decide) ⟨zq_lt (by decide), by decide⟩ rfl (by simp [Value.category]) (by simp [lg_sl, Value.category]) (zt_rcv zc_144) (zt_dm (by omega) (S_SS_tricksWith hD hw ht2 hca9)) ?_
        refine zt_istore zy_44 (show q_ins q_k44 120 = some (.istore 14, 0, 0) from rfl) (by decide) ?_
        refine zt_iload zy_44 (show q_ins q_k44 122 = some (.iload 11, 0, 0) from rfl) (v := Int32.ofInt v11) rfl ?_
        refine zt_iconst zy_44 (show q_ins q_k44 124 = some (.iconst (-1), 0, 0) from rfl) ?_
        obtain ⟨hg, h⟩ := zt_ckE h
        refine zt_icmp_eq zy_44 (show q_ins q_k44 125 = some (.if_icmp .eq 25, 150, 0) from rfl) (⟨hg, by decide⟩) (fun hc => ?_) (fun hc => ?_)
        · rw [if_pos hc] at h
          exact zt_wk (zt_cov_cons rfl (zt_cov_cons rfl (zt_cov_cons rfl (zt_cov_cons rfl (zt_cov_cons rfl (zt_cov_cons rfl (zt_cov_cons rfl (zt_cov_cons rfl (zt_cov_cons rfl (zt_cov_cons rfl (zt_cov_nil))))))))))) (S_SS_bestFrom_150 hD hw ht2 ih _ _ _ _ _ _ _ _ _ _ h)
        · rw [if_neg hc] at h
          refine zt_iload zy_44 (show q_ins q_k44 128 = some (.iload 5, 0, 0) from rfl) (v := Int32.ofInt v5) rfl ?_
          obtain ⟨hg, h⟩ := zt_ckE h
          refine zt_if_eq zy_44 (show q_ins q_k44 130 = some (.ifCond .eq 13, 143, 0) from rfl) (hg) (fun hc => ?_) (fun hc => ?_)
          · rw [if_pos hc] at h
            refine zt_iload zy_44 (show q_ins q_k44 143 = some (.iload 14, 0, 0) from rfl) (v := Int32.ofInt a9) rfl ?_
            refine zt_iload zy_44 (show q_ins q_k44 145 = some (.iload 11, 0, 0) from rfl) (v := Int32.ofInt v11) rfl ?_
            obtain ⟨hg, h⟩ := zt_ckE h
            refine zt_icmp_ge zy_44 (show q_ins q_k44 147 = some (.if_icmp .ge 24, 171, 0) from rfl) (⟨hg.1, hg.2⟩) (fun hc => ?_) (fun hc => ?_)
            · rw [if_pos hc] at h
              exact zt_wk (zt_cov_cons rfl (zt_cov_cons rfl (zt_cov_cons rfl (zt_cov_cons rfl (zt_cov_cons rfl (zt_cov_cons rfl (zt_cov_cons rfl (zt_cov_cons rfl (zt_cov_cons rfl (zt_cov_cons rfl (zt_cov_nil))))))))))) (S_SS_bestFrom_150 hD hw ht2 ih _ _ _ _ _ _ _ _ _ _ h)
            · rw [if_neg hc] at h
              exact zt_wk (zt_cov_cons rfl (zt_cov_cons rfl (zt_cov_cons rfl (zt_cov_cons rfl (zt_cov_cons rfl (zt_cov_cons rfl (zt_cov_cons rfl (zt_cov_cons rfl (zt_cov_cons rfl (zt_cov_nil)))))))))) (S_SS_bestFrom_171 hD hw ht2 ih _ _ _ _ _ _ _ _ _ h)
          · rw [if_neg hc] at h
            refine zt_iload zy_44 (show q_ins q_k44 133 = some (.iload 14, 0, 0) from rfl) (v := Int32.ofInt a9) rfl ?_
            refine zt_iload zy_44 (show q_ins q_k44 135 = some (.iload 11, 0, 0) from rfl) (v := Int32.ofInt v11) rfl ?_
            obtain ⟨hg, h⟩ := zt_ckE h
            refine zt_icmp_le zy_44 (show q_ins q_k44 137 = some (.if_icmp .le 34, 171, 0) from rfl) (⟨hg.1, hg.2⟩) (fun hc => ?_) (fun hc => ?_)
            · rw [if_pos hc] at h
              refine zt_goto zy_44 (show q_ins q_k44 140 = some (.goto 10, 150, 0) from rfl) ?_
              exact zt_wk (zt_cov_cons rfl (zt_cov_cons rfl (zt_cov_cons rfl (zt_cov_cons rfl (zt_cov_cons rfl (zt_cov_cons rfl (zt_cov_cons rfl (zt_cov_cons rfl (zt_cov_cons rfl (zt_cov_cons rfl (zt_cov_nil))))))))))) (S_SS_bestFrom_150 hD hw ht2 ih _ _ _ _ _ _ _ _ _ _ h)
            · rw [if_neg hc] at h
              exact zt_wk (zt_cov_cons rfl (zt_cov_cons rfl (zt_cov_cons rfl (zt_cov_cons rfl (zt_cov_cons rfl (zt_cov_cons rfl (zt_cov_cons rfl (zt_cov_cons rfl (zt_cov_cons rfl (zt_cov_nil)))))))))) (S_SS_bestFrom_171 hD hw ht2 ih _ _ _ _ _ _ _ _ _ h)
  · rw [if_neg hc] at h
    exact zt_wk (zt_cov_cons rfl (zt_cov_nil)) (S_SS_bestFrom_177 hD hw ht2 _ _ _ h)
theorem S_SS_bestFrom_66 {X : q_X} {D : Nat} (hD : 3 ≤ D) {w : Int → Int64 → zt_S → Option (Int × zt_S)} (hw : ∀ (v1 : Int) (v2 : Int64) (σ : zt_S) (o : (Int × zt_S)), w v1 v2 σ = some o → zt_Ex X D 43 0 (lv_args 0 [.ref 144, .int (Int32.ofInt v1), .long v2]) [] (zt_M σ) (zo_I o)) {t2 : Nat} (ht2 : t2 ∈ zt_tris) : ∀ (v1 : Int) (v3 : Int64) (v5 : Int) (v8 : Int64) (x0 : Int) (σ : zt_S) (o : (Int × zt_S)), F_SS_bestFrom_66 t2 w v1 v3 v5 v8 x0 σ = some o → zt_Ex X (D + 2) 44 66 [(0, .ref 144), (1, .int (Int32.ofInt v1)), (2, .ref t2), (3, .long v3), (5, .int (Int32.ofInt v5)), (8, .long v8)] [.int (Int32.ofInt x0)] (zt_M σ) (zo_I o) := by
  intro v1 v3 v5 v8 x0 σ o  h
  unfold F_SS_bestFrom_66 at h
  refine zt_istore zy_44 (show q_ins q_k44 66 = some (.istore 10, 0, 0) from rfl) (by decide) ?_
  refine zt_iconst zy_44 (show q_ins q_k44 68 = some (.iconst (-1), 0, 0) from rfl) ?_
  refine zt_istore zy_44 (show q_ins q_k44 69 = some (.istore 11, 0, 0) from rfl) (by decide) ?_
  refine zt_iconst zy_44 (show q_ins q_k44 71 = some (.iconst 0, 0, 0) from rfl) ?_
  refine zt_istore zy_44 (show q_ins q_k44 72 = some (.istore 12, 0, 0) from rfl) (by decide) ?_
  exact zt_wk (zt_cov_cons rfl (zt_cov_cons rfl (zt_cov_cons rfl (zt_cov_cons rfl (zt_cov_cons rfl (zt_cov_cons rfl (zt_cov_cons rfl (zt_cov_cons rfl (zt_cov_cons rfl (zt_cov_nil)))))))))) (S_SS_bestFrom_74 hD hw ht2 _ _ _ _ _ _ _ _ _ _ h)
theorem S_SS_bestFrom_16 {X : q_X} {D : Nat} (hD : 3 ≤ D) {w : Int → Int64 → zt_S → Option (Int × zt_S)} (hw : ∀ (v1 : Int) (v2 : Int64) (σ : zt_S) (o : (Int × zt_S)), w v1 v2 σ = some o → zt_Ex X D 43 0 (lv_args 0 [.ref 144, .int (Int32.ofInt v1), .long v2]) [] (zt_M σ) (zo_I o)) {t2 : Nat} (ht2 : t2 ∈ zt_tris) : ∀ (v1 : Int) (v3 : Int64) (x0 : Int) (σ : zt_S) (o : (Int × zt_S)), F_SS_bestFrom_16 t2 w v1 v3 x0 σ = some o → zt_Ex X (D + 2) 44 16 [(0, .ref 144), (1, .int (Int32.ofInt v1)), (2, .ref t2), (3, .long v3)] [.int (Int32.ofInt x0)] (zt_M σ) (zo_I o) := by
  intro v1 v3 x0 σ o  h
  unfold F_SS_bestFrom_16 at h
  refine zt_istore zy_44 (show q_ins q_k44 16 = some (.istore 5, 0, 0) from rfl) (by decide) ?_
  refine zt_aload_n zy_44 (show q_ins q_k44 18 = some (.aload_n 0, 0, 0) from rfl) (v := 144) rfl ?_
  refine zt_getR zy_44 (show q_ins q_k44 19 = some (.getfield 25, 5, 0) from rfl) (r := 6) zk_144_0 ?_
  refine zt_aload_n zy_44 (show q_ins q_k44 22 = some (.aload_n 2, 0, 0) from rfl) (v := t2) rfl ?_
  refine zt_getI zy_44 (show q_ins q_k44 23 = some (.getfield 63, 9, 1) from rfl) (j := 1) (zk_K_1 ht2) rfl ?_
  obtain ⟨a1, s2, hca1, h⟩ := zt_bdE h
  refine zt_callV (d := D + 1) zy_44 (show q_ins q_k44 26 = some (.invokevirtual 129, 60, 1) from rfl) zy_60 (by decide) ⟨zq_lt (by decide), by decide⟩ rfl (by simp [Value.category]) (by simp [lg_sl, Value.category]) (zt_rcv zc_6) (zt_dm (by omega) (S_Tb_handOf (by decide) hca1)) ?_
  refine zt_lload_n zy_44 (show q_ins q_k44 29 = some (.lload_n 3, 0, 0) from rfl) (v := v3) rfl ?_
  refine zt_land zy_44 (show q_ins q_k44 30 = some (.land, 0, 0) from rfl) ?_
  refine zt_lstore zy_44 (show q_ins q_k44 31 = some (.lstore 6, 0, 0) from rfl) (by decide) ?_
  refine zt_aload_n zy_44 (show q_ins q_k44 33 = some (.aload_n 2, 0, 0) from rfl) (v := t2) rfl ?_
  refine zt_aload_n zy_44 (show q_ins q_k44 34 = some (.aload_n 0, 0, 0) from rfl) (v := 144) rfl ?_
  refine zt_getR zy_44 (show q_ins q_k44 35 = some (.getfield 35, 5, 1) from rfl) (r := 3) zk_144_1 ?_
  refine zt_lload zy_44 (show q_ins q_k44 38 = some (.lload 6, 0, 0) from rfl) (v := (a1 &&& v3)) rfl ?_
  refine zt_aload_n zy_44 (show q_ins q_k44 40 = some (.aload_n 0, 0, 0) from rfl) (v := 144) rfl ?_
  refine zt_getR zy_44 (show q_ins q_k44 41 = some (.getfield 25, 5, 0) from rfl) (r := 6) zk_144_0 ?_
  refine zt_getI zy_44 (show q_ins q_k44 44 = some (.getfield 133, 6, 11) from rfl) (j := 11) zk_6_11 rfl ?_
  obtain ⟨a3, s4, hca3, h⟩ := zt_bdE h
  refine zt_callV (d := D + 1) zy_44 (show q_ins q_k44 47 = some (.invokevirtual 136, 114, 3) from rfl) zy_114 (by decide) ⟨zq_lt (by decide), by decide⟩ rfl (by simp [Value.category]) (by simp [lg_sl, Value.category]) (zt_rcv (zc_K ht2)) (zt_dm (by omega) (S_Tr_allowed ht2 (by decide) hca3)) ?_
  refine zt_lstore zy_44 (show q_ins q_k44 50 = some (.lstore 8, 0, 0) from rfl) (by decide) ?_
  refine zt_iload zy_44 (show q_ins q_k44 52 = some (.iload 5, 0, 0) from rfl) (v := Int32.ofInt x0) rfl ?_
  obtain ⟨hg, h⟩ := zt_ckE h
  refine zt_if_eq zy_44 (show q_ins q_k44 54 = some (.ifCond .eq 11, 65, 0) from rfl) (hg) (fun hc => ?_) (fun hc => ?_)
  · rw [if_pos hc] at h
    refine zt_iconst zy_44 (show q_ins q_k44 65 = some (.iconst 0, 0, 0) from rfl) ?_
    exact zt_wk (zt_cov_cons rfl (zt_cov_cons rfl (zt_cov_cons rfl (zt_cov_cons rfl (zt_cov_cons rfl (zt_cov_cons rfl (zt_cov_nil))))))) (S_SS_bestFrom_66 hD hw ht2 _ _ _ _ _ _ _ h)
  · rw [if_neg hc] at h
    refine zt_lload zy_44 (show q_ins q_k44 57 = some (.lload 6, 0, 0) from rfl) (v := (a1 &&& v3)) rfl ?_
    obtain ⟨a12, s13, hca12, h⟩ := zt_bdE h
    refine zt_callS (d := D + 1) zy_44 (show q_ins q_k44 59 = some (.invokestatic 45, 352, 1) from rfl) zy_352 (by decide) ⟨zq_lt (by decide), by decide⟩ rfl (by simp [Value.category]) (by simp [lg_sl, Value.category]) rfl (zt_dm (by omega) (S_J_bitCount hca12)) ?_
    refine zt_goto zy_44 (show q_ins q_k44 62 = some (.goto 4, 66, 0) from rfl) ?_
    exact zt_wk (zt_cov_cons rfl (zt_cov_cons rfl (zt_cov_cons rfl (zt_cov_cons rfl (zt_cov_cons rfl (zt_cov_cons rfl (zt_cov_nil))))))) (S_SS_bestFrom_66 hD hw ht2 _ _ _ _ _ _ _ h)
theorem S_SS_bestFrom {X : q_X} {D : Nat} (hD : 3 ≤ D) {w : Int → Int64 → zt_S → Option (Int × zt_S)} (hw : ∀ (v1 : Int) (v2 : Int64) (σ : zt_S) (o : (Int × zt_S)), w v1 v2 σ = some o → zt_Ex X D 43 0 (lv_args 0 [.ref 144, .int (Int32.ofInt v1), .long v2]) [] (zt_M σ) (zo_I o)) {t2 : Nat} (ht2 : t2 ∈ zt_tris) {v1 : Int} {v3 : Int64} {σ : zt_S} {o : (Int × zt_S)} (h : F_SS_bestFrom t2 w v1 v3 σ = some o) : zt_Ex X (D + 2) 44 0 (lv_args 0 [.ref 144, .int (Int32.ofInt v1), .ref t2, .long v3]) [] (zt_M σ) (zo_I o) := by
  unfold F_SS_bestFrom at h
  refine zt_aload_n zy_44 (show q_ins q_k44 0 = some (.aload_n 2, 0, 0) from rfl) (v := t2) rfl ?_
  refine zt_getI zy_44 (show q_ins q_k44 1 = some (.getfield 63, 9, 1) from rfl) (j := 1) (zk_K_1 ht2) rfl ?_
  refine zt_aload_n zy_44 (show q_ins q_k44 4 = some (.aload_n 0, 0, 0) from rfl) (v := 144) rfl ?_
  refine zt_getI zy_44 (show q_ins q_k44 5 = some (.getfield 67, 5, 7) from rfl) (j := 7) zk_144_7 rfl ?_
  obtain ⟨hg, h⟩ := zt_ckE h
  refine zt_icmp_ne zy_44 (show q_ins q_k44 8 = some (.if_icmp .ne 7, 15, 0) from rfl) (⟨hg.1, hg.2⟩) (fun hc => ?_) (fun hc => ?_)
  · rw [if_pos hc] at h
    refine zt_iconst zy_44 (show q_ins q_k44 11 = some (.iconst 1, 0, 0) from rfl) ?_
    refine zt_goto zy_44 (show q_ins q_k44 12 = some (.goto 4, 16, 0) from rfl) ?_
    exact zt_wk (zt_cov_cons rfl (zt_cov_cons rfl (zt_cov_cons rfl (zt_cov_cons rfl (zt_cov_nil))))) (S_SS_bestFrom_16 hD hw ht2 _ _ _ _ _ h)
  · rw [if_neg hc] at h
    refine zt_iconst zy_44 (show q_ins q_k44 15 = some (.iconst 0, 0, 0) from rfl) ?_
    exact zt_wk (zt_cov_cons rfl (zt_cov_cons rfl (zt_cov_cons rfl (zt_cov_cons rfl (zt_cov_nil))))) (S_SS_bestFrom_16 hD hw ht2 _ _ _ _ _ h)
