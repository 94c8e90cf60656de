/-! the mini-machine does what the functions say (by program) -/
section TT
variable {T : zt_T}
theorem S_C_needCard_15 {X : q_X}   : ∀  (σ : zt_S) (o : ((Unit ⊕ Nat) × zt_S)), F_C_needCard_15   σ = some o → zt_Ex X 1 166 15 [] [] (zt_M T σ) (zx_V T o) := by
  intro  σ o  h
  unfold F_C_needCard_15 at h
  cases h
  exact zt_new (E := 0) zy_166 (show q_ins q_k166 15 = some (.new 197, 1000, 199) from rfl) rfl (by decide) (by show _ ≤ _; simp [Value.category])
theorem S_C_needCard {X : q_X}   {v1 : Int} {σ : zt_S} {o : ((Unit ⊕ Nat) × zt_S)} (h : F_C_needCard  v1 σ = some o) : zt_Ex X 1 166 0 (lv_args 0 [.ref 0, .int (Int32.ofInt v1)]) [] (zt_M T σ) (zx_V T o) := by
  unfold F_C_needCard at h
  refine zt_iload_n zy_166 (show q_ins q_k166 0 = some (.iload_n 1, 0, 0) from rfl) (v := Int32.ofInt v1) rfl ?_
  obtain ⟨hg, h⟩ := zt_ckE h
  refine zt_if_lt zy_166 (show q_ins q_k166 1 = some (.ifCond .lt 14, 15, 0) from rfl) (hg) (fun hc => ?_) (fun hc => ?_)
  · rw [if_pos hc] at h
    exact zt_wk (zt_cov_nil) (S_C_needCard_15  _ _ h)
  · rw [if_neg hc] at h
    refine zt_iload_n zy_166 (show q_ins q_k166 4 = some (.iload_n 1, 0, 0) from rfl) (v := Int32.ofInt v1) rfl ?_
    refine zt_aload_n zy_166 (show q_ins q_k166 5 = some (.aload_n 0, 0, 0) from rfl) (v := 0) rfl ?_
    refine zt_getR zy_166 (show q_ins q_k166 6 = some (.getfield 25, 10, 3) from rfl) (r := 3) zk_0_3 ?_
    obtain ⟨a1, s2, hca1, h⟩ := zt_bdE h
    refine zt_callV (d := 0) zy_166 (show q_ins q_k166 9 = some (.invokevirtual 89, 30, 0) from rfl) zy_30 (by decide) ⟨zq_lt (by decide), by decide⟩ rfl (by simp [Value.category]) (by simp [lg_sl, Value.category]) (zt_rcv zc_3) (zt_dm (by decide) (S_Su_cardCount (by decide) hca1)) ?_
    obtain ⟨hg, h⟩ := zt_ckE h
    refine zt_icmp_lt zy_166 (show q_ins q_k166 12 = some (.if_icmp .lt 11, 23, 0) from rfl) (⟨hg.1, hg.2⟩) (fun hc => ?_) (fun hc => ?_)
    · rw [if_pos hc] at h
      cases h
      exact zt_ret zy_166 (show q_ins q_k166 23 = some (.return_, 0, 0) from rfl)
    · rw [if_neg hc] at h
      exact zt_wk (zt_cov_nil) (S_C_needCard_15  _ _ h)
theorem S_C_suit {X : q_X}   {v1 : Int} {σ : zt_S} {o : ((Int ⊕ Nat) × zt_S)} (h : F_C_suit  v1 σ = some o) : zt_Ex X 2 123 0 (lv_args 0 [.ref 0, .int (Int32.ofInt v1)]) [] (zt_M T σ) (zx_I T o) := by
  unfold F_C_suit at h
  refine zt_aload_n zy_123 (show q_ins q_k123 0 = some (.aload_n 0, 0, 0) from rfl) (v := 0) rfl ?_
  refine zt_iload_n zy_123 (show q_ins q_k123 1 = some (.iload_n 1, 0, 0) from rfl) (v := Int32.ofInt v1) rfl ?_
  rcases zt_bxE h with ⟨a1, s2, hca1, h⟩ | ⟨E, s2, hca1, h⟩
  · refine zt_callV (d := 1) zy_123 (show q_ins q_k123 2 = some (.invokevirtual 200, 166, 1) from rfl) zy_166 (by decide) ⟨zq_lt (by decide), by decide⟩ rfl (by simp [Value.category]) (by simp [lg_sl, Value.category]) (zt_rcv zc_0) (zt_dm (by decide) (S_C_needCard hca1)) ?_
    refine zt_aload_n zy_123 (show q_ins q_k123 5 = some (.aload_n 0, 0, 0) from rfl) (v := 0) rfl ?_
    refine zt_getR zy_123 (show q_ins q_k123 6 = some (.getfield 25, 10, 3) from rfl) (r := 3) zk_0_3 ?_
    refine zt_iload_n zy_123 (show q_ins q_k123 9 = some (.iload_n 1, 0, 0) from rfl) (v := Int32.ofInt v1) rfl ?_
    obtain ⟨a3, s4, hca3, h⟩ := zt_bdE h
    refine zt_callV (d := 1) zy_123 (show q_ins q_k123 10 = some (.invokevirtual 203, 33, 1) from rfl) zy_33 (by decide) ⟨zq_lt (by decide), by decide⟩ rfl (by simp [Value.category]) (by simp [lg_sl, Value.category]) (zt_rcv zc_3) (zt_dm (by decide) (S_Su_suitOf (by decide) hca3)) ?_
    cases h
    exact zt_iret zy_123 (show q_ins q_k123 13 = some (.ireturn, 0, 0) from rfl)
  · cases h
    exact zt_callVX (d := 1) zy_123 (show q_ins q_k123 2 = some (.invokevirtual 200, 166, 1) from rfl) zy_166 (by decide) ⟨zq_lt (by decide), by decide⟩ rfl (by simp [Value.category]) (by simp [lg_sl, Value.category]) (zt_rcv zc_0) (zt_dm (by decide) (S_C_needCard hca1))
theorem S_C_rank {X : q_X}   {v1 : Int} {σ : zt_S} {o : ((Int ⊕ Nat) × zt_S)} (h : F_C_rank  v1 σ = some o) : zt_Ex X 2 124 0 (lv_args 0 [.ref 0, .int (Int32.ofInt v1)]) [] (zt_M T σ) (zx_I T o) := by
  unfold F_C_rank at h
  refine zt_aload_n zy_124 (show q_ins q_k124 0 = some (.aload_n 0, 0, 0) from rfl) (v := 0) rfl ?_
  refine zt_iload_n zy_124 (show q_ins q_k124 1 = some (.iload_n 1, 0, 0) from rfl) (v := Int32.ofInt v1) rfl ?_
  rcases zt_bxE h with ⟨a1, s2, hca1, h⟩ | ⟨E, s2, hca1, h⟩
  · refine zt_callV (d := 1) zy_124 (show q_ins q_k124 2 = some (.invokevirtual 200, 166, 1) from rfl) zy_166 (by decide) ⟨zq_lt (by decide), by decide⟩ rfl (by simp [Value.category]) (by simp [lg_sl, Value.category]) (zt_rcv zc_0) (zt_dm (by decide) (S_C_needCard hca1)) ?_
    refine zt_aload_n zy_124 (show q_ins q_k124 5 = some (.aload_n 0, 0, 0) from rfl) (v := 0) rfl ?_
    refine zt_getR zy_124 (show q_ins q_k124 6 = some (.getfield 25, 10, 3) from rfl) (r := 3) zk_0_3 ?_
    refine zt_iload_n zy_124 (show q_ins q_k124 9 = some (.iload_n 1, 0, 0) from rfl) (v := Int32.ofInt v1) rfl ?_
    obtain ⟨a3, s4, hca3, h⟩ := zt_bdE h
    refine zt_callV (d := 1) zy_124 (show q_ins q_k124 10 = some (.invokevirtual 206, 34, 1) from rfl) zy_34 (by decide) ⟨zq_lt (by decide), by decide⟩ rfl (by simp [Value.category]) (by simp [lg_sl, Value.category]) (zt_rcv zc_3) (zt_dm (by decide) (S_Su_rankOf (by decide) hca3)) ?_
    cases h
    exact zt_iret zy_124 (show q_ins q_k124 13 = some (.ireturn, 0, 0) from rfl)
  · cases h
    exact zt_callVX (d := 1) zy_124 (show q_ins q_k124 2 = some (.invokevirtual 200, 166, 1) from rfl) zy_166 (by decide) ⟨zq_lt (by decide), by decide⟩ rfl (by simp [Value.category]) (by simp [lg_sl, Value.category]) (zt_rcv zc_0) (zt_dm (by decide) (S_C_needCard hca1))
theorem S_C_holder {X : q_X}   {v1 : Int} {σ : zt_S} {o : ((Int ⊕ Nat) × zt_S)} (h : F_C_holder  v1 σ = some o) : zt_Ex X 2 125 0 (lv_args 0 [.ref 0, .int (Int32.ofInt v1)]) [] (zt_M T σ) (zx_I T o) := by
  unfold F_C_holder at h
  refine zt_aload_n zy_125 (show q_ins q_k125 0 = some (.aload_n 0, 0, 0) from rfl) (v := 0) rfl ?_
  refine zt_iload_n zy_125 (show q_ins q_k125 1 = some (.iload_n 1, 0, 0) from rfl) (v := Int32.ofInt v1) rfl ?_
  rcases zt_bxE h with ⟨a1, s2, hca1, h⟩ | ⟨E, s2, hca1, h⟩
  · refine zt_callV (d := 1) zy_125 (show q_ins q_k125 2 = some (.invokevirtual 200, 166, 1) from rfl) zy_166 (by decide) ⟨zq_lt (by decide), by decide⟩ rfl (by simp [Value.category]) (by simp [lg_sl, Value.category]) (zt_rcv zc_0) (zt_dm (by decide) (S_C_needCard hca1)) ?_
    refine zt_aload_n zy_125 (show q_ins q_k125 5 = some (.aload_n 0, 0, 0) from rfl) (v := 0) rfl ?_
    refine zt_getR zy_125 (show q_ins q_k125 6 = some (.getfield 41, 10, 5) from rfl) (r := 6) zk_0_5 ?_
    refine zt_iload_n zy_125 (show q_ins q_k125 9 = some (.iload_n 1, 0, 0) from rfl) (v := Int32.ofInt v1) rfl ?_
    obtain ⟨a3, s4, hca3, h⟩ := zt_bdE h
    refine zt_callV (d := 1) zy_125 (show q_ins q_k125 10 = some (.invokevirtual 209, 63, 1) from rfl) zy_63 (by decide) ⟨zq_lt (by decide), by decide⟩ rfl (by simp [Value.category]) (by simp [lg_sl, Value.category]) (zt_rcv zc_6) (zt_dm (by decide) (S_Tb_holderOf (by decide) hca3)) ?_
    cases h
    exact zt_iret zy_125 (show q_ins q_k125 13 = some (.ireturn, 0, 0) from rfl)
  · cases h
    exact zt_callVX (d := 1) zy_125 (show q_ins q_k125 2 = some (.invokevirtual 200, 166, 1) from rfl) zy_166 (by decide) ⟨zq_lt (by decide), by decide⟩ rfl (by simp [Value.category]) (by simp [lg_sl, Value.category]) (zt_rcv zc_0) (zt_dm (by decide) (S_C_needCard hca1))
theorem S_C_needPlayer_15 {X : q_X}   : ∀  (σ : zt_S) (o : ((Unit ⊕ Nat) × zt_S)), F_C_needPlayer_15   σ = some o → zt_Ex X 0 167 15 [] [] (zt_M T σ) (zx_V T o) := by
  intro  σ o  h
  unfold F_C_needPlayer_15 at h
  cases h
  exact zt_new (E := 0) zy_167 (show q_ins q_k167 15 = some (.new 197, 1000, 199) from rfl) rfl (by decide) (by show _ ≤ _; simp [Value.category])
theorem S_C_needPlayer {X : q_X}   {v1 : Int} {σ : zt_S} {o : ((Unit ⊕ Nat) × zt_S)} (h : F_C_needPlayer  v1 σ = some o) : zt_Ex X 0 167 0 (lv_args 0 [.ref 0, .int (Int32.ofInt v1)]) [] (zt_M T σ) (zx_V T o) := by
  unfold F_C_needPlayer at h
  refine zt_iload_n zy_167 (show q_ins q_k167 0 = some (.iload_n 1, 0, 0) from rfl) (v := Int32.ofInt v1) rfl ?_
  obtain ⟨hg, h⟩ := zt_ckE h
  refine zt_if_lt zy_167 (show q_ins q_k167 1 = some (.ifCond .lt 14, 15, 0) from rfl) (hg) (fun hc => ?_) (fun hc => ?_)
  · rw [if_pos hc] at h
    exact zt_wk (zt_cov_nil) (S_C_needPlayer_15  _ _ h)
  · rw [if_neg hc] at h
    refine zt_iload_n zy_167 (show q_ins q_k167 4 = some (.iload_n 1, 0, 0) from rfl) (v := Int32.ofInt v1) rfl ?_
    refine zt_aload_n zy_167 (show q_ins q_k167 5 = some (.aload_n 0, 0, 0) from rfl) (v := 0) rfl ?_
    refine zt_getR zy_167 (show q_ins q_k167 6 = some (.getfield 25, 10, 3) from rfl) (r := 3) zk_0_3 ?_
    refine zt_getI zy_167 (show q_ins q_k167 9 = some (.getfield 148, 4, 1) from rfl) (j := 1) zk_3_1 rfl ?_
    obtain ⟨hg, h⟩ := zt_ckE h
    refine zt_icmp_lt zy_167 (show q_ins q_k167 12 = some (.if_icmp .lt 11, 23, 0) from rfl) (⟨hg.1, hg.2⟩) (fun hc => ?_) (fun hc => ?_)
    · rw [if_pos hc] at h
      cases h
      exact zt_ret zy_167 (show q_ins q_k167 23 = some (.return_, 0, 0) from rfl)
    · rw [if_neg hc] at h
      exact zt_wk (zt_cov_nil) (S_C_needPlayer_15  _ _ h)
theorem S_C_held {X : q_X}   {v1 : Int} {σ : zt_S} {o : ((Int ⊕ Nat) × zt_S)} (h : F_C_held  v1 σ = some o) : zt_Ex X 1 126 0 (lv_args 0 [.ref 0, .int (Int32.ofInt v1)]) [] (zt_M T σ) (zx_I T o) := by
  unfold F_C_held at h
  refine zt_aload_n zy_126 (show q_ins q_k126 0 = some (.aload_n 0, 0, 0) from rfl) (v := 0) rfl ?_
  refine zt_iload_n zy_126 (show q_ins q_k126 1 = some (.iload_n 1, 0, 0) from rfl) (v := Int32.ofInt v1) rfl ?_
  rcases zt_bxE h with ⟨a1, s2, hca1, h⟩ | ⟨E, s2, hca1, h⟩
  · refine zt_callV (d := 0) zy_126 (show q_ins q_k126 2 = some (.invokevirtual 212, 167, 1) from rfl) zy_167 (by decide) ⟨zq_lt (by decide), by decide⟩ rfl (by simp [Value.category]) (by simp [lg_sl, Value.category]) (zt_rcv zc_0) (zt_dm (by decide) (S_C_needPlayer hca1)) ?_
    refine zt_aload_n zy_126 (show q_ins q_k126 5 = some (.aload_n 0, 0, 0) from rfl) (v := 0) rfl ?_
    refine zt_getR zy_126 (show q_ins q_k126 6 = some (.getfield 41, 10, 5) from rfl) (r := 6) zk_0_5 ?_
    refine zt_iload_n zy_126 (show q_ins q_k126 9 = some (.iload_n 1, 0, 0) from rfl) (v := Int32.ofInt v1) rfl ?_
    obtain ⟨a3, s4, hca3, h⟩ := zt_bdE h
    refine zt_callV (d := 0) zy_126 (show q_ins q_k126 10 = some (.invokevirtual 215, 60, 1) from rfl) zy_60 (by decide) ⟨zq_lt (by decide), by decide⟩ rfl (by simp [Value.category]) (by simp [lg_sl, Value.category]) (zt_rcv zc_6) (zt_dm (by decide) (S_Tb_handOf (by decide) hca3)) ?_
    obtain ⟨a5, s6, hca5, h⟩ := zt_bdE h
    refine zt_callS (d := 0) zy_126 (show q_ins q_k126 13 = some (.invokestatic 219, 352, 1) from rfl) zy_352 (by decide) ⟨zq_lt (by decide), by decide⟩ rfl (by simp [Value.category]) (by simp [lg_sl, Value.category]) rfl (zt_dm (by decide) (S_J_bitCount hca5)) ?_
    cases h
    exact zt_iret zy_126 (show q_ins q_k126 16 = some (.ireturn, 0, 0) from rfl)
  · cases h
    exact zt_callVX (d := 0) zy_126 (show q_ins q_k126 2 = some (.invokevirtual 212, 167, 1) from rfl) zy_167 (by decide) ⟨zq_lt (by decide), by decide⟩ rfl (by simp [Value.category]) (by simp [lg_sl, Value.category]) (zt_rcv zc_0) (zt_dm (by decide) (S_C_needPlayer hca1))
theorem S_C_inHand_26 {X : q_X}   : ∀  (σ : zt_S) (o : ((Int ⊕ Nat) × zt_S)), F_C_inHand_26   σ = some o → zt_Ex X 1 127 26 [] [] (zt_M T σ) (zx_I T o) := by
  intro  σ o  h
  unfold F_C_inHand_26 at h
  cases h
  exact zt_new (E := 0) zy_127 (show q_ins q_k127 26 = some (.new 197, 1000, 199) from rfl) rfl (by decide) (by show _ ≤ _; simp [Value.category])
theorem S_C_inHand_68 {X : q_X}   {r40 : Int → Int64 → Int → Int → zt_S → Option ((Int ⊕ Nat) × zt_S)} (hr40 : ∀ (v2 : Int) (v3 : Int64) (v5 : Int) (v6 : Int) (σ : zt_S) (o : ((Int ⊕ Nat) × zt_S)), r40 v2 v3 v5 v6 σ = some o → zt_Ex X 1 127 40 [(2, .int (Int32.ofInt v2)), (3, .long v3), (5, .int (Int32.ofInt v5)), (6, .int (Int32.ofInt v6))] [] (zt_M T σ) (zx_I T o)) : ∀ (v2 : Int) (v3 : Int64) (v5 : Int) (v6 : Int) (σ : zt_S) (o : ((Int ⊕ Nat) × zt_S)), F_C_inHand_68  r40 v2 v3 v5 v6 σ = some o → zt_Ex X 1 127 68 [(2, .int (Int32.ofInt v2)), (3, .long v3), (5, .int (Int32.ofInt v5)), (6, .int (Int32.ofInt v6))] [] (zt_M T σ) (zx_I T o) := by
  intro v2 v3 v5 v6 σ o  h
  unfold F_C_inHand_68 at h
  refine zt_iinc zy_127 (show q_ins q_k127 68 = some (.iinc 6 1, 0, 0) from rfl) (v := v6) (by decide) rfl ?_
  refine zt_goto zy_127 (show q_ins q_k127 71 = some (.goto (-31), 40, 0) from rfl) ?_
  exact zt_wk (zt_cov_cons rfl (zt_cov_cons rfl (zt_cov_cons rfl (zt_cov_cons rfl (zt_cov_nil))))) (hr40 _ _ _ _ _ _ h)
theorem S_C_inHand_40 {X : q_X}   : ∀ (n : Nat) (v2 : Int) (v3 : Int64) (v5 : Int) (v6 : Int) (σ : zt_S) (o : ((Int ⊕ Nat) × zt_S)), F_C_inHand_40  n v2 v3 v5 v6 σ = some o → zt_Ex X 1 127 40 [(2, .int (Int32.ofInt v2)), (3, .long v3), (5, .int (Int32.ofInt v5)), (6, .int (Int32.ofInt v6))] [] (zt_M T σ) (zx_I T o) := by
  intro n
  induction n with
  | zero => intro v2 v3 v5 v6 σ o  h; cases h
  | succ n ih =>
  intro v2 v3 v5 v6 σ o  h
  rw [F_C_inHand_40] at h
  refine zt_iload zy_127 (show q_ins q_k127 40 = some (.iload 6, 0, 0) from rfl) (v := Int32.ofInt v6) rfl ?_
  refine zt_bipush zy_127 (show q_ins q_k127 42 = some (.bipush 52, 0, 0) from rfl) (by decide) ?_
  obtain ⟨hg, h⟩ := zt_ckE h
  refine zt_icmp_ge zy_127 (show q_ins q_k127 44 = some (.if_icmp .ge 30, 74, 0) from rfl) (⟨hg, by decide⟩) (fun hc => ?_) (fun hc => ?_)
  · rw [if_pos hc] at h
    refine zt_lload_n zy_127 (show q_ins q_k127 47 = some (.lload_n 3, 0, 0) from rfl) (v := v3) rfl ?_
    refine zt_iload zy_127 (show q_ins q_k127 48 = some (.iload 6, 0, 0) from rfl) (v := Int32.ofInt v6) rfl ?_
    obtain ⟨a7, s8, hca7, h⟩ := zt_bdE h
    refine zt_callS (d := 0) zy_127 (show q_ins q_k127 50 = some (.invokestatic 225, 314, 2) from rfl) zy_314 (by decide) ⟨zq_lt (by decide), by decide⟩ rfl (by simp [Value.category]) (by simp [lg_sl, Value.category]) rfl (zt_dm (by decide) (S_Rw_has hca7)) ?_
    obtain ⟨hg, h⟩ := zt_ckE h
    refine zt_if_eq zy_127 (show q_ins q_k127 53 = some (.ifCond .eq 15, 68, 0) from rfl) (hg) (fun hc => ?_) (fun hc => ?_)
    · rw [if_pos hc] at h
      exact zt_wk (zt_cov_cons rfl (zt_cov_cons rfl (zt_cov_cons rfl (zt_cov_cons rfl (zt_cov_nil))))) (S_C_inHand_68  ih _ _ _ _ _ _ h)
    · rw [if_neg hc] at h
      refine zt_iload zy_127 (show q_ins q_k127 56 = some (.iload 5, 0, 0) from rfl) (v := Int32.ofInt v5) rfl ?_
      refine zt_iload_n zy_127 (show q_ins q_k127 58 = some (.iload_n 2, 0, 0) from rfl) (v := Int32.ofInt v2) rfl ?_
      obtain ⟨hg, h⟩ := zt_ckE h
      refine zt_icmp_ne zy_127 (show q_ins q_k127 59 = some (.if_icmp .ne 6, 65, 0) from rfl) (⟨hg.1, hg.2⟩) (fun hc => ?_) (fun hc => ?_)
      · rw [if_pos hc] at h
        refine zt_iload zy_127 (show q_ins q_k127 62 = some (.iload 6, 0, 0) from rfl) (v := Int32.ofInt v6) rfl ?_
        cases h
        exact zt_iret zy_127 (show q_ins q_k127 64 = some (.ireturn, 0, 0) from rfl)
      · rw [if_neg hc] at h
        refine zt_iinc zy_127 (show q_ins q_k127 65 = some (.iinc 5 1, 0, 0) from rfl) (v := v5) (by decide) rfl ?_
        exact zt_wk (zt_cov_cons rfl (zt_cov_cons rfl (zt_cov_cons rfl (zt_cov_cons rfl (zt_cov_nil))))) (S_C_inHand_68  ih _ _ _ _ _ _ h)
  · rw [if_neg hc] at h
    refine zt_iconst zy_127 (show q_ins q_k127 74 = some (.iconst (-1), 0, 0) from rfl) ?_
    cases h
    exact zt_iret zy_127 (show q_ins q_k127 75 = some (.ireturn, 0, 0) from rfl)
theorem S_C_inHand {X : q_X}   {v1 : Int} {v2 : Int} {σ : zt_S} {o : ((Int ⊕ Nat) × zt_S)} (h : F_C_inHand  v1 v2 σ = some o) : zt_Ex X 1 127 0 (lv_args 0 [.ref 0, .int (Int32.ofInt v1), .int (Int32.ofInt v2)]) [] (zt_M T σ) (zx_I T o) := by
  unfold F_C_inHand at h
  refine zt_aload_n zy_127 (show q_ins q_k127 0 = some (.aload_n 0, 0, 0) from rfl) (v := 0) rfl ?_
  refine zt_iload_n zy_127 (show q_ins q_k127 1 = some (.iload_n 1, 0, 0) from rfl) (v := Int32.ofInt v1) rfl ?_
  rcases zt_bxE h with ⟨a1, s2, hca1, h⟩ | ⟨E, s2, hca1, h⟩
  · refine zt_callV (d := 0) zy_127 (show q_ins q_k127 2 = some (.invokevirtual 212, 167, 1) from rfl) zy_167 (by decide) ⟨zq_lt (by decide), by decide⟩ rfl (by simp [Value.category]) (by simp [lg_sl, Value.category]) (zt_rcv zc_0) (zt_dm (by decide) (S_C_needPlayer hca1)) ?_
    refine zt_aload_n zy_127 (show q_ins q_k127 5 = some (.aload_n 0, 0, 0) from rfl) (v := 0) rfl ?_
    refine zt_getR zy_127 (show q_ins q_k127 6 = some (.getfield 41, 10, 5) from rfl) (r := 6) zk_0_5 ?_
    refine zt_iload_n zy_127 (show q_ins q_k127 9 = some (.iload_n 1, 0, 0) from rfl) (v := Int32.ofInt v1) rfl ?_
    obtain ⟨a3, s4, hca3, h⟩ := zt_bdE h
    refine zt_callV (d := 0) zy_127 (show q_ins q_k127 10 = some (.invokevirtual 215, 60, 1) from rfl) zy_60 (by decide) ⟨zq_lt (by decide), by decide⟩ rfl (by simp [Value.category]) (by simp [lg_sl, Value.category]) (zt_rcv zc_6) (zt_dm (by decide) (S_Tb_handOf (by decide) hca3)) ?_
    refine zt_lstore_n zy_127 (show q_ins q_k127 13 = some (.lstore_n 3, 0, 0) from rfl) (by decide) ?_
    refine zt_iload_n zy_127 (show q_ins q_k127 14 = some (.iload_n 2, 0, 0) from rfl) (v := Int32.ofInt v2) rfl ?_
    obtain ⟨hg, h⟩ := zt_ckE h
    refine zt_if_lt zy_127 (show q_ins q_k127 15 = some (.ifCond .lt 11, 26, 0) from rfl) (hg) (fun hc => ?_) (fun hc => ?_)
    · rw [if_pos hc] at h
      exact zt_wk (zt_cov_nil) (S_C_inHand_26  _ _ h)
    · rw [if_neg hc] at h
      refine zt_iload_n zy_127 (show q_ins q_k127 18 = some (.iload_n 2, 0, 0) from rfl) (v := Int32.ofInt v2) rfl ?_
      refine zt_lload_n zy_127 (show q_ins q_k127 19 = some (.lload_n 3, 0, 0) from rfl) (v := a3) rfl ?_
      obtain ⟨a5, s6, hca5, h⟩ := zt_bdE h
      refine zt_callS (d := 0) zy_127 (show q_ins q_k127 20 = some (.invokestatic 219, 352, 1) from rfl) zy_352 (by decide) ⟨zq_lt (by decide), by decide⟩ rfl (by simp [Value.category]) (by simp [lg_sl, Value.category]) rfl (zt_dm (by decide) (S_J_bitCount hca5)) ?_
      obtain ⟨hg, h⟩ := zt_ckE h
      refine zt_icmp_lt zy_127 (show q_ins q_k127 23 = some (.if_icmp .lt 11, 34, 0) from rfl) (⟨hg.1, hg.2⟩) (fun hc => ?_) (fun hc => ?_)
      · rw [if_pos hc] at h
        refine zt_iconst zy_127 (show q_ins q_k127 34 = some (.iconst 0, 0, 0) from rfl) ?_
        refine zt_istore zy_127 (show q_ins q_k127 35 = some (.istore 5, 0, 0) from rfl) (by decide) ?_
        refine zt_iconst zy_127 (show q_ins q_k127 37 = some (.iconst 0, 0, 0) from rfl) ?_
        refine zt_istore zy_127 (show q_ins q_k127 38 = some (.istore 6, 0, 0) from rfl) (by decide) ?_
        exact zt_wk (zt_cov_cons rfl (zt_cov_cons rfl (zt_cov_cons rfl (zt_cov_cons rfl (zt_cov_nil))))) (S_C_inHand_40  _ _ _ _ _ _ _ h)
      · rw [if_neg hc] at h
        exact zt_wk (zt_cov_nil) (S_C_inHand_26  _ _ h)
  · cases h
    exact zt_callVX (d := 0) zy_127 (show q_ins q_k127 2 = some (.invokevirtual 212, 167, 1) from rfl) zy_167 (by decide) ⟨zq_lt (by decide), by decide⟩ rfl (by simp [Value.category]) (by simp [lg_sl, Value.category]) (zt_rcv zc_0) (zt_dm (by decide) (S_C_needPlayer hca1))
theorem S_C_needSuit_9 {X : q_X}   : ∀  (σ : zt_S) (o : ((Unit ⊕ Nat) × zt_S)), F_C_needSuit_9   σ = some o → zt_Ex X 0 168 9 [] [] (zt_M T σ) (zx_V T o) := by
  intro  σ o  h
  unfold F_C_needSuit_9 at h
  cases h
  exact zt_new (E := 0) zy_168 (show q_ins q_k168 9 = some (.new 197, 1000, 199) from rfl) rfl (by decide) (by show _ ≤ _; simp [Value.category])
theorem S_C_needSuit {X : q_X}   {v1 : Int} {σ : zt_S} {o : ((Unit ⊕ Nat) × zt_S)} (h : F_C_needSuit  v1 σ = some o) : zt_Ex X 0 168 0 (lv_args 0 [.ref 0, .int (Int32.ofInt v1)]) [] (zt_M T σ) (zx_V T o) := by
  unfold F_C_needSuit at h
  refine zt_iload_n zy_168 (show q_ins q_k168 0 = some (.iload_n 1, 0, 0) from rfl) (v := Int32.ofInt v1) rfl ?_
  obtain ⟨hg, h⟩ := zt_ckE h
  refine zt_if_lt zy_168 (show q_ins q_k168 1 = some (.ifCond .lt 8, 9, 0) from rfl) (hg) (fun hc => ?_) (fun hc => ?_)
  · rw [if_pos hc] at h
    exact zt_wk (zt_cov_nil) (S_C_needSuit_9  _ _ h)
  · rw [if_neg hc] at h
    refine zt_iload_n zy_168 (show q_ins q_k168 4 = some (.iload_n 1, 0, 0) from rfl) (v := Int32.ofInt v1) rfl ?_
    refine zt_iconst zy_168 (show q_ins q_k168 5 = some (.iconst 4, 0, 0) from rfl) ?_
    obtain ⟨hg, h⟩ := zt_ckE h
    refine zt_icmp_lt zy_168 (show q_ins q_k168 6 = some (.if_icmp .lt 11, 17, 0) from rfl) (⟨hg, by decide⟩) (fun hc => ?_) (fun hc => ?_)
    · rw [if_pos hc] at h
      cases h
      exact zt_ret zy_168 (show q_ins q_k168 17 = some (.return_, 0, 0) from rfl)
    · rw [if_neg hc] at h
      exact zt_wk (zt_cov_nil) (S_C_needSuit_9  _ _ h)
theorem S_C_ofSuit {X : q_X}   {v1 : Int} {v2 : Int} {σ : zt_S} {o : ((Int ⊕ Nat) × zt_S)} (h : F_C_ofSuit  v1 v2 σ = some o) : zt_Ex X 1 128 0 (lv_args 0 [.ref 0, .int (Int32.ofInt v1), .int (Int32.ofInt v2)]) [] (zt_M T σ) (zx_I T o) := by
  unfold F_C_ofSuit at h
  refine zt_aload_n zy_128 (show q_ins q_k128 0 = some (.aload_n 0, 0, 0) from rfl) (v := 0) rfl ?_
  refine zt_iload_n zy_128 (show q_ins q_k128 1 = some (.iload_n 1, 0, 0) from rfl) (v := Int32.ofInt v1) rfl ?_
  rcases zt_bxE h with ⟨a1, s2, hca1, h⟩ | ⟨E, s2, hca1, h⟩
  · refine zt_callV (d := 0) zy_128 (show q_ins q_k128 2 = some (.invokevirtual 212, 167, 1) from rfl) zy_167 (by decide) ⟨zq_lt (by decide), by decide⟩ rfl (by simp [Value.category]) (by simp [lg_sl, Value.category]) (zt_rcv zc_0) (zt_dm (by decide) (S_C_needPlayer hca1)) ?_
    refine zt_aload_n zy_128 (show q_ins q_k128 5 = some (.aload_n 0, 0, 0) from rfl) (v := 0) rfl ?_
    refine zt_iload_n zy_128 (show q_ins q_k128 6 = some (.iload_n 2, 0, 0) from rfl) (v := Int32.ofInt v2) rfl ?_
    rcases zt_bxE h with ⟨a3, s4, hca3, h⟩ | ⟨E, s4, hca3, h⟩
    · refine zt_callV (d := 0) zy_128 (show q_ins q_k128 7 = some (.invokevirtual 231, 168, 1) from rfl) zy_168 (by decide) ⟨zq_lt (by decide), by decide⟩ rfl (by simp [Value.category]) (by simp [lg_sl, Value.category]) (zt_rcv zc_0) (zt_dm (by decide) (S_C_needSuit hca3)) ?_
      refine zt_aload_n zy_128 (show q_ins q_k128 10 = some (.aload_n 0, 0, 0) from rfl) (v := 0) rfl ?_
      refine zt_getR zy_128 (show q_ins q_k128 11 = some (.getfield 41, 10, 5) from rfl) (r := 6) zk_0_5 ?_
      refine zt_iload_n zy_128 (show q_ins q_k128 14 = some (.iload_n 1, 0, 0) from rfl) (v := Int32.ofInt v1) rfl ?_
      obtain ⟨a5, s6, hca5, h⟩ := zt_bdE h
      refine zt_callV (d := 0) zy_128 (show q_ins q_k128 15 = some (.invokevirtual 215, 60, 1) from rfl) zy_60 (by decide) ⟨zq_lt (by decide), by decide⟩ rfl (by simp [Value.category]) (by simp [lg_sl, Value.category]) (zt_rcv zc_6) (zt_dm (by decide) (S_Tb_handOf (by decide) hca5)) ?_
      refine zt_aload_n zy_128 (show q_ins q_k128 18 = some (.aload_n 0, 0, 0) from rfl) (v := 0) rfl ?_
      refine zt_getR zy_128 (show q_ins q_k128 19 = some (.getfield 25, 10, 3) from rfl) (r := 3) zk_0_3 ?_
      refine zt_iload_n zy_128 (show q_ins q_k128 22 = some (.iload_n 2, 0, 0) from rfl) (v := Int32.ofInt v2) rfl ?_
      obtain ⟨a7, s8, hca7, h⟩ := zt_bdE h
      refine zt_callV (d := 0) zy_128 (show q_ins q_k128 23 = some (.invokevirtual 234, 36, 1) from rfl) zy_36 (by decide) ⟨zq_lt (by decide), by decide⟩ rfl (by simp [Value.category]) (by simp [lg_sl, Value.category]) (zt_rcv zc_3) (zt_dm (by decide) (S_Su_cardsOf (by decide) hca7)) ?_
      refine zt_land zy_128 (show q_ins q_k128 26 = some (.land, 0, 0) from rfl) ?_
      obtain ⟨a9, s10, hca9, h⟩ := zt_bdE h
      refine zt_callS (d := 0) zy_128 (show q_ins q_k128 27 = some (.invokestatic 219, 352, 1) from rfl) zy_352 (by decide) ⟨zq_lt (by decide), by decide⟩ rfl (by simp [Value.category]) (by simp [lg_sl, Value.category]) rfl (zt_dm (by decide) (S_J_bitCount hca9)) ?_
      cases h
      exact zt_iret zy_128 (show q_ins q_k128 30 = some (.ireturn, 0, 0) from rfl)
    · cases h
      exact zt_callVX (d := 0) zy_128 (show q_ins q_k128 7 = some (.invokevirtual 231, 168, 1) from rfl) zy_168 (by decide) ⟨zq_lt (by decide), by decide⟩ rfl (by simp [Value.category]) (by simp [lg_sl, Value.category]) (zt_rcv zc_0) (zt_dm (by decide) (S_C_needSuit hca3))
  · cases h
    exact zt_callVX (d := 0) zy_128 (show q_ins q_k128 2 = some (.invokevirtual 212, 167, 1) from rfl) zy_167 (by decide) ⟨zq_lt (by decide), by decide⟩ rfl (by simp [Value.category]) (by simp [lg_sl, Value.category]) (zt_rcv zc_0) (zt_dm (by decide) (S_C_needPlayer hca1))
theorem S_C_isLegal {X : q_X}   {v1 : Int} {σ : zt_S} {o : ((Int ⊕ Nat) × zt_S)} (h : F_C_isLegal  v1 σ = some o) : zt_Ex X 3 129 0 (lv_args 0 [.ref 0, .int (Int32.ofInt v1)]) [] (zt_M T σ) (zx_I T o) := by
  unfold F_C_isLegal at h
  refine zt_aload_n zy_129 (show q_ins q_k129 0 = some (.aload_n 0, 0, 0) from rfl) (v := 0) rfl ?_
  refine zt_iload_n zy_129 (show q_ins q_k129 1 = some (.iload_n 1, 0, 0) from rfl) (v := Int32.ofInt v1) rfl ?_
  rcases zt_bxE h with ⟨a1, s2, hca1, h⟩ | ⟨E, s2, hca1, h⟩
  · refine zt_callV (d := 2) zy_129 (show q_ins q_k129 2 = some (.invokevirtual 200, 166, 1) from rfl) zy_166 (by decide) ⟨zq_lt (by decide), by decide⟩ rfl (by simp [Value.category]) (by simp [lg_sl, Value.category]) (zt_rcv zc_0) (zt_dm (by decide) (S_C_needCard hca1)) ?_
    refine zt_aload_n zy_129 (show q_ins q_k129 5 = some (.aload_n 0, 0, 0) from rfl) (v := 0) rfl ?_
    refine zt_getR zy_129 (show q_ins q_k129 6 = some (.getfield 41, 10, 5) from rfl) (r := 6) zk_0_5 ?_
    obtain ⟨a3, s4, hca3, h⟩ := zt_bdE h
    refine zt_callV (d := 2) zy_129 (show q_ins q_k129 9 = some (.invokevirtual 237, 65, 0) from rfl) zy_65 (by decide) ⟨zq_lt (by decide), by decide⟩ rfl (by simp [Value.category]) (by simp [lg_sl, Value.category]) (zt_rcv zc_6) (zt_dm (by decide) (S_Tb_allowedCards (by decide) hca3)) ?_
    refine zt_iload_n zy_129 (show q_ins q_k129 12 = some (.iload_n 1, 0, 0) from rfl) (v := Int32.ofInt v1) rfl ?_
    obtain ⟨a5, s6, hca5, h⟩ := zt_bdE h
    refine zt_callS (d := 2) zy_129 (show q_ins q_k129 13 = some (.invokestatic 225, 314, 2) from rfl) zy_314 (by decide) ⟨zq_lt (by decide), by decide⟩ rfl (by simp [Value.category]) (by simp [lg_sl, Value.category]) rfl (zt_dm (by decide) (S_Rw_has hca5)) ?_
    obtain ⟨hg, h⟩ := zt_ckE h
    cases h
    exact zt_zret zy_129 (show q_ins q_k129 16 = some (.ireturn, 0, 0) from rfl) hg
  · cases h
    exact zt_callVX (d := 2) zy_129 (show q_ins q_k129 2 = some (.invokevirtual 200, 166, 1) from rfl) zy_166 (by decide) ⟨zq_lt (by decide), by decide⟩ rfl (by simp [Value.category]) (by simp [lg_sl, Value.category]) (zt_rcv zc_0) (zt_dm (by decide) (S_C_needCard hca1))
theorem S_C_legal {X : q_X}    {σ : zt_S} {o : (Int × zt_S)} (h : F_C_legal   σ = some o) : zt_Ex X 3 130 0 (lv_args 0 [.ref 0]) [] (zt_M T σ) (zo_I T o) := by
  unfold F_C_legal at h
  refine zt_aload_n zy_130 (show q_ins q_k130 0 = some (.aload_n 0, 0, 0) from rfl) (v := 0) rfl ?_
  refine zt_getR zy_130 (show q_ins q_k130 1 = some (.getfield 41, 10, 5) from rfl) (r := 6) zk_0_5 ?_
  obtain ⟨a1, s2, hca1, h⟩ := zt_bdE h
  refine zt_callV (d := 2) zy_130 (show q_ins q_k130 4 = some (.invokevirtual 237, 65, 0) from rfl) zy_65 (by decide) ⟨zq_lt (by decide), by decide⟩ rfl (by simp [Value.category]) (by simp [lg_sl, Value.category]) (zt_rcv zc_6) (zt_dm (by decide) (S_Tb_allowedCards (by decide) hca1)) ?_
  obtain ⟨a3, s4, hca3, h⟩ := zt_bdE h
  refine zt_callS (d := 2) zy_130 (show q_ins q_k130 7 = some (.invokestatic 219, 352, 1) from rfl) zy_352 (by decide) ⟨zq_lt (by decide), by decide⟩ rfl (by simp [Value.category]) (by simp [lg_sl, Value.category]) rfl (zt_dm (by decide) (S_J_bitCount hca3)) ?_
  cases h
  exact zt_iret zy_130 (show q_ins q_k130 10 = some (.ireturn, 0, 0) from rfl)
theorem S_C_power {X : q_X}   {v1 : Int} {σ : zt_S} {o : ((Int ⊕ Nat) × zt_S)} (h : F_C_power  v1 σ = some o) : zt_Ex X 2 131 0 (lv_args 0 [.ref 0, .int (Int32.ofInt v1)]) [] (zt_M T σ) (zx_I T o) := by
  unfold F_C_power at h
  refine zt_aload_n zy_131 (show q_ins q_k131 0 = some (.aload_n 0, 0, 0) from rfl) (v := 0) rfl ?_
  refine zt_iload_n zy_131 (show q_ins q_k131 1 = some (.iload_n 1, 0, 0) from rfl) (v := Int32.ofInt v1) rfl ?_
  rcases zt_bxE h with ⟨a1, s2, hca1, h⟩ | ⟨E, s2, hca1, h⟩
  · refine zt_callV (d := 1) zy_131 (show q_ins q_k131 2 = some (.invokevirtual 200, 166, 1) from rfl) zy_166 (by decide) ⟨zq_lt (by decide), by decide⟩ rfl (by simp [Value.category]) (by simp [lg_sl, Value.category]) (zt_rcv zc_0) (zt_dm (by decide) (S_C_needCard hca1)) ?_
    refine zt_aload_n zy_131 (show q_ins q_k131 5 = some (.aload_n 0, 0, 0) from rfl) (v := 0) rfl ?_
    refine zt_getR zy_131 (show q_ins q_k131 6 = some (.getfield 41, 10, 5) from rfl) (r := 6) zk_0_5 ?_
    refine zt_getR zy_131 (show q_ins q_k131 9 = some (.getfield 157, 6, 1) from rfl) (r := 7) zk_6_1 ?_
    refine zt_aload_n zy_131 (show q_ins q_k131 12 = some (.aload_n 0, 0, 0) from rfl) (v := 0) rfl ?_
    refine zt_getR zy_131 (show q_ins q_k131 13 = some (.getfield 25, 10, 3) from rfl) (r := 3) zk_0_3 ?_
    refine zt_iload_n zy_131 (show q_ins q_k131 16 = some (.iload_n 1, 0, 0) from rfl) (v := Int32.ofInt v1) rfl ?_
    obtain ⟨a3, s4, hca3, h⟩ := zt_bdE h
    refine zt_callV (d := 1) zy_131 (show q_ins q_k131 17 = some (.invokevirtual 241, 108, 2) from rfl) zy_108 (by decide) ⟨zq_lt (by decide), by decide⟩ rfl (by simp [Value.category]) (by simp [lg_sl, Value.category]) (zt_rcv zc_7) (zt_dm (by decide) (S_Tr_powerOf (by decide) (by decide) hca3)) ?_
    cases h
    exact zt_iret zy_131 (show q_ins q_k131 20 = some (.ireturn, 0, 0) from rfl)
  · cases h
    exact zt_callVX (d := 1) zy_131 (show q_ins q_k131 2 = some (.invokevirtual 200, 166, 1) from rfl) zy_166 (by decide) ⟨zq_lt (by decide), by decide⟩ rfl (by simp [Value.category]) (by simp [lg_sl, Value.category]) (zt_rcv zc_0) (zt_dm (by decide) (S_C_needCard hca1))
theorem S_C_led {X : q_X}    {σ : zt_S} {o : (Int × zt_S)} (h : F_C_led   σ = some o) : zt_Ex X 0 132 0 (lv_args 0 [.ref 0]) [] (zt_M T σ) (zo_I T o) := by
  unfold F_C_led at h
  refine zt_aload_n zy_132 (show q_ins q_k132 0 = some (.aload_n 0, 0, 0) from rfl) (v := 0) rfl ?_
  refine zt_getR zy_132 (show q_ins q_k132 1 = some (.getfield 41, 10, 5) from rfl) (r := 6) zk_0_5 ?_
  refine zt_getR zy_132 (show q_ins q_k132 4 = some (.getfield 157, 6, 1) from rfl) (r := 7) zk_6_1 ?_
  refine zt_getI zy_132 (show q_ins q_k132 7 = some (.getfield 245, 9, 3) from rfl) (j := 3) zk_7_3 rfl ?_
  cases h
  exact zt_iret zy_132 (show q_ins q_k132 10 = some (.ireturn, 0, 0) from rfl)
theorem S_C_winning {X : q_X}    {σ : zt_S} {o : (Int × zt_S)} (h : F_C_winning   σ = some o) : zt_Ex X 0 133 0 (lv_args 0 [.ref 0]) [] (zt_M T σ) (zo_I T o) := by
  unfold F_C_winning at h
  refine zt_aload_n zy_133 (show q_ins q_k133 0 = some (.aload_n 0, 0, 0) from rfl) (v := 0) rfl ?_
  refine zt_getR zy_133 (show q_ins q_k133 1 = some (.getfield 41, 10, 5) from rfl) (r := 6) zk_0_5 ?_
  refine zt_getR zy_133 (show q_ins q_k133 4 = some (.getfield 157, 6, 1) from rfl) (r := 7) zk_6_1 ?_
  refine zt_getI zy_133 (show q_ins q_k133 7 = some (.getfield 248, 9, 6) from rfl) (j := 6) zk_7_6 rfl ?_
  cases h
  exact zt_iret zy_133 (show q_ins q_k133 10 = some (.ireturn, 0, 0) from rfl)
theorem S_C_wouldLead {X : q_X}   {v1 : Int} {σ : zt_S} {o : ((Int ⊕ Nat) × zt_S)} (h : F_C_wouldLead  v1 σ = some o) : zt_Ex X 3 134 0 (lv_args 0 [.ref 0, .int (Int32.ofInt v1)]) [] (zt_M T σ) (zx_I T o) := by
  unfold F_C_wouldLead at h
  refine zt_aload_n zy_134 (show q_ins q_k134 0 = some (.aload_n 0, 0, 0) from rfl) (v := 0) rfl ?_
  refine zt_iload_n zy_134 (show q_ins q_k134 1 = some (.iload_n 1, 0, 0) from rfl) (v := Int32.ofInt v1) rfl ?_
  rcases zt_bxE h with ⟨a1, s2, hca1, h⟩ | ⟨E, s2, hca1, h⟩
  · refine zt_callV (d := 2) zy_134 (show q_ins q_k134 2 = some (.invokevirtual 200, 166, 1) from rfl) zy_166 (by decide) ⟨zq_lt (by decide), by decide⟩ rfl (by simp [Value.category]) (by simp [lg_sl, Value.category]) (zt_rcv zc_0) (zt_dm (by decide) (S_C_needCard hca1)) ?_
    refine zt_aload_n zy_134 (show q_ins q_k134 5 = some (.aload_n 0, 0, 0) from rfl) (v := 0) rfl ?_
    refine zt_getR zy_134 (show q_ins q_k134 6 = some (.getfield 41, 10, 5) from rfl) (r := 6) zk_0_5 ?_
    refine zt_getR zy_134 (show q_ins q_k134 9 = some (.getfield 157, 6, 1) from rfl) (r := 7) zk_6_1 ?_
    refine zt_aload_n zy_134 (show q_ins q_k134 12 = some (.aload_n 0, 0, 0) from rfl) (v := 0) rfl ?_
    refine zt_getR zy_134 (show q_ins q_k134 13 = some (.getfield 25, 10, 3) from rfl) (r := 3) zk_0_3 ?_
    refine zt_iload_n zy_134 (show q_ins q_k134 16 = some (.iload_n 1, 0, 0) from rfl) (v := Int32.ofInt v1) rfl ?_
    obtain ⟨a3, s4, hca3, h⟩ := zt_bdE h
    refine zt_callV (d := 2) zy_134 (show q_ins q_k134 17 = some (.invokevirtual 251, 110, 2) from rfl) zy_110 (by decide) ⟨zq_lt (by decide), by decide⟩ rfl (by simp [Value.category]) (by simp [lg_sl, Value.category]) (zt_rcv zc_7) (zt_dm (by decide) (S_Tr_wouldBeBest (by decide) (by decide) hca3)) ?_
    obtain ⟨hg, h⟩ := zt_ckE h
    cases h
    exact zt_zret zy_134 (show q_ins q_k134 20 = some (.ireturn, 0, 0) from rfl) hg
  · cases h
    exact zt_callVX (d := 2) zy_134 (show q_ins q_k134 2 = some (.invokevirtual 200, 166, 1) from rfl) zy_166 (by decide) ⟨zq_lt (by decide), by decide⟩ rfl (by simp [Value.category]) (by simp [lg_sl, Value.category]) (zt_rcv zc_0) (zt_dm (by decide) (S_C_needCard hca1))
theorem S_C_played_15 {X : q_X}   : ∀  (σ : zt_S) (o : ((Int ⊕ Nat) × zt_S)), F_C_played_15   σ = some o → zt_Ex X 1 135 15 [] [] (zt_M T σ) (zx_I T o) := by
  intro  σ o  h
  unfold F_C_played_15 at h
  cases h
  exact zt_new (E := 0) zy_135 (show q_ins q_k135 15 = some (.new 197, 1000, 199) from rfl) rfl (by decide) (by show _ ≤ _; simp [Value.category])
theorem S_C_played {X : q_X}   {v1 : Int} {v2 : Int} {σ : zt_S} {o : ((Int ⊕ Nat) × zt_S)} (h : F_C_played  v1 v2 σ = some o) : zt_Ex X 1 135 0 (lv_args 0 [.ref 0, .int (Int32.ofInt v1), .int (Int32.ofInt v2)]) [] (zt_M T σ) (zx_I T o) := by
  unfold F_C_played at h
  refine zt_iload_n zy_135 (show q_ins q_k135 0 = some (.iload_n 1, 0, 0) from rfl) (v := Int32.ofInt v1) rfl ?_
  obtain ⟨hg, h⟩ := zt_ckE h
  refine zt_if_lt zy_135 (show q_ins q_k135 1 = some (.ifCond .lt 14, 15, 0) from rfl) (hg) (fun hc => ?_) (fun hc => ?_)
  · rw [if_pos hc] at h
    exact zt_wk (zt_cov_nil) (S_C_played_15  _ _ h)
  · rw [if_neg hc] at h
    refine zt_iload_n zy_135 (show q_ins q_k135 4 = some (.iload_n 1, 0, 0) from rfl) (v := Int32.ofInt v1) rfl ?_
    refine zt_aload_n zy_135 (show q_ins q_k135 5 = some (.aload_n 0, 0, 0) from rfl) (v := 0) rfl ?_
    refine zt_getR zy_135 (show q_ins q_k135 6 = some (.getfield 41, 10, 5) from rfl) (r := 6) zk_0_5 ?_
    refine zt_getI zy_135 (show q_ins q_k135 9 = some (.getfield 191, 6, 16) from rfl) (j := 16) zk_6_16 rfl ?_
    obtain ⟨hg, h⟩ := zt_ckE h
    refine zt_icmp_lt zy_135 (show q_ins q_k135 12 = some (.if_icmp .lt 11, 23, 0) from rfl) (⟨hg.1, hg.2⟩) (fun hc => ?_) (fun hc => ?_)
    · rw [if_pos hc] at h
      refine zt_iload_n zy_135 (show q_ins q_k135 23 = some (.iload_n 2, 0, 0) from rfl) (v := Int32.ofInt v2) rfl ?_
      obtain ⟨hg, h⟩ := zt_ckE h
      by_cases hc0 : v2 = (0 : Int)
      · rw [if_pos hc0] at h
        refine zt_sw zy_135 (show q_ins q_k135 24 = some (.tableswitch 61 0 2 #[28, 40, 52], 0, 28) from rfl) hc0 (t := 52) (by decide) ?_
        refine zt_aload_n zy_135 (show q_ins q_k135 52 = some (.aload_n 0, 0, 0) from rfl) (v := 0) rfl ?_
        refine zt_getR zy_135 (show q_ins q_k135 53 = some (.getfield 41, 10, 5) from rfl) (r := 6) zk_0_5 ?_
        refine zt_getR zy_135 (show q_ins q_k135 56 = some (.getfield 255, 6, 7) from rfl) (r := 13) zk_6_7 ?_
        refine zt_iload_n zy_135 (show q_ins q_k135 59 = some (.iload_n 1, 0, 0) from rfl) (v := Int32.ofInt v1) rfl ?_
        obtain ⟨a1, s2, hca1, h⟩ := zt_bdE h
        refine zt_callS (d := 0) zy_135 (show q_ins q_k135 60 = some (.invokestatic 259, 309, 2) from rfl) zy_309 (by decide) ⟨zq_lt (by decide), by decide⟩ rfl (by simp [Value.category]) (by simp [lg_sl, Value.category]) rfl (zt_dm (by decide) (S_Rw_at za_13 (by decide) hca1)) ?_
        cases h
        exact zt_iret zy_135 (show q_ins q_k135 63 = some (.ireturn, 0, 0) from rfl)
      rw [if_neg hc0] at h
      by_cases hc1 : v2 = (1 : Int)
      · rw [if_pos hc1] at h
        refine zt_sw zy_135 (show q_ins q_k135 24 = some (.tableswitch 61 0 2 #[28, 40, 52], 0, 28) from rfl) hc1 (t := 64) (by decide) ?_
        refine zt_aload_n zy_135 (show q_ins q_k135 64 = some (.aload_n 0, 0, 0) from rfl) (v := 0) rfl ?_
        refine zt_getR zy_135 (show q_ins q_k135 65 = some (.getfield 41, 10, 5) from rfl) (r := 6) zk_0_5 ?_
        refine zt_getR zy_135 (show q_ins q_k135 68 = some (.getfield 263, 6, 8) from rfl) (r := 14) zk_6_8 ?_
        refine zt_iload_n zy_135 (show q_ins q_k135 71 = some (.iload_n 1, 0, 0) from rfl) (v := Int32.ofInt v1) rfl ?_
        obtain ⟨a3, s4, hca3, h⟩ := zt_bdE h
        refine zt_callS (d := 0) zy_135 (show q_ins q_k135 72 = some (.invokestatic 259, 309, 2) from rfl) zy_309 (by decide) ⟨zq_lt (by decide), by decide⟩ rfl (by simp [Value.category]) (by simp [lg_sl, Value.category]) rfl (zt_dm (by decide) (S_Rw_at za_14 (by decide) hca3)) ?_
        cases h
        exact zt_iret zy_135 (show q_ins q_k135 75 = some (.ireturn, 0, 0) from rfl)
      rw [if_neg hc1] at h
      by_cases hc2 : v2 = (2 : Int)
      · rw [if_pos hc2] at h
        refine zt_sw zy_135 (show q_ins q_k135 24 = some (.tableswitch 61 0 2 #[28, 40, 52], 0, 28) from rfl) hc2 (t := 76) (by decide) ?_
        refine zt_aload_n zy_135 (show q_ins q_k135 76 = some (.aload_n 0, 0, 0) from rfl) (v := 0) rfl ?_
        refine zt_getR zy_135 (show q_ins q_k135 77 = some (.getfield 25, 10, 3) from rfl) (r := 3) zk_0_3 ?_
        refine zt_iload_n zy_135 (show q_ins q_k135 80 = some (.iload_n 1, 0, 0) from rfl) (v := Int32.ofInt v1) rfl ?_
        obtain ⟨a5, s6, hca5, h⟩ := zt_bdE h
        refine zt_callV (d := 0) zy_135 (show q_ins q_k135 81 = some (.invokevirtual 266, 35, 1) from rfl) zy_35 (by decide) ⟨zq_lt (by decide), by decide⟩ rfl (by simp [Value.category]) (by simp [lg_sl, Value.category]) (zt_rcv zc_3) (zt_dm (by decide) (S_Su_trickOf (by decide) hca5)) ?_
        cases h
        exact zt_iret zy_135 (show q_ins q_k135 84 = some (.ireturn, 0, 0) from rfl)
      rw [if_neg hc2] at h
      refine zt_sw0 zy_135 (show q_ins q_k135 24 = some (.tableswitch 61 0 2 #[28, 40, 52], 0, 28) from rfl) (hg) (by omega) (t := 85) (by decide) ?_
      cases h
      exact zt_new (E := 0) zy_135 (show q_ins q_k135 85 = some (.new 197, 1000, 199) from rfl) rfl (by decide) (by show _ ≤ _; simp [Value.category])
    · rw [if_neg hc] at h
      exact zt_wk (zt_cov_nil) (S_C_played_15  _ _ h)
theorem S_C_trick_25 {X : q_X}   : ∀  (σ : zt_S) (o : ((Int ⊕ Nat) × zt_S)), F_C_trick_25   σ = some o → zt_Ex X 1 136 25 [] [] (zt_M T σ) (zx_I T o) := by
  intro  σ o  h
  unfold F_C_trick_25 at h
  cases h
  exact zt_new (E := 0) zy_136 (show q_ins q_k136 25 = some (.new 197, 1000, 199) from rfl) rfl (by decide) (by show _ ≤ _; simp [Value.category])
theorem S_C_trick {X : q_X}   {v1 : Int} {v2 : Int} {σ : zt_S} {o : ((Int ⊕ Nat) × zt_S)} (h : F_C_trick  v1 v2 σ = some o) : zt_Ex X 1 136 0 (lv_args 0 [.ref 0, .int (Int32.ofInt v1), .int (Int32.ofInt v2)]) [] (zt_M T σ) (zx_I T o) := by
  unfold F_C_trick at h
  refine zt_iload_n zy_136 (show q_ins q_k136 0 = some (.iload_n 1, 0, 0) from rfl) (v := Int32.ofInt v1) rfl ?_
  obtain ⟨hg, h⟩ := zt_ckE h
  refine zt_if_lt zy_136 (show q_ins q_k136 1 = some (.ifCond .lt 24, 25, 0) from rfl) (hg) (fun hc => ?_) (fun hc => ?_)
  · rw [if_pos hc] at h
    exact zt_wk (zt_cov_nil) (S_C_trick_25  _ _ h)
  · rw [if_neg hc] at h
    refine zt_iload_n zy_136 (show q_ins q_k136 4 = some (.iload_n 1, 0, 0) from rfl) (v := Int32.ofInt v1) rfl ?_
    refine zt_aload_n zy_136 (show q_ins q_k136 5 = some (.aload_n 0, 0, 0) from rfl) (v := 0) rfl ?_
    refine zt_getR zy_136 (show q_ins q_k136 6 = some (.getfield 41, 10, 5) from rfl) (r := 6) zk_0_5 ?_
    refine zt_getI zy_136 (show q_ins q_k136 9 = some (.getfield 188, 6, 17) from rfl) (j := 17) zk_6_17 rfl ?_
    obtain ⟨hg, h⟩ := zt_ckE h
    refine zt_icmp_ge zy_136 (show q_ins q_k136 12 = some (.if_icmp .ge 13, 25, 0) from rfl) (⟨hg.1, hg.2⟩) (fun hc => ?_) (fun hc => ?_)
    · rw [if_pos hc] at h
      refine zt_iload_n zy_136 (show q_ins q_k136 15 = some (.iload_n 2, 0, 0) from rfl) (v := Int32.ofInt v2) rfl ?_
      obtain ⟨hg, h⟩ := zt_ckE h
      refine zt_if_lt zy_136 (show q_ins q_k136 16 = some (.ifCond .lt 9, 25, 0) from rfl) (hg) (fun hc => ?_) (fun hc => ?_)
      · rw [if_pos hc] at h
        exact zt_wk (zt_cov_nil) (S_C_trick_25  _ _ h)
      · rw [if_neg hc] at h
        refine zt_iload_n zy_136 (show q_ins q_k136 19 = some (.iload_n 2, 0, 0) from rfl) (v := Int32.ofInt v2) rfl ?_
        refine zt_bipush zy_136 (show q_ins q_k136 20 = some (.bipush 6, 0, 0) from rfl) (by decide) ?_
        obtain ⟨hg, h⟩ := zt_ckE h
        refine zt_icmp_lt zy_136 (show q_ins q_k136 22 = some (.if_icmp .lt 11, 33, 0) from rfl) (⟨hg, by decide⟩) (fun hc => ?_) (fun hc => ?_)
        · rw [if_pos hc] at h
          refine zt_aload_n zy_136 (show q_ins q_k136 33 = some (.aload_n 0, 0, 0) from rfl) (v := 0) rfl ?_
          refine zt_getR zy_136 (show q_ins q_k136 34 = some (.getfield 41, 10, 5) from rfl) (r := 6) zk_0_5 ?_
          refine zt_getR zy_136 (show q_ins q_k136 37 = some (.getfield 269, 6, 9) from rfl) (r := 15) zk_6_9 ?_
          refine zt_iload_n zy_136 (show q_ins q_k136 40 = some (.iload_n 1, 0, 0) from rfl) (v := Int32.ofInt v1) rfl ?_
          refine zt_bipush zy_136 (show q_ins q_k136 41 = some (.bipush 6, 0, 0) from rfl) (by decide) ?_
          refine zt_imul zy_136 (show q_ins q_k136 43 = some (.imul, 0, 0) from rfl) ?_
          refine zt_iload_n zy_136 (show q_ins q_k136 44 = some (.iload_n 2, 0, 0) from rfl) (v := Int32.ofInt v2) rfl ?_
          refine zt_iadd zy_136 (show q_ins q_k136 45 = some (.iadd, 0, 0) from rfl) ?_
          obtain ⟨a1, s2, hca1, h⟩ := zt_bdE h
          refine zt_callS (d := 0) zy_136 (show q_ins q_k136 46 = some (.invokestatic 259, 309, 2) from rfl) zy_309 (by decide) ⟨zq_lt (by decide), by decide⟩ rfl (by simp [Value.category]) (by simp [lg_sl, Value.category]) rfl (zt_dm (by decide) (S_Rw_at za_15 (by decide) hca1)) ?_
          cases h
          exact zt_iret zy_136 (show q_ins q_k136 49 = some (.ireturn, 0, 0) from rfl)
        · rw [if_neg hc] at h
          exact zt_wk (zt_cov_nil) (S_C_trick_25  _ _ h)
    · rw [if_neg hc] at h
      exact zt_wk (zt_cov_nil) (S_C_trick_25  _ _ h)
theorem S_C_tricks {X : q_X}   {v1 : Int} {σ : zt_S} {o : ((Int ⊕ Nat) × zt_S)} (h : F_C_tricks  v1 σ = some o) : zt_Ex X 1 137 0 (lv_args 0 [.ref 0, .int (Int32.ofInt v1)]) [] (zt_M T σ) (zx_I T o) := by
  unfold F_C_tricks at h
  refine zt_aload_n zy_137 (show q_ins q_k137 0 = some (.aload_n 0, 0, 0) from rfl) (v := 0) rfl ?_
  refine zt_iload_n zy_137 (show q_ins q_k137 1 = some (.iload_n 1, 0, 0) from rfl) (v := Int32.ofInt v1) rfl ?_
  rcases zt_bxE h with ⟨a1, s2, hca1, h⟩ | ⟨E, s2, hca1, h⟩
  · refine zt_callV (d := 0) zy_137 (show q_ins q_k137 2 = some (.invokevirtual 212, 167, 1) from rfl) zy_167 (by decide) ⟨zq_lt (by decide), by decide⟩ rfl (by simp [Value.category]) (by simp [lg_sl, Value.category]) (zt_rcv zc_0) (zt_dm (by decide) (S_C_needPlayer hca1)) ?_
    refine zt_aload_n zy_137 (show q_ins q_k137 5 = some (.aload_n 0, 0, 0) from rfl) (v := 0) rfl ?_
    refine zt_getR zy_137 (show q_ins q_k137 6 = some (.getfield 41, 10, 5) from rfl) (r := 6) zk_0_5 ?_
    refine zt_getR zy_137 (show q_ins q_k137 9 = some (.getfield 272, 6, 4) from rfl) (r := 10) zk_6_4 ?_
    refine zt_iload_n zy_137 (show q_ins q_k137 12 = some (.iload_n 1, 0, 0) from rfl) (v := Int32.ofInt v1) rfl ?_
    obtain ⟨a3, s4, hca3, h⟩ := zt_bdE h
    refine zt_callS (d := 0) zy_137 (show q_ins q_k137 13 = some (.invokestatic 259, 309, 2) from rfl) zy_309 (by decide) ⟨zq_lt (by decide), by decide⟩ rfl (by simp [Value.category]) (by simp [lg_sl, Value.category]) rfl (zt_dm (by decide) (S_Rw_at za_10 (by decide) hca3)) ?_
    cases h
    exact zt_iret zy_137 (show q_ins q_k137 16 = some (.ireturn, 0, 0) from rfl)
  · cases h
    exact zt_callVX (d := 0) zy_137 (show q_ins q_k137 2 = some (.invokevirtual 212, 167, 1) from rfl) zy_167 (by decide) ⟨zq_lt (by decide), by decide⟩ rfl (by simp [Value.category]) (by simp [lg_sl, Value.category]) (zt_rcv zc_0) (zt_dm (by decide) (S_C_needPlayer hca1))
theorem S_C_share_40 {X : q_X}   : ∀ (x0 : UInt32) (σ : zt_S) (o : ((UInt32 ⊕ Nat) × zt_S)), F_C_share_40  x0 σ = some o → zt_Ex X 1 151 40 [] [.float x0] (zt_M T σ) (zx_F T o) := by
  intro x0 σ o  h
  unfold F_C_share_40 at h
  cases h
  exact zt_fret zy_151 (show q_ins q_k151 40 = some (.freturn, 0, 0) from rfl)
theorem S_C_share {X : q_X}   {v1 : Int} {σ : zt_S} {o : ((UInt32 ⊕ Nat) × zt_S)} (h : F_C_share  v1 σ = some o) : zt_Ex X 1 151 0 (lv_args 0 [.ref 0, .int (Int32.ofInt v1)]) [] (zt_M T σ) (zx_F T o) := by
  unfold F_C_share at h
  refine zt_aload_n zy_151 (show q_ins q_k151 0 = some (.aload_n 0, 0, 0) from rfl) (v := 0) rfl ?_
  refine zt_iload_n zy_151 (show q_ins q_k151 1 = some (.iload_n 1, 0, 0) from rfl) (v := Int32.ofInt v1) rfl ?_
  rcases zt_bxE h with ⟨a1, s2, hca1, h⟩ | ⟨E, s2, hca1, h⟩
  · refine zt_callV (d := 0) zy_151 (show q_ins q_k151 2 = some (.invokevirtual 212, 167, 1) from rfl) zy_167 (by decide) ⟨zq_lt (by decide), by decide⟩ rfl (by simp [Value.category]) (by simp [lg_sl, Value.category]) (zt_rcv zc_0) (zt_dm (by decide) (S_C_needPlayer hca1)) ?_
    refine zt_aload_n zy_151 (show q_ins q_k151 5 = some (.aload_n 0, 0, 0) from rfl) (v := 0) rfl ?_
    refine zt_getR zy_151 (show q_ins q_k151 6 = some (.getfield 41, 10, 5) from rfl) (r := 6) zk_0_5 ?_
    refine zt_getI zy_151 (show q_ins q_k151 9 = some (.getfield 188, 6, 17) from rfl) (j := 17) zk_6_17 rfl ?_
    obtain ⟨hg, h⟩ := zt_ckE h
    refine zt_if_gt zy_151 (show q_ins q_k151 12 = some (.ifCond .gt 7, 19, 0) from rfl) (hg) (fun hc => ?_) (fun hc => ?_)
    · rw [if_pos hc] at h
      refine zt_aload_n zy_151 (show q_ins q_k151 19 = some (.aload_n 0, 0, 0) from rfl) (v := 0) rfl ?_
      refine zt_getR zy_151 (show q_ins q_k151 20 = some (.getfield 41, 10, 5) from rfl) (r := 6) zk_0_5 ?_
      refine zt_getR zy_151 (show q_ins q_k151 23 = some (.getfield 272, 6, 4) from rfl) (r := 10) zk_6_4 ?_
      refine zt_iload_n zy_151 (show q_ins q_k151 26 = some (.iload_n 1, 0, 0) from rfl) (v := Int32.ofInt v1) rfl ?_
      obtain ⟨a3, s4, hca3, h⟩ := zt_bdE h
      refine zt_callS (d := 0) zy_151 (show q_ins q_k151 27 = some (.invokestatic 259, 309, 2) from rfl) zy_309 (by decide) ⟨zq_lt (by decide), by decide⟩ rfl (by simp [Value.category]) (by simp [lg_sl, Value.category]) rfl (zt_dm (by decide) (S_Rw_at za_10 (by decide) hca3)) ?_
      refine zt_i2f zy_151 (show q_ins q_k151 30 = some (.i2f, 0, 0) from rfl) ?_
      refine zt_aload_n zy_151 (show q_ins q_k151 31 = some (.aload_n 0, 0, 0) from rfl) (v := 0) rfl ?_
      refine zt_getR zy_151 (show q_ins q_k151 32 = some (.getfield 41, 10, 5) from rfl) (r := 6) zk_0_5 ?_
      refine zt_getI zy_151 (show q_ins q_k151 35 = some (.getfield 188, 6, 17) from rfl) (j := 17) zk_6_17 rfl ?_
      refine zt_i2f zy_151 (show q_ins q_k151 38 = some (.i2f, 0, 0) from rfl) ?_
      obtain ⟨hg, h⟩ := zt_ckE h
      refine zt_fdiv zy_151 (show q_ins q_k151 39 = some (.fdiv, 0, 0) from rfl) hg ?_
      exact zt_wk (zt_cov_nil) (S_C_share_40  _ _ _ h)
    · rw [if_neg hc] at h
      refine zt_fconst0 zy_151 (show q_ins q_k151 15 = some (.fconst 0, 0, 0) from rfl) ?_
      refine zt_goto zy_151 (show q_ins q_k151 16 = some (.goto 24, 40, 0) from rfl) ?_
      exact zt_wk (zt_cov_nil) (S_C_share_40  _ _ _ h)
  · cases h
    exact zt_callVX (d := 0) zy_151 (show q_ins q_k151 2 = some (.invokevirtual 212, 167, 1) from rfl) zy_167 (by decide) ⟨zq_lt (by decide), by decide⟩ rfl (by simp [Value.category]) (by simp [lg_sl, Value.category]) (zt_rcv zc_0) (zt_dm (by decide) (S_C_needPlayer hca1))
theorem S_C_play_122 {X : q_X}   : ∀ (x0 : Int) (σ : zt_S) (o : ((Int ⊕ Nat) × zt_S)), F_C_play_122  x0 σ = some o → zt_Ex X 5 152 122 [] [.int (Int32.ofInt x0)] (zt_M T σ) (zx_I T o) := by
  intro x0 σ o  h
  unfold F_C_play_122 at h
  cases h
  exact zt_iret zy_152 (show q_ins q_k152 122 = some (.ireturn, 0, 0) from rfl)
theorem S_C_play {X : q_X}   {v1 : Int} {σ : zt_S} {o : ((Int ⊕ Nat) × zt_S)} (h : F_C_play  v1 σ = some o) : zt_Ex X 5 152 0 (lv_args 0 [.ref 0, .int (Int32.ofInt v1)]) [] (zt_M T σ) (zx_I T o) := by
  unfold F_C_play at h
  refine zt_aload_n zy_152 (show q_ins q_k152 0 = some (.aload_n 0, 0, 0) from rfl) (v := 0) rfl ?_
  refine zt_iload_n zy_152 (show q_ins q_k152 1 = some (.iload_n 1, 0, 0) from rfl) (v := Int32.ofInt v1) rfl ?_
  rcases zt_bxE h with ⟨a1, s2, hca1, h⟩ | ⟨E, s2, hca1, h⟩
  · refine zt_callV (d := 4) zy_152 (show q_ins q_k152 2 = some (.invokevirtual 200, 166, 1) from rfl) zy_166 (by decide) ⟨zq_lt (by decide), by decide⟩ rfl (by simp [Value.category]) (by simp [lg_sl, Value.category]) (zt_rcv zc_0) (zt_dm (by decide) (S_C_needCard hca1)) ?_
    refine zt_aload_n zy_152 (show q_ins q_k152 5 = some (.aload_n 0, 0, 0) from rfl) (v := 0) rfl ?_
    refine zt_getR zy_152 (show q_ins q_k152 6 = some (.getfield 41, 10, 5) from rfl) (r := 6) zk_0_5 ?_
    obtain ⟨a3, s4, hca3, h⟩ := zt_bdE h
    refine zt_callV (d := 4) zy_152 (show q_ins q_k152 9 = some (.invokevirtual 178, 64, 0) from rfl) zy_64 (by decide) ⟨zq_lt (by decide), by decide⟩ rfl (by simp [Value.category]) (by simp [lg_sl, Value.category]) (zt_rcv zc_6) (zt_dm (by decide) (S_Tb_isOver (by decide) hca3)) ?_
    obtain ⟨hg, h⟩ := zt_ckE h
    refine zt_if_eq zy_152 (show q_ins q_k152 12 = some (.ifCond .eq 6, 18, 0) from rfl) (hg) (fun hc => ?_) (fun hc => ?_)
    · rw [if_pos hc] at h
      refine zt_aload_n zy_152 (show q_ins q_k152 18 = some (.aload_n 0, 0, 0) from rfl) (v := 0) rfl ?_
      refine zt_getR zy_152 (show q_ins q_k152 19 = some (.getfield 41, 10, 5) from rfl) (r := 6) zk_0_5 ?_
      refine zt_iload_n zy_152 (show q_ins q_k152 22 = some (.iload_n 1, 0, 0) from rfl) (v := Int32.ofInt v1) rfl ?_
      obtain ⟨a5, s6, hca5, h⟩ := zt_bdE h
      refine zt_callV (d := 4) zy_152 (show q_ins q_k152 23 = some (.invokevirtual 209, 63, 1) from rfl) zy_63 (by decide) ⟨zq_lt (by decide), by decide⟩ rfl (by simp [Value.category]) (by simp [lg_sl, Value.category]) (zt_rcv zc_6) (zt_dm (by decide) (S_Tb_holderOf (by decide) hca5)) ?_
      refine zt_aload_n zy_152 (show q_ins q_k152 26 = some (.aload_n 0, 0, 0) from rfl) (v := 0) rfl ?_
      refine zt_getR zy_152 (show q_ins q_k152 27 = some (.getfield 41, 10, 5) from rfl) (r := 6) zk_0_5 ?_
      refine zt_getR zy_152 (show q_ins q_k152 30 = some (.getfield 157, 6, 1) from rfl) (r := 7) zk_6_1 ?_
      refine zt_getI zy_152 (show q_ins q_k152 33 = some (.getfield 182, 9, 1) from rfl) (j := 1) zk_7_1 rfl ?_
      obtain ⟨hg, h⟩ := zt_ckE h
      refine zt_icmp_eq zy_152 (show q_ins q_k152 36 = some (.if_icmp .eq 6, 42, 0) from rfl) (⟨hg.1, hg.2⟩) (fun hc => ?_) (fun hc => ?_)
      · rw [if_pos hc] at h
        refine zt_aload_n zy_152 (show q_ins q_k152 42 = some (.aload_n 0, 0, 0) from rfl) (v := 0) rfl ?_
        refine zt_getR zy_152 (show q_ins q_k152 43 = some (.getfield 41, 10, 5) from rfl) (r := 6) zk_0_5 ?_
        obtain ⟨a7, s8, hca7, h⟩ := zt_bdE h
        refine zt_callV (d := 4) zy_152 (show q_ins q_k152 46 = some (.invokevirtual 237, 65, 0) from rfl) zy_65 (by decide) ⟨zq_lt (by decide), by decide⟩ rfl (by simp [Value.category]) (by simp [lg_sl, Value.category]) (zt_rcv zc_6) (zt_dm (by decide) (S_Tb_allowedCards (by decide) hca7)) ?_
        refine zt_iload_n zy_152 (show q_ins q_k152 49 = some (.iload_n 1, 0, 0) from rfl) (v := Int32.ofInt v1) rfl ?_
        obtain ⟨a9, s10, hca9, h⟩ := zt_bdE h
        refine zt_callS (d := 4) zy_152 (show q_ins q_k152 50 = some (.invokestatic 225, 314, 2) from rfl) zy_314 (by decide) ⟨zq_lt (by decide), by decide⟩ rfl (by simp [Value.category]) (by simp [lg_sl, Value.category]) rfl (zt_dm (by decide) (S_Rw_has hca9)) ?_
        obtain ⟨hg, h⟩ := zt_ckE h
        refine zt_if_ne zy_152 (show q_ins q_k152 53 = some (.ifCond .ne 6, 59, 0) from rfl) (hg) (fun hc => ?_) (fun hc => ?_)
        · rw [if_pos hc] at h
          refine zt_bipush zy_152 (show q_ins q_k152 56 = some (.bipush (-4), 0, 0) from rfl) (by decide) ?_
          cases h
          exact zt_iret zy_152 (show q_ins q_k152 58 = some (.ireturn, 0, 0) from rfl)
        · rw [if_neg hc] at h
          refine zt_aload_n zy_152 (show q_ins q_k152 59 = some (.aload_n 0, 0, 0) from rfl) (v := 0) rfl ?_
          refine zt_getR zy_152 (show q_ins q_k152 60 = some (.getfield 48, 10, 6) from rfl) (r := 16) zk_0_6 ?_
          refine zt_aload_n zy_152 (show q_ins q_k152 63 = some (.aload_n 0, 0, 0) from rfl) (v := 0) rfl ?_
          refine zt_getR zy_152 (show q_ins q_k152 64 = some (.getfield 41, 10, 5) from rfl) (r := 6) zk_0_5 ?_
          obtain ⟨a11, s12, hca11, h⟩ := zt_bdE h
          refine zt_callV (d := 4) zy_152 (show q_ins q_k152 67 = some (.invokevirtual 308, 8, 1) from rfl) zy_8 (by decide) ⟨zq_lt (by decide), by decide⟩ rfl (by simp [Value.category]) (by simp [lg_sl, Value.category]) (zt_rcv zc_16) (zt_dm (by decide) (S_Hi_keep (by decide) hca11)) ?_
          refine zt_aload_n zy_152 (show q_ins q_k152 70 = some (.aload_n 0, 0, 0) from rfl) (v := 0) rfl ?_
          refine zt_getR zy_152 (show q_ins q_k152 71 = some (.getfield 41, 10, 5) from rfl) (r := 6) zk_0_5 ?_
          refine zt_iload_n zy_152 (show q_ins q_k152 74 = some (.iload_n 1, 0, 0) from rfl) (v := Int32.ofInt v1) rfl ?_
          obtain ⟨a13, s14, hca13, h⟩ := zt_bdE h
          refine zt_callV (d := 4) zy_152 (show q_ins q_k152 75 = some (.invokevirtual 311, 66, 1) from rfl) zy_66 (by decide) ⟨zq_lt (by decide), by decide⟩ rfl (by simp [Value.category]) (by simp [lg_sl, Value.category]) (zt_rcv zc_6) (zt_dm (by decide) (S_Tb_putDown (by decide) hca13)) ?_
          refine zt_aload_n zy_152 (show q_ins q_k152 78 = some (.aload_n 0, 0, 0) from rfl) (v := 0) rfl ?_
          refine zt_getR zy_152 (show q_ins q_k152 79 = some (.getfield 41, 10, 5) from rfl) (r := 6) zk_0_5 ?_
          refine zt_getR zy_152 (show q_ins q_k152 82 = some (.getfield 157, 6, 1) from rfl) (r := 7) zk_6_1 ?_
          refine zt_getI zy_152 (show q_ins q_k152 85 = some (.getfield 314, 9, 2) from rfl) (j := 2) zk_7_2 rfl ?_
          obtain ⟨hg, h⟩ := zt_ckE h
          refine zt_if_ne zy_152 (show q_ins q_k152 88 = some (.ifCond .ne 16, 104, 0) from rfl) (hg) (fun hc => ?_) (fun hc => ?_)
          · rw [if_pos hc] at h
            refine zt_aload_n zy_152 (show q_ins q_k152 91 = some (.aload_n 0, 0, 0) from rfl) (v := 0) rfl ?_
            refine zt_getR zy_152 (show q_ins q_k152 92 = some (.getfield 41, 10, 5) from rfl) (r := 6) zk_0_5 ?_
            refine zt_getR zy_152 (show q_ins q_k152 95 = some (.getfield 157, 6, 1) from rfl) (r := 7) zk_6_1 ?_
            refine zt_getI zy_152 (show q_ins q_k152 98 = some (.getfield 185, 9, 0) from rfl) (j := 0) zk_7_0 rfl ?_
            refine zt_goto zy_152 (show q_ins q_k152 101 = some (.goto 21, 122, 0) from rfl) ?_
            exact zt_wk (zt_cov_nil) (S_C_play_122  _ _ _ h)
          · rw [if_neg hc] at h
            refine zt_aload_n zy_152 (show q_ins q_k152 104 = some (.aload_n 0, 0, 0) from rfl) (v := 0) rfl ?_
            refine zt_getR zy_152 (show q_ins q_k152 105 = some (.getfield 25, 10, 3) from rfl) (r := 3) zk_0_3 ?_
            refine zt_getI zy_152 (show q_ins q_k152 108 = some (.getfield 148, 4, 1) from rfl) (j := 1) zk_3_1 rfl ?_
            refine zt_aload_n zy_152 (show q_ins q_k152 111 = some (.aload_n 0, 0, 0) from rfl) (v := 0) rfl ?_
            refine zt_getR zy_152 (show q_ins q_k152 112 = some (.getfield 41, 10, 5) from rfl) (r := 6) zk_0_5 ?_
            refine zt_getR zy_152 (show q_ins q_k152 115 = some (.getfield 157, 6, 1) from rfl) (r := 7) zk_6_1 ?_
            refine zt_getI zy_152 (show q_ins q_k152 118 = some (.getfield 182, 9, 1) from rfl) (j := 1) zk_7_1 rfl ?_
            refine zt_iadd zy_152 (show q_ins q_k152 121 = some (.iadd, 0, 0) from rfl) ?_
            exact zt_wk (zt_cov_nil) (S_C_play_122  _ _ _ h)
      · rw [if_neg hc] at h
        refine zt_bipush zy_152 (show q_ins q_k152 39 = some (.bipush (-3), 0, 0) from rfl) (by decide) ?_
        cases h
        exact zt_iret zy_152 (show q_ins q_k152 41 = some (.ireturn, 0, 0) from rfl)
    · rw [if_neg hc] at h
      refine zt_bipush zy_152 (show q_ins q_k152 15 = some (.bipush (-2), 0, 0) from rfl) (by decide) ?_
      cases h
      exact zt_iret zy_152 (show q_ins q_k152 17 = some (.ireturn, 0, 0) from rfl)
  · cases h
    exact zt_callVX (d := 4) zy_152 (show q_ins q_k152 2 = some (.invokevirtual 200, 166, 1) from rfl) zy_166 (by decide) ⟨zq_lt (by decide), by decide⟩ rfl (by simp [Value.category]) (by simp [lg_sl, Value.category]) (zt_rcv zc_0) (zt_dm (by decide) (S_C_needCard hca1))
theorem S_C_needRange_10 {X : q_X}   : ∀  (σ : zt_S) (o : ((Unit ⊕ Nat) × zt_S)), F_C_needRange_10   σ = some o → zt_Ex X 0 169 10 [] [] (zt_M T σ) (zx_V T o) := by
  intro  σ o  h
  unfold F_C_needRange_10 at h
  cases h
  exact zt_new (E := 1) zy_169 (show q_ins q_k169 10 = some (.new 112, 1001, 114) from rfl) rfl (by decide) (by show _ ≤ _; simp [Value.category])
theorem S_C_needRange {X : q_X}   {v1 : Int} {v2 : Int} {v3 : Int} {σ : zt_S} {o : ((Unit ⊕ Nat) × zt_S)} (h : F_C_needRange  v1 v2 v3 σ = some o) : zt_Ex X 0 169 0 (lv_args 0 [.ref 0, .int (Int32.ofInt v1), .int (Int32.ofInt v2), .int (Int32.ofInt v3)]) [] (zt_M T σ) (zx_V T o) := by
  unfold F_C_needRange at h
  refine zt_iload_n zy_169 (show q_ins q_k169 0 = some (.iload_n 1, 0, 0) from rfl) (v := Int32.ofInt v1) rfl ?_
  refine zt_iload_n zy_169 (show q_ins q_k169 1 = some (.iload_n 2, 0, 0) from rfl) (v := Int32.ofInt v2) rfl ?_
  obtain ⟨hg, h⟩ := zt_ckE h
  refine zt_icmp_lt zy_169 (show q_ins q_k169 2 = some (.if_icmp .lt 8, 10, 0) from rfl) (⟨hg.1, hg.2⟩) (fun hc => ?_) (fun hc => ?_)
  · rw [if_pos hc] at h
    exact zt_wk (zt_cov_nil) (S_C_needRange_10  _ _ h)
  · rw [if_neg hc] at h
    refine zt_iload_n zy_169 (show q_ins q_k169 5 = some (.iload_n 1, 0, 0) from rfl) (v := Int32.ofInt v1) rfl ?_
    refine zt_iload_n zy_169 (show q_ins q_k169 6 = some (.iload_n 3, 0, 0) from rfl) (v := Int32.ofInt v3) rfl ?_
    obtain ⟨hg, h⟩ := zt_ckE h
    refine zt_icmp_le zy_169 (show q_ins q_k169 7 = some (.if_icmp .le 11, 18, 0) from rfl) (⟨hg.1, hg.2⟩) (fun hc => ?_) (fun hc => ?_)
    · rw [if_pos hc] at h
      exact zt_wk (zt_cov_nil) (S_C_needRange_10  _ _ h)
    · rw [if_neg hc] at h
      cases h
      exact zt_ret zy_169 (show q_ins q_k169 18 = some (.return_, 0, 0) from rfl)
theorem S_C_auto_69 {X : q_X}   : ∀ (v2 : Int) (σ : zt_S) (o : ((Int ⊕ Nat) × zt_S)), F_C_auto_69  v2 σ = some o → zt_Ex X 5 153 69 [(2, .int (Int32.ofInt v2))] [] (zt_M T σ) (zx_I T o) := by
  intro v2 σ o  h
  unfold F_C_auto_69 at h
  refine zt_iload_n zy_153 (show q_ins q_k153 69 = some (.iload_n 2, 0, 0) from rfl) (v := Int32.ofInt v2) rfl ?_
  cases h
  exact zt_iret zy_153 (show q_ins q_k153 70 = some (.ireturn, 0, 0) from rfl)
theorem S_C_auto_34 {X : q_X}   : ∀ (n : Nat) (v1 : Int) (v2 : Int) (σ : zt_S) (o : ((Int ⊕ Nat) × zt_S)), F_C_auto_34  n v1 v2 σ = some o → zt_Ex X 5 153 34 [(0, .ref 0), (1, .int (Int32.ofInt v1)), (2, .int (Int32.ofInt v2))] [] (zt_M T σ) (zx_I T o) := by
  intro n
  induction n with
  | zero => intro v1 v2 σ o  h; cases h
  | succ n ih =>
  intro v1 v2 σ o  h
  rw [F_C_auto_34] at h
  refine zt_iload_n zy_153 (show q_ins q_k153 34 = some (.iload_n 2, 0, 0) from rfl) (v := Int32.ofInt v2) rfl ?_
  refine zt_iload_n zy_153 (show q_ins q_k153 35 = some (.iload_n 1, 0, 0) from rfl) (v := Int32.ofInt v1) rfl ?_
  obtain ⟨hg, h⟩ := zt_ckE h
  refine zt_icmp_ge zy_153 (show q_ins q_k153 36 = some (.if_icmp .ge 33, 69, 0) from rfl) (⟨hg.1, hg.2⟩) (fun hc => ?_) (fun hc => ?_)
  · rw [if_pos hc] at h
    refine zt_aload_n zy_153 (show q_ins q_k153 39 = some (.aload_n 0, 0, 0) from rfl) (v := 0) rfl ?_
    refine zt_getR zy_153 (show q_ins q_k153 40 = some (.getfield 41, 10, 5) from rfl) (r := 6) zk_0_5 ?_
    obtain ⟨a7, s8, hca7, h⟩ := zt_bdE h
    refine zt_callV (d := 4) zy_153 (show q_ins q_k153 43 = some (.invokevirtual 178, 64, 0) from rfl) zy_64 (by decide) ⟨zq_lt (by decide), by decide⟩ rfl (by simp [Value.category]) (by simp [lg_sl, Value.category]) (zt_rcv zc_6) (zt_dm (by decide) (S_Tb_isOver (by decide) hca7)) ?_
    obtain ⟨hg, h⟩ := zt_ckE h
    refine zt_if_ne zy_153 (show q_ins q_k153 46 = some (.ifCond .ne 23, 69, 0) from rfl) (hg) (fun hc => ?_) (fun hc => ?_)
    · rw [if_pos hc] at h
      refine zt_aload_n zy_153 (show q_ins q_k153 49 = some (.aload_n 0, 0, 0) from rfl) (v := 0) rfl ?_
      refine zt_getR zy_153 (show q_ins q_k153 50 = some (.getfield 41, 10, 5) from rfl) (r := 6) zk_0_5 ?_
      refine zt_aload_n zy_153 (show q_ins q_k153 53 = some (.aload_n 0, 0, 0) from rfl) (v := 0) rfl ?_
      refine zt_getR zy_153 (show q_ins q_k153 54 = some (.getfield 41, 10, 5) from rfl) (r := 6) zk_0_5 ?_
      obtain ⟨a9, s10, hca9, h⟩ := zt_bdE h
      refine zt_callV (d := 4) zy_153 (show q_ins q_k153 57 = some (.invokevirtual 321, 74, 0) from rfl) zy_74 (by decide) ⟨zq_lt (by decide), by decide⟩ rfl (by simp [Value.category]) (by simp [lg_sl, Value.category]) (zt_rcv zc_6) (zt_dm (by decide) (S_Tb_choice (by decide) hca9)) ?_
      obtain ⟨a11, s12, hca11, h⟩ := zt_bdE h
      refine zt_callV (d := 4) zy_153 (show q_ins q_k153 60 = some (.invokevirtual 311, 66, 1) from rfl) zy_66 (by decide) ⟨zq_lt (by decide), by decide⟩ rfl (by simp [Value.category]) (by simp [lg_sl, Value.category]) (zt_rcv zc_6) (zt_dm (by decide) (S_Tb_putDown (by decide) hca11)) ?_
      refine zt_iinc zy_153 (show q_ins q_k153 63 = some (.iinc 2 1, 0, 0) from rfl) (v := v2) (by decide) rfl ?_
      refine zt_goto zy_153 (show q_ins q_k153 66 = some (.goto (-32), 34, 0) from rfl) ?_
      exact zt_wk (zt_cov_cons rfl (zt_cov_cons rfl (zt_cov_cons rfl (zt_cov_nil)))) (ih _ _ _ _ h)
    · rw [if_neg hc] at h
      exact zt_wk (zt_cov_cons rfl (zt_cov_nil)) (S_C_auto_69  _ _ _ h)
  · rw [if_neg hc] at h
    exact zt_wk (zt_cov_cons rfl (zt_cov_nil)) (S_C_auto_69  _ _ _ h)
theorem S_C_auto {X : q_X}   {v1 : Int} {σ : zt_S} {o : ((Int ⊕ Nat) × zt_S)} (h : F_C_auto  v1 σ = some o) : zt_Ex X 5 153 0 (lv_args 0 [.ref 0, .int (Int32.ofInt v1)]) [] (zt_M T σ) (zx_I T o) := by
  unfold F_C_auto at h
  refine zt_aload_n zy_153 (show q_ins q_k153 0 = some (.aload_n 0, 0, 0) from rfl) (v := 0) rfl ?_
  refine zt_iload_n zy_153 (show q_ins q_k153 1 = some (.iload_n 1, 0, 0) from rfl) (v := Int32.ofInt v1) rfl ?_
  refine zt_iconst zy_153 (show q_ins q_k153 2 = some (.iconst 1, 0, 0) from rfl) ?_
  refine zt_bipush zy_153 (show q_ins q_k153 3 = some (.bipush 52, 0, 0) from rfl) (by decide) ?_
  rcases zt_bxE h with ⟨a1, s2, hca1, h⟩ | ⟨E, s2, hca1, h⟩
  · refine zt_callV (d := 4) zy_153 (show q_ins q_k153 5 = some (.invokevirtual 317, 169, 3) from rfl) zy_169 (by decide) ⟨zq_lt (by decide), by decide⟩ rfl (by simp [Value.category]) (by simp [lg_sl, Value.category]) (zt_rcv zc_0) (zt_dm (by decide) (S_C_needRange hca1)) ?_
    refine zt_aload_n zy_153 (show q_ins q_k153 8 = some (.aload_n 0, 0, 0) from rfl) (v := 0) rfl ?_
    refine zt_getR zy_153 (show q_ins q_k153 9 = some (.getfield 41, 10, 5) from rfl) (r := 6) zk_0_5 ?_
    obtain ⟨a3, s4, hca3, h⟩ := zt_bdE h
    refine zt_callV (d := 4) zy_153 (show q_ins q_k153 12 = some (.invokevirtual 178, 64, 0) from rfl) zy_64 (by decide) ⟨zq_lt (by decide), by decide⟩ rfl (by simp [Value.category]) (by simp [lg_sl, Value.category]) (zt_rcv zc_6) (zt_dm (by decide) (S_Tb_isOver (by decide) hca3)) ?_
    obtain ⟨hg, h⟩ := zt_ckE h
    refine zt_if_eq zy_153 (show q_ins q_k153 15 = some (.ifCond .eq 6, 21, 0) from rfl) (hg) (fun hc => ?_) (fun hc => ?_)
    · rw [if_pos hc] at h
      refine zt_aload_n zy_153 (show q_ins q_k153 21 = some (.aload_n 0, 0, 0) from rfl) (v := 0) rfl ?_
      refine zt_getR zy_153 (show q_ins q_k153 22 = some (.getfield 48, 10, 6) from rfl) (r := 16) zk_0_6 ?_
      refine zt_aload_n zy_153 (show q_ins q_k153 25 = some (.aload_n 0, 0, 0) from rfl) (v := 0) rfl ?_
      refine zt_getR zy_153 (show q_ins q_k153 26 = some (.getfield 41, 10, 5) from rfl) (r := 6) zk_0_5 ?_
      obtain ⟨a5, s6, hca5, h⟩ := zt_bdE h
      refine zt_callV (d := 4) zy_153 (show q_ins q_k153 29 = some (.invokevirtual 308, 8, 1) from rfl) zy_8 (by decide) ⟨zq_lt (by decide), by decide⟩ rfl (by simp [Value.category]) (by simp [lg_sl, Value.category]) (zt_rcv zc_16) (zt_dm (by decide) (S_Hi_keep (by decide) hca5)) ?_
      refine zt_iconst zy_153 (show q_ins q_k153 32 = some (.iconst 0, 0, 0) from rfl) ?_
      refine zt_istore_n zy_153 (show q_ins q_k153 33 = some (.istore_n 2, 0, 0) from rfl) (by decide) ?_
      exact zt_wk (zt_cov_cons rfl (zt_cov_cons rfl (zt_cov_cons rfl (zt_cov_nil)))) (S_C_auto_34  _ _ _ _ _ h)
    · rw [if_neg hc] at h
      refine zt_bipush zy_153 (show q_ins q_k153 18 = some (.bipush (-2), 0, 0) from rfl) (by decide) ?_
      cases h
      exact zt_iret zy_153 (show q_ins q_k153 20 = some (.ireturn, 0, 0) from rfl)
  · cases h
    exact zt_callVX (d := 4) zy_153 (show q_ins q_k153 5 = some (.invokevirtual 317, 169, 3) from rfl) zy_169 (by decide) ⟨zq_lt (by decide), by decide⟩ rfl (by simp [Value.category]) (by simp [lg_sl, Value.category]) (zt_rcv zc_0) (zt_dm (by decide) (S_C_needRange hca1))
end TT
