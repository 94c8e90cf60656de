/-! the mini-machine does what the functions say (by program) -/
theorem S_C_tell {X : q_X}   {v1 : Int} {v2 : Int} {σ : zt_S} {o : ((Int ⊕ Nat) × zt_S)} (h : F_C_tell  v1 v2 σ = some o) : zt_Ex X 3 154 0 (lv_args 0 [.ref 0, .int (Int32.ofInt v1), .int (Int32.ofInt v2)]) [] (zt_M σ) (zx_I o) := by
  unfold F_C_tell at h
  refine zt_aload_n zy_154 (show q_ins q_k154 0 = some (.aload_n 0, 0, 0) from rfl) (v := 0) rfl ?_
  refine zt_iload_n zy_154 (show q_ins q_k154 1 = some (.iload_n 1, 0, 0) from rfl) (v := Int32.ofInt v1) rfl ?_
  rcases zt_bxE h with ⟨a1, s2, hca1, h⟩ | ⟨E, s2, hca1, h⟩
  · refine zt_callV (d := 2) zy_154 (show q_ins q_k154 2 = some (.invokevirtual 212, 167, 1) from rfl) zy_167 (by decide) ⟨zq_lt (by decide), by decide⟩ rfl (by simp [Value.category]) (by simp [lg_sl, Value.category]) (zt_rcv zc_0) (zt_dm (by decide) (S_C_needPlayer hca1)) ?_
    refine zt_aload_n zy_154 (show q_ins q_k154 5 = some (.aload_n 0, 0, 0) from rfl) (v := 0) rfl ?_
    refine zt_iload_n zy_154 (show q_ins q_k154 6 = some (.iload_n 2, 0, 0) from rfl) (v := Int32.ofInt v2) rfl ?_
    refine zt_iconst zy_154 (show q_ins q_k154 7 = some (.iconst 0, 0, 0) from rfl) ?_
    refine zt_aload_n zy_154 (show q_ins q_k154 8 = some (.aload_n 0, 0, 0) from rfl) (v := 0) rfl ?_
    refine zt_getR zy_154 (show q_ins q_k154 9 = some (.getfield 25, 10, 3) from rfl) (r := 3) zk_0_3 ?_
    refine zt_getI zy_154 (show q_ins q_k154 12 = some (.getfield 151, 4, 2) from rfl) (j := 2) zk_3_2 rfl ?_
    rcases zt_bxE h with ⟨a3, s4, hca3, h⟩ | ⟨E, s4, hca3, h⟩
    · refine zt_callV (d := 2) zy_154 (show q_ins q_k154 15 = some (.invokevirtual 317, 169, 3) from rfl) zy_169 (by decide) ⟨zq_lt (by decide), by decide⟩ rfl (by simp [Value.category]) (by simp [lg_sl, Value.category]) (zt_rcv zc_0) (zt_dm (by decide) (S_C_needRange hca3)) ?_
      refine zt_aload_n zy_154 (show q_ins q_k154 18 = some (.aload_n 0, 0, 0) from rfl) (v := 0) rfl ?_
      refine zt_getR zy_154 (show q_ins q_k154 19 = some (.getfield 41, 10, 5) from rfl) (r := 6) zk_0_5 ?_
      refine zt_getI zy_154 (show q_ins q_k154 22 = some (.getfield 191, 6, 16) from rfl) (j := 16) zk_6_16 rfl ?_
      obtain ⟨hg, h⟩ := zt_ckE h
      refine zt_if_le zy_154 (show q_ins q_k154 25 = some (.ifCond .le 6, 31, 0) from rfl) (hg) (fun hc => ?_) (fun hc => ?_)
      · rw [if_pos hc] at h
        refine zt_bipush zy_154 (show q_ins q_k154 28 = some (.bipush (-2), 0, 0) from rfl) (by decide) ?_
        cases h
        exact zt_iret zy_154 (show q_ins q_k154 30 = some (.ireturn, 0, 0) from rfl)
      · rw [if_neg hc] at h
        refine zt_aload_n zy_154 (show q_ins q_k154 31 = some (.aload_n 0, 0, 0) from rfl) (v := 0) rfl ?_
        refine zt_getR zy_154 (show q_ins q_k154 32 = some (.getfield 48, 10, 6) from rfl) (r := 16) zk_0_6 ?_
        refine zt_aload_n zy_154 (show q_ins q_k154 35 = some (.aload_n 0, 0, 0) from rfl) (v := 0) rfl ?_
        refine zt_getR zy_154 (show q_ins q_k154 36 = some (.getfield 41, 10, 5) from rfl) (r := 6) zk_0_5 ?_
        obtain ⟨a5, s6, hca5, h⟩ := zt_bdE h
        refine zt_callV (d := 2) zy_154 (show q_ins q_k154 39 = some (.invokevirtual 308, 8, 1) from rfl) zy_8 (by decide) ⟨zq_lt (by decide), by decide⟩ rfl (by simp [Value.category]) (by simp [lg_sl, Value.category]) (zt_rcv zc_16) (zt_dm (by decide) (S_Hi_keep (by decide) hca5)) ?_
        refine zt_aload_n zy_154 (show q_ins q_k154 42 = some (.aload_n 0, 0, 0) from rfl) (v := 0) rfl ?_
        refine zt_getR zy_154 (show q_ins q_k154 43 = some (.getfield 41, 10, 5) from rfl) (r := 6) zk_0_5 ?_
        refine zt_getR zy_154 (show q_ins q_k154 46 = some (.getfield 275, 6, 3) from rfl) (r := 9) zk_6_3 ?_
        refine zt_iload_n zy_154 (show q_ins q_k154 49 = some (.iload_n 1, 0, 0) from rfl) (v := Int32.ofInt v1) rfl ?_
        obtain ⟨a7, s8, hca7, h⟩ := zt_bdE h
        refine zt_callS (d := 2) zy_154 (show q_ins q_k154 50 = some (.invokestatic 259, 309, 2) from rfl) zy_309 (by decide) ⟨zq_lt (by decide), by decide⟩ rfl (by simp [Value.category]) (by simp [lg_sl, Value.category]) rfl (zt_dm (by decide) (S_Rw_at za_9 (by decide) hca7)) ?_
        refine zt_istore_n zy_154 (show q_ins q_k154 53 = some (.istore_n 3, 0, 0) from rfl) (by decide) ?_
        refine zt_aload_n zy_154 (show q_ins q_k154 54 = some (.aload_n 0, 0, 0) from rfl) (v := 0) rfl ?_
        refine zt_getR zy_154 (show q_ins q_k154 55 = some (.getfield 41, 10, 5) from rfl) (r := 6) zk_0_5 ?_
        refine zt_getR zy_154 (show q_ins q_k154 58 = some (.getfield 275, 6, 3) from rfl) (r := 9) zk_6_3 ?_
        refine zt_iload_n zy_154 (show q_ins q_k154 61 = some (.iload_n 1, 0, 0) from rfl) (v := Int32.ofInt v1) rfl ?_
        refine zt_iload_n zy_154 (show q_ins q_k154 62 = some (.iload_n 2, 0, 0) from rfl) (v := Int32.ofInt v2) rfl ?_
        obtain ⟨a9, s10, hca9, h⟩ := zt_bdE h
        refine zt_callS (d := 2) zy_154 (show q_ins q_k154 63 = some (.invokestatic 324, 310, 3) from rfl) zy_310 (by decide) ⟨zq_lt (by decide), by decide⟩ rfl (by simp [Value.category]) (by simp [lg_sl, Value.category]) rfl (zt_dm (by decide) (S_Rw_set za_9 (by decide) hca9)) ?_
        refine zt_iload_n zy_154 (show q_ins q_k154 66 = some (.iload_n 3, 0, 0) from rfl) (v := Int32.ofInt a7) rfl ?_
        refine zt_iconst zy_154 (show q_ins q_k154 67 = some (.iconst 1, 0, 0) from rfl) ?_
        refine zt_iadd zy_154 (show q_ins q_k154 68 = some (.iadd, 0, 0) from rfl) ?_
        cases h
        exact zt_iret zy_154 (show q_ins q_k154 69 = some (.ireturn, 0, 0) from rfl)
    · cases h
      exact zt_callVX (d := 2) zy_154 (show q_ins q_k154 15 = some (.invokevirtual 317, 169, 3) from rfl) zy_169 (by decide) ⟨zq_lt (by decide), by decide⟩ rfl (by simp [Value.category]) (by simp [lg_sl, Value.category]) (zt_rcv zc_0) (zt_dm (by decide) (S_C_needRange hca3))
  · cases h
    exact zt_callVX (d := 2) zy_154 (show q_ins q_k154 2 = some (.invokevirtual 212, 167, 1) from rfl) zy_167 (by decide) ⟨zq_lt (by decide), by decide⟩ rfl (by simp [Value.category]) (by simp [lg_sl, Value.category]) (zt_rcv zc_0) (zt_dm (by decide) (S_C_needPlayer hca1))
theorem S_C_deal {X : q_X}   {v1 : Int} {σ : zt_S} {o : ((Int ⊕ Nat) × zt_S)} (h : F_C_deal  v1 σ = some o) : zt_Ex X 4 155 0 (lv_args 0 [.ref 0, .int (Int32.ofInt v1)]) [] (zt_M σ) (zx_I o) := by
  unfold F_C_deal at h
  refine zt_aload_n zy_155 (show q_ins q_k155 0 = some (.aload_n 0, 0, 0) from rfl) (v := 0) rfl ?_
  refine zt_iload_n zy_155 (show q_ins q_k155 1 = some (.iload_n 1, 0, 0) from rfl) (v := Int32.ofInt v1) rfl ?_
  refine zt_iconst zy_155 (show q_ins q_k155 2 = some (.iconst 0, 0, 0) from rfl) ?_
  refine zt_ldcw zy_155 (show q_ins q_k155 3 = some (.ldc_w 328, 0, 99999) from rfl) (n := (99999 : Int)) rfl (by decide) ?_
  rcases zt_bxE h with ⟨a1, s2, hca1, h⟩ | ⟨E, s2, hca1, h⟩
  · refine zt_callV (d := 3) zy_155 (show q_ins q_k155 6 = some (.invokevirtual 317, 169, 3) from rfl) zy_169 (by decide) ⟨zq_lt (by decide), by decide⟩ rfl (by simp [Value.category]) (by simp [lg_sl, Value.category]) (zt_rcv zc_0) (zt_dm (by decide) (S_C_needRange hca1)) ?_
    refine zt_aload_n zy_155 (show q_ins q_k155 9 = some (.aload_n 0, 0, 0) from rfl) (v := 0) rfl ?_
    refine zt_getR zy_155 (show q_ins q_k155 10 = some (.getfield 41, 10, 5) from rfl) (r := 6) zk_0_5 ?_
    obtain ⟨a3, s4, hca3, h⟩ := zt_bdE h
    refine zt_callV (d := 3) zy_155 (show q_ins q_k155 13 = some (.invokevirtual 178, 64, 0) from rfl) zy_64 (by decide) ⟨zq_lt (by decide), by decide⟩ rfl (by simp [Value.category]) (by simp [lg_sl, Value.category]) (zt_rcv zc_6) (zt_dm (by decide) (S_Tb_isOver (by decide) hca3)) ?_
    obtain ⟨hg, h⟩ := zt_ckE h
    refine zt_if_ne zy_155 (show q_ins q_k155 16 = some (.ifCond .ne 6, 22, 0) from rfl) (hg) (fun hc => ?_) (fun hc => ?_)
    · rw [if_pos hc] at h
      refine zt_bipush zy_155 (show q_ins q_k155 19 = some (.bipush (-2), 0, 0) from rfl) (by decide) ?_
      cases h
      exact zt_iret zy_155 (show q_ins q_k155 21 = some (.ireturn, 0, 0) from rfl)
    · rw [if_neg hc] at h
      refine zt_aload_n zy_155 (show q_ins q_k155 22 = some (.aload_n 0, 0, 0) from rfl) (v := 0) rfl ?_
      refine zt_getR zy_155 (show q_ins q_k155 23 = some (.getfield 48, 10, 6) from rfl) (r := 16) zk_0_6 ?_
      refine zt_aload_n zy_155 (show q_ins q_k155 26 = some (.aload_n 0, 0, 0) from rfl) (v := 0) rfl ?_
      refine zt_getR zy_155 (show q_ins q_k155 27 = some (.getfield 41, 10, 5) from rfl) (r := 6) zk_0_5 ?_
      obtain ⟨a5, s6, hca5, h⟩ := zt_bdE h
      refine zt_callV (d := 3) zy_155 (show q_ins q_k155 30 = some (.invokevirtual 308, 8, 1) from rfl) zy_8 (by decide) ⟨zq_lt (by decide), by decide⟩ rfl (by simp [Value.category]) (by simp [lg_sl, Value.category]) (zt_rcv zc_16) (zt_dm (by decide) (S_Hi_keep (by decide) hca5)) ?_
      refine zt_aload_n zy_155 (show q_ins q_k155 33 = some (.aload_n 0, 0, 0) from rfl) (v := 0) rfl ?_
      refine zt_getR zy_155 (show q_ins q_k155 34 = some (.getfield 32, 10, 4) from rfl) (r := 4) zk_0_4 ?_
      refine zt_iload_n zy_155 (show q_ins q_k155 37 = some (.iload_n 1, 0, 0) from rfl) (v := Int32.ofInt v1) rfl ?_
      refine zt_aload_n zy_155 (show q_ins q_k155 38 = some (.aload_n 0, 0, 0) from rfl) (v := 0) rfl ?_
      refine zt_getR zy_155 (show q_ins q_k155 39 = some (.getfield 25, 10, 3) from rfl) (r := 3) zk_0_3 ?_
      obtain ⟨a7, s8, hca7, h⟩ := zt_bdE h
      refine zt_callV (d := 3) zy_155 (show q_ins q_k155 42 = some (.invokevirtual 89, 30, 0) from rfl) zy_30 (by decide) ⟨zq_lt (by decide), by decide⟩ rfl (by simp [Value.category]) (by simp [lg_sl, Value.category]) (zt_rcv zc_3) (zt_dm (by decide) (S_Su_cardCount (by decide) hca7)) ?_
      obtain ⟨a9, s10, hca9, h⟩ := zt_bdE h
      refine zt_callV (d := 3) zy_155 (show q_ins q_k155 45 = some (.invokevirtual 93, 12, 2) from rfl) zy_12 (by decide) ⟨zq_lt (by decide), by decide⟩ rfl (by simp [Value.category]) (by simp [lg_sl, Value.category]) (zt_rcv zc_4) (zt_dm (by decide) (S_Pk_mix hca9)) ?_
      refine zt_aload_n zy_155 (show q_ins q_k155 48 = some (.aload_n 0, 0, 0) from rfl) (v := 0) rfl ?_
      refine zt_getR zy_155 (show q_ins q_k155 49 = some (.getfield 41, 10, 5) from rfl) (r := 6) zk_0_5 ?_
      obtain ⟨a11, s12, hca11, h⟩ := zt_bdE h
      refine zt_callV (d := 3) zy_155 (show q_ins q_k155 52 = some (.invokevirtual 329, 51, 0) from rfl) zy_51 (by decide) ⟨zq_lt (by decide), by decide⟩ rfl (by simp [Value.category]) (by simp [lg_sl, Value.category]) (zt_rcv zc_6) (zt_dm (by decide) (S_Tb_clearHand (by decide) hca11)) ?_
      refine zt_aload_n zy_155 (show q_ins q_k155 55 = some (.aload_n 0, 0, 0) from rfl) (v := 0) rfl ?_
      refine zt_getR zy_155 (show q_ins q_k155 56 = some (.getfield 41, 10, 5) from rfl) (r := 6) zk_0_5 ?_
      refine zt_aload_n zy_155 (show q_ins q_k155 59 = some (.aload_n 0, 0, 0) from rfl) (v := 0) rfl ?_
      refine zt_getR zy_155 (show q_ins q_k155 60 = some (.getfield 25, 10, 3) from rfl) (r := 3) zk_0_3 ?_
      refine zt_aload_n zy_155 (show q_ins q_k155 63 = some (.aload_n 0, 0, 0) from rfl) (v := 0) rfl ?_
      refine zt_getR zy_155 (show q_ins q_k155 64 = some (.getfield 41, 10, 5) from rfl) (r := 6) zk_0_5 ?_
      refine zt_getI zy_155 (show q_ins q_k155 67 = some (.getfield 332, 6, 15) from rfl) (j := 15) zk_6_15 rfl ?_
      obtain ⟨a13, s14, hca13, h⟩ := zt_bdE h
      refine zt_callV (d := 3) zy_155 (show q_ins q_k155 70 = some (.invokevirtual 335, 37, 1) from rfl) zy_37 (by decide) ⟨zq_lt (by decide), by decide⟩ rfl (by simp [Value.category]) (by simp [lg_sl, Value.category]) (zt_rcv zc_3) (zt_dm (by decide) (S_Su_behind (by decide) hca13)) ?_
      obtain ⟨s15, hs15, h⟩ := zt_letE h
      refine zt_putI zy_155 (show q_ins q_k155 73 = some (.putfield 332, 6, 15) from rfl) (j := 15) zk_6_15 rfl rfl rfl ?_
      rw [← hs15]
      refine zt_aload_n zy_155 (show q_ins q_k155 76 = some (.aload_n 0, 0, 0) from rfl) (v := 0) rfl ?_
      refine zt_getR zy_155 (show q_ins q_k155 77 = some (.getfield 41, 10, 5) from rfl) (r := 6) zk_0_5 ?_
      refine zt_aload_n zy_155 (show q_ins q_k155 80 = some (.aload_n 0, 0, 0) from rfl) (v := 0) rfl ?_
      refine zt_getR zy_155 (show q_ins q_k155 81 = some (.getfield 32, 10, 4) from rfl) (r := 4) zk_0_4 ?_
      obtain ⟨a16, s17, hca16, h⟩ := zt_bdE h
      refine zt_callV (d := 3) zy_155 (show q_ins q_k155 84 = some (.invokevirtual 97, 55, 1) from rfl) zy_55 (by decide) ⟨zq_lt (by decide), by decide⟩ rfl (by simp [Value.category]) (by simp [lg_sl, Value.category]) (zt_rcv zc_6) (zt_dm (by decide) (S_Tb_handOutInTurn (by decide) hca16)) ?_
      refine zt_aload_n zy_155 (show q_ins q_k155 87 = some (.aload_n 0, 0, 0) from rfl) (v := 0) rfl ?_
      refine zt_getR zy_155 (show q_ins q_k155 88 = some (.getfield 41, 10, 5) from rfl) (r := 6) zk_0_5 ?_
      obtain ⟨a18, s19, hca18, h⟩ := zt_bdE h
      refine zt_callV (d := 3) zy_155 (show q_ins q_k155 91 = some (.invokevirtual 101, 53, 0) from rfl) zy_53 (by decide) ⟨zq_lt (by decide), by decide⟩ rfl (by simp [Value.category]) (by simp [lg_sl, Value.category]) (zt_rcv zc_6) (zt_dm (by decide) (S_Tb_openHand (by decide) hca18)) ?_
      refine zt_aload_n zy_155 (show q_ins q_k155 94 = some (.aload_n 0, 0, 0) from rfl) (v := 0) rfl ?_
      refine zt_getR zy_155 (show q_ins q_k155 95 = some (.getfield 41, 10, 5) from rfl) (r := 6) zk_0_5 ?_
      refine zt_getR zy_155 (show q_ins q_k155 98 = some (.getfield 157, 6, 1) from rfl) (r := 7) zk_6_1 ?_
      refine zt_getI zy_155 (show q_ins q_k155 101 = some (.getfield 185, 9, 0) from rfl) (j := 0) zk_7_0 rfl ?_
      cases h
      exact zt_iret zy_155 (show q_ins q_k155 104 = some (.ireturn, 0, 0) from rfl)
  · cases h
    exact zt_callVX (d := 3) zy_155 (show q_ins q_k155 6 = some (.invokevirtual 317, 169, 3) from rfl) zy_169 (by decide) ⟨zq_lt (by decide), by decide⟩ rfl (by simp [Value.category]) (by simp [lg_sl, Value.category]) (zt_rcv zc_0) (zt_dm (by decide) (S_C_needRange hca1))
theorem S_C_setTrump {X : q_X}   {v1 : Int} {σ : zt_S} {o : ((Int ⊕ Nat) × zt_S)} (h : F_C_setTrump  v1 σ = some o) : zt_Ex X 3 156 0 (lv_args 0 [.ref 0, .int (Int32.ofInt v1)]) [] (zt_M σ) (zx_I o) := by
  unfold F_C_setTrump at h
  refine zt_aload_n zy_156 (show q_ins q_k156 0 = some (.aload_n 0, 0, 0) from rfl) (v := 0) rfl ?_
  refine zt_iload_n zy_156 (show q_ins q_k156 1 = some (.iload_n 1, 0, 0) from rfl) (v := Int32.ofInt v1) rfl ?_
  refine zt_iconst zy_156 (show q_ins q_k156 2 = some (.iconst (-1), 0, 0) from rfl) ?_
  refine zt_iconst zy_156 (show q_ins q_k156 3 = some (.iconst 3, 0, 0) from rfl) ?_
  rcases zt_bxE h with ⟨a1, s2, hca1, h⟩ | ⟨E, s2, hca1, h⟩
  · refine zt_callV (d := 2) zy_156 (show q_ins q_k156 4 = some (.invokevirtual 317, 169, 3) from rfl) zy_169 (by decide) ⟨zq_lt (by decide), by decide⟩ rfl (by simp [Value.category]) (by simp [lg_sl, Value.category]) (zt_rcv zc_0) (zt_dm (by decide) (S_C_needRange hca1)) ?_
    refine zt_aload_n zy_156 (show q_ins q_k156 7 = some (.aload_n 0, 0, 0) from rfl) (v := 0) rfl ?_
    refine zt_getR zy_156 (show q_ins q_k156 8 = some (.getfield 41, 10, 5) from rfl) (r := 6) zk_0_5 ?_
    refine zt_getI zy_156 (show q_ins q_k156 11 = some (.getfield 191, 6, 16) from rfl) (j := 16) zk_6_16 rfl ?_
    obtain ⟨hg, h⟩ := zt_ckE h
    refine zt_if_le zy_156 (show q_ins q_k156 14 = some (.ifCond .le 6, 20, 0) from rfl) (hg) (fun hc => ?_) (fun hc => ?_)
    · rw [if_pos hc] at h
      refine zt_bipush zy_156 (show q_ins q_k156 17 = some (.bipush (-2), 0, 0) from rfl) (by decide) ?_
      cases h
      exact zt_iret zy_156 (show q_ins q_k156 19 = some (.ireturn, 0, 0) from rfl)
    · rw [if_neg hc] at h
      refine zt_aload_n zy_156 (show q_ins q_k156 20 = some (.aload_n 0, 0, 0) from rfl) (v := 0) rfl ?_
      refine zt_getR zy_156 (show q_ins q_k156 21 = some (.getfield 48, 10, 6) from rfl) (r := 16) zk_0_6 ?_
      refine zt_aload_n zy_156 (show q_ins q_k156 24 = some (.aload_n 0, 0, 0) from rfl) (v := 0) rfl ?_
      refine zt_getR zy_156 (show q_ins q_k156 25 = some (.getfield 41, 10, 5) from rfl) (r := 6) zk_0_5 ?_
      obtain ⟨a3, s4, hca3, h⟩ := zt_bdE h
      refine zt_callV (d := 2) zy_156 (show q_ins q_k156 28 = some (.invokevirtual 308, 8, 1) from rfl) zy_8 (by decide) ⟨zq_lt (by decide), by decide⟩ rfl (by simp [Value.category]) (by simp [lg_sl, Value.category]) (zt_rcv zc_16) (zt_dm (by decide) (S_Hi_keep (by decide) hca3)) ?_
      refine zt_aload_n zy_156 (show q_ins q_k156 31 = some (.aload_n 0, 0, 0) from rfl) (v := 0) rfl ?_
      refine zt_getR zy_156 (show q_ins q_k156 32 = some (.getfield 41, 10, 5) from rfl) (r := 6) zk_0_5 ?_
      refine zt_getI zy_156 (show q_ins q_k156 35 = some (.getfield 338, 6, 14) from rfl) (j := 14) zk_6_14 rfl ?_
      refine zt_istore_n zy_156 (show q_ins q_k156 38 = some (.istore_n 2, 0, 0) from rfl) (by decide) ?_
      refine zt_aload_n zy_156 (show q_ins q_k156 39 = some (.aload_n 0, 0, 0) from rfl) (v := 0) rfl ?_
      refine zt_getR zy_156 (show q_ins q_k156 40 = some (.getfield 41, 10, 5) from rfl) (r := 6) zk_0_5 ?_
      refine zt_iload_n zy_156 (show q_ins q_k156 43 = some (.iload_n 1, 0, 0) from rfl) (v := Int32.ofInt v1) rfl ?_
      obtain ⟨s5, hs5, h⟩ := zt_letE h
      refine zt_putI zy_156 (show q_ins q_k156 44 = some (.putfield 338, 6, 14) from rfl) (j := 14) zk_6_14 rfl rfl rfl ?_
      rw [← hs5]
      refine zt_aload_n zy_156 (show q_ins q_k156 47 = some (.aload_n 0, 0, 0) from rfl) (v := 0) rfl ?_
      refine zt_getR zy_156 (show q_ins q_k156 48 = some (.getfield 41, 10, 5) from rfl) (r := 6) zk_0_5 ?_
      obtain ⟨a6, s7, hca6, h⟩ := zt_bdE h
      refine zt_callV (d := 2) zy_156 (show q_ins q_k156 51 = some (.invokevirtual 341, 54, 0) from rfl) zy_54 (by decide) ⟨zq_lt (by decide), by decide⟩ rfl (by simp [Value.category]) (by simp [lg_sl, Value.category]) (zt_rcv zc_6) (zt_dm (by decide) (S_Tb_lightTrump (by decide) hca6)) ?_
      refine zt_iload_n zy_156 (show q_ins q_k156 54 = some (.iload_n 2, 0, 0) from rfl) (v := Int32.ofInt (s4.1 6 14)) rfl ?_
      refine zt_iconst zy_156 (show q_ins q_k156 55 = some (.iconst 1, 0, 0) from rfl) ?_
      refine zt_iadd zy_156 (show q_ins q_k156 56 = some (.iadd, 0, 0) from rfl) ?_
      cases h
      exact zt_iret zy_156 (show q_ins q_k156 57 = some (.ireturn, 0, 0) from rfl)
  · cases h
    exact zt_callVX (d := 2) zy_156 (show q_ins q_k156 4 = some (.invokevirtual 317, 169, 3) from rfl) zy_169 (by decide) ⟨zq_lt (by decide), by decide⟩ rfl (by simp [Value.category]) (by simp [lg_sl, Value.category]) (zt_rcv zc_0) (zt_dm (by decide) (S_C_needRange hca1))
theorem S_C_setRule {X : q_X}   {v1 : Int} {σ : zt_S} {o : ((Int ⊕ Nat) × zt_S)} (h : F_C_setRule  v1 σ = some o) : zt_Ex X 3 157 0 (lv_args 0 [.ref 0, .int (Int32.ofInt v1)]) [] (zt_M σ) (zx_I o) := by
  unfold F_C_setRule at h
  refine zt_aload_n zy_157 (show q_ins q_k157 0 = some (.aload_n 0, 0, 0) from rfl) (v := 0) rfl ?_
  refine zt_iload_n zy_157 (show q_ins q_k157 1 = some (.iload_n 1, 0, 0) from rfl) (v := Int32.ofInt v1) rfl ?_
  refine zt_iconst zy_157 (show q_ins q_k157 2 = some (.iconst 0, 0, 0) from rfl) ?_
  refine zt_iconst zy_157 (show q_ins q_k157 3 = some (.iconst 3, 0, 0) from rfl) ?_
  rcases zt_bxE h with ⟨a1, s2, hca1, h⟩ | ⟨E, s2, hca1, h⟩
  · refine zt_callV (d := 2) zy_157 (show q_ins q_k157 4 = some (.invokevirtual 317, 169, 3) from rfl) zy_169 (by decide) ⟨zq_lt (by decide), by decide⟩ rfl (by simp [Value.category]) (by simp [lg_sl, Value.category]) (zt_rcv zc_0) (zt_dm (by decide) (S_C_needRange hca1)) ?_
    refine zt_aload_n zy_157 (show q_ins q_k157 7 = some (.aload_n 0, 0, 0) from rfl) (v := 0) rfl ?_
    refine zt_getR zy_157 (show q_ins q_k157 8 = some (.getfield 41, 10, 5) from rfl) (r := 6) zk_0_5 ?_
    refine zt_getR zy_157 (show q_ins q_k157 11 = some (.getfield 157, 6, 1) from rfl) (r := 7) zk_6_1 ?_
    refine zt_getI zy_157 (show q_ins q_k157 14 = some (.getfield 314, 9, 2) from rfl) (j := 2) zk_7_2 rfl ?_
    obtain ⟨hg, h⟩ := zt_ckE h
    refine zt_if_le zy_157 (show q_ins q_k157 17 = some (.ifCond .le 6, 23, 0) from rfl) (hg) (fun hc => ?_) (fun hc => ?_)
    · rw [if_pos hc] at h
      refine zt_bipush zy_157 (show q_ins q_k157 20 = some (.bipush (-2), 0, 0) from rfl) (by decide) ?_
      cases h
      exact zt_iret zy_157 (show q_ins q_k157 22 = some (.ireturn, 0, 0) from rfl)
    · rw [if_neg hc] at h
      refine zt_aload_n zy_157 (show q_ins q_k157 23 = some (.aload_n 0, 0, 0) from rfl) (v := 0) rfl ?_
      refine zt_getR zy_157 (show q_ins q_k157 24 = some (.getfield 48, 10, 6) from rfl) (r := 16) zk_0_6 ?_
      refine zt_aload_n zy_157 (show q_ins q_k157 27 = some (.aload_n 0, 0, 0) from rfl) (v := 0) rfl ?_
      refine zt_getR zy_157 (show q_ins q_k157 28 = some (.getfield 41, 10, 5) from rfl) (r := 6) zk_0_5 ?_
      obtain ⟨a3, s4, hca3, h⟩ := zt_bdE h
      refine zt_callV (d := 2) zy_157 (show q_ins q_k157 31 = some (.invokevirtual 308, 8, 1) from rfl) zy_8 (by decide) ⟨zq_lt (by decide), by decide⟩ rfl (by simp [Value.category]) (by simp [lg_sl, Value.category]) (zt_rcv zc_16) (zt_dm (by decide) (S_Hi_keep (by decide) hca3)) ?_
      refine zt_aload_n zy_157 (show q_ins q_k157 34 = some (.aload_n 0, 0, 0) from rfl) (v := 0) rfl ?_
      refine zt_getR zy_157 (show q_ins q_k157 35 = some (.getfield 41, 10, 5) from rfl) (r := 6) zk_0_5 ?_
      refine zt_getI zy_157 (show q_ins q_k157 38 = some (.getfield 154, 6, 11) from rfl) (j := 11) zk_6_11 rfl ?_
      refine zt_istore_n zy_157 (show q_ins q_k157 41 = some (.istore_n 2, 0, 0) from rfl) (by decide) ?_
      refine zt_aload_n zy_157 (show q_ins q_k157 42 = some (.aload_n 0, 0, 0) from rfl) (v := 0) rfl ?_
      refine zt_getR zy_157 (show q_ins q_k157 43 = some (.getfield 41, 10, 5) from rfl) (r := 6) zk_0_5 ?_
      refine zt_iload_n zy_157 (show q_ins q_k157 46 = some (.iload_n 1, 0, 0) from rfl) (v := Int32.ofInt v1) rfl ?_
      obtain ⟨s5, hs5, h⟩ := zt_letE h
      refine zt_putI zy_157 (show q_ins q_k157 47 = some (.putfield 154, 6, 11) from rfl) (j := 11) zk_6_11 rfl rfl rfl ?_
      rw [← hs5]
      refine zt_iload_n zy_157 (show q_ins q_k157 50 = some (.iload_n 2, 0, 0) from rfl) (v := Int32.ofInt (s4.1 6 11)) rfl ?_
      cases h
      exact zt_iret zy_157 (show q_ins q_k157 51 = some (.ireturn, 0, 0) from rfl)
  · cases h
    exact zt_callVX (d := 2) zy_157 (show q_ins q_k157 4 = some (.invokevirtual 317, 169, 3) from rfl) zy_169 (by decide) ⟨zq_lt (by decide), by decide⟩ rfl (by simp [Value.category]) (by simp [lg_sl, Value.category]) (zt_rcv zc_0) (zt_dm (by decide) (S_C_needRange hca1))
theorem S_C_setFade {X : q_X}   {v1 : Int} {σ : zt_S} {o : ((Int ⊕ Nat) × zt_S)} (h : F_C_setFade  v1 σ = some o) : zt_Ex X 3 158 0 (lv_args 0 [.ref 0, .int (Int32.ofInt v1)]) [] (zt_M σ) (zx_I o) := by
  unfold F_C_setFade at h
  refine zt_aload_n zy_158 (show q_ins q_k158 0 = some (.aload_n 0, 0, 0) from rfl) (v := 0) rfl ?_
  refine zt_iload_n zy_158 (show q_ins q_k158 1 = some (.iload_n 1, 0, 0) from rfl) (v := Int32.ofInt v1) rfl ?_
  refine zt_iconst zy_158 (show q_ins q_k158 2 = some (.iconst 0, 0, 0) from rfl) ?_
  refine zt_bipush zy_158 (show q_ins q_k158 3 = some (.bipush 9, 0, 0) from rfl) (by decide) ?_
  rcases zt_bxE h with ⟨a1, s2, hca1, h⟩ | ⟨E, s2, hca1, h⟩
  · refine zt_callV (d := 2) zy_158 (show q_ins q_k158 5 = some (.invokevirtual 317, 169, 3) from rfl) zy_169 (by decide) ⟨zq_lt (by decide), by decide⟩ rfl (by simp [Value.category]) (by simp [lg_sl, Value.category]) (zt_rcv zc_0) (zt_dm (by decide) (S_C_needRange hca1)) ?_
    refine zt_aload_n zy_158 (show q_ins q_k158 8 = some (.aload_n 0, 0, 0) from rfl) (v := 0) rfl ?_
    refine zt_getR zy_158 (show q_ins q_k158 9 = some (.getfield 48, 10, 6) from rfl) (r := 16) zk_0_6 ?_
    refine zt_aload_n zy_158 (show q_ins q_k158 12 = some (.aload_n 0, 0, 0) from rfl) (v := 0) rfl ?_
    refine zt_getR zy_158 (show q_ins q_k158 13 = some (.getfield 41, 10, 5) from rfl) (r := 6) zk_0_5 ?_
    obtain ⟨a3, s4, hca3, h⟩ := zt_bdE h
    refine zt_callV (d := 2) zy_158 (show q_ins q_k158 16 = some (.invokevirtual 308, 8, 1) from rfl) zy_8 (by decide) ⟨zq_lt (by decide), by decide⟩ rfl (by simp [Value.category]) (by simp [lg_sl, Value.category]) (zt_rcv zc_16) (zt_dm (by decide) (S_Hi_keep (by decide) hca3)) ?_
    refine zt_aload_n zy_158 (show q_ins q_k158 19 = some (.aload_n 0, 0, 0) from rfl) (v := 0) rfl ?_
    refine zt_getR zy_158 (show q_ins q_k158 20 = some (.getfield 41, 10, 5) from rfl) (r := 6) zk_0_5 ?_
    refine zt_getI zy_158 (show q_ins q_k158 23 = some (.getfield 172, 6, 12) from rfl) (j := 12) zk_6_12 rfl ?_
    refine zt_istore_n zy_158 (show q_ins q_k158 26 = some (.istore_n 2, 0, 0) from rfl) (by decide) ?_
    refine zt_aload_n zy_158 (show q_ins q_k158 27 = some (.aload_n 0, 0, 0) from rfl) (v := 0) rfl ?_
    refine zt_getR zy_158 (show q_ins q_k158 28 = some (.getfield 41, 10, 5) from rfl) (r := 6) zk_0_5 ?_
    refine zt_iload_n zy_158 (show q_ins q_k158 31 = some (.iload_n 1, 0, 0) from rfl) (v := Int32.ofInt v1) rfl ?_
    obtain ⟨s5, hs5, h⟩ := zt_letE h
    refine zt_putI zy_158 (show q_ins q_k158 32 = some (.putfield 172, 6, 12) from rfl) (j := 12) zk_6_12 rfl rfl rfl ?_
    rw [← hs5]
    refine zt_iload_n zy_158 (show q_ins q_k158 35 = some (.iload_n 2, 0, 0) from rfl) (v := Int32.ofInt (s4.1 6 12)) rfl ?_
    cases h
    exact zt_iret zy_158 (show q_ins q_k158 36 = some (.ireturn, 0, 0) from rfl)
  · cases h
    exact zt_callVX (d := 2) zy_158 (show q_ins q_k158 5 = some (.invokevirtual 317, 169, 3) from rfl) zy_169 (by decide) ⟨zq_lt (by decide), by decide⟩ rfl (by simp [Value.category]) (by simp [lg_sl, Value.category]) (zt_rcv zc_0) (zt_dm (by decide) (S_C_needRange hca1))
theorem S_C_setRevive_36 {X : q_X}   : ∀ (x0 : Int) (σ : zt_S) (o : (Int × zt_S)), F_C_setRevive_36  x0 σ = some o → zt_Ex X 3 159 36 [] [.int (Int32.ofInt x0)] (zt_M σ) (zo_I o) := by
  intro x0 σ o  h
  unfold F_C_setRevive_36 at h
  cases h
  exact zt_iret zy_159 (show q_ins q_k159 36 = some (.ireturn, 0, 0) from rfl)
theorem S_C_setRevive {X : q_X}   {v1 : Int} {σ : zt_S} {o : (Int × zt_S)} (h : F_C_setRevive  v1 σ = some o) : zt_Ex X 3 159 0 (lv_args 0 [.ref 0, .int (Int32.ofInt v1)]) [] (zt_M σ) (zo_I o) := by
  unfold F_C_setRevive at h
  refine zt_aload_n zy_159 (show q_ins q_k159 0 = some (.aload_n 0, 0, 0) from rfl) (v := 0) rfl ?_
  refine zt_getR zy_159 (show q_ins q_k159 1 = some (.getfield 48, 10, 6) from rfl) (r := 16) zk_0_6 ?_
  refine zt_aload_n zy_159 (show q_ins q_k159 4 = some (.aload_n 0, 0, 0) from rfl) (v := 0) rfl ?_
  refine zt_getR zy_159 (show q_ins q_k159 5 = some (.getfield 41, 10, 5) from rfl) (r := 6) zk_0_5 ?_
  obtain ⟨a1, s2, hca1, h⟩ := zt_bdE h
  refine zt_callV (d := 2) zy_159 (show q_ins q_k159 8 = some (.invokevirtual 308, 8, 1) from rfl) zy_8 (by decide) ⟨zq_lt (by decide), by decide⟩ rfl (by simp [Value.category]) (by simp [lg_sl, Value.category]) (zt_rcv zc_16) (zt_dm (by decide) (S_Hi_keep (by decide) hca1)) ?_
  refine zt_aload_n zy_159 (show q_ins q_k159 11 = some (.aload_n 0, 0, 0) from rfl) (v := 0) rfl ?_
  refine zt_getR zy_159 (show q_ins q_k159 12 = some (.getfield 41, 10, 5) from rfl) (r := 6) zk_0_5 ?_
  refine zt_getI zy_159 (show q_ins q_k159 15 = some (.getfield 175, 6, 13) from rfl) (j := 13) zk_6_13 rfl ?_
  refine zt_istore_n zy_159 (show q_ins q_k159 18 = some (.istore_n 2, 0, 0) from rfl) (by decide) ?_
  refine zt_aload_n zy_159 (show q_ins q_k159 19 = some (.aload_n 0, 0, 0) from rfl) (v := 0) rfl ?_
  refine zt_getR zy_159 (show q_ins q_k159 20 = some (.getfield 41, 10, 5) from rfl) (r := 6) zk_0_5 ?_
  refine zt_iload_n zy_159 (show q_ins q_k159 23 = some (.iload_n 1, 0, 0) from rfl) (v := Int32.ofInt v1) rfl ?_
  obtain ⟨hg, h⟩ := zt_ckE h
  obtain ⟨s3, hs3, h⟩ := zt_letE h
  refine zt_putZ zy_159 (show q_ins q_k159 24 = some (.putfield 175, 6, 13) from rfl) (j := 13) zk_6_13 rfl rfl hg rfl ?_
  rw [← hs3]
  refine zt_iload_n zy_159 (show q_ins q_k159 27 = some (.iload_n 2, 0, 0) from rfl) (v := Int32.ofInt (s2.1 6 13)) rfl ?_
  obtain ⟨hg, h⟩ := zt_ckE h
  refine zt_if_eq zy_159 (show q_ins q_k159 28 = some (.ifCond .eq 7, 35, 0) from rfl) (hg) (fun hc => ?_) (fun hc => ?_)
  · rw [if_pos hc] at h
    refine zt_iconst zy_159 (show q_ins q_k159 35 = some (.iconst 0, 0, 0) from rfl) ?_
    exact zt_wk (zt_cov_nil) (S_C_setRevive_36  _ _ _ h)
  · rw [if_neg hc] at h
    refine zt_iconst zy_159 (show q_ins q_k159 31 = some (.iconst 1, 0, 0) from rfl) ?_
    refine zt_goto zy_159 (show q_ins q_k159 32 = some (.goto 4, 36, 0) from rfl) ?_
    exact zt_wk (zt_cov_nil) (S_C_setRevive_36  _ _ _ h)
theorem S_C_format {X : q_X}   {v1 : Int} {σ : zt_S} {o : ((Int ⊕ Nat) × zt_S)} (h : F_C_format  v1 σ = some o) : zt_Ex X 3 160 0 (lv_args 0 [.ref 0, .int (Int32.ofInt v1)]) [] (zt_M σ) (zx_I o) := by
  unfold F_C_format at h
  refine zt_aload_n zy_160 (show q_ins q_k160 0 = some (.aload_n 0, 0, 0) from rfl) (v := 0) rfl ?_
  refine zt_iload_n zy_160 (show q_ins q_k160 1 = some (.iload_n 1, 0, 0) from rfl) (v := Int32.ofInt v1) rfl ?_
  rcases zt_bxE h with ⟨a1, s2, hca1, h⟩ | ⟨E, s2, hca1, h⟩
  · refine zt_callV (d := 2) zy_160 (show q_ins q_k160 2 = some (.invokevirtual 212, 167, 1) from rfl) zy_167 (by decide) ⟨zq_lt (by decide), by decide⟩ rfl (by simp [Value.category]) (by simp [lg_sl, Value.category]) (zt_rcv zc_0) (zt_dm (by decide) (S_C_needPlayer hca1)) ?_
    refine zt_aload_n zy_160 (show q_ins q_k160 5 = some (.aload_n 0, 0, 0) from rfl) (v := 0) rfl ?_
    refine zt_getR zy_160 (show q_ins q_k160 6 = some (.getfield 85, 10, 12) from rfl) (r := 161) zk_0_12 ?_
    refine zt_aload_n zy_160 (show q_ins q_k160 9 = some (.aload_n 0, 0, 0) from rfl) (v := 0) rfl ?_
    refine zt_getR zy_160 (show q_ins q_k160 10 = some (.getfield 25, 10, 3) from rfl) (r := 3) zk_0_3 ?_
    refine zt_aload_n zy_160 (show q_ins q_k160 13 = some (.aload_n 0, 0, 0) from rfl) (v := 0) rfl ?_
    refine zt_getR zy_160 (show q_ins q_k160 14 = some (.getfield 41, 10, 5) from rfl) (r := 6) zk_0_5 ?_
    refine zt_iload_n zy_160 (show q_ins q_k160 17 = some (.iload_n 1, 0, 0) from rfl) (v := Int32.ofInt v1) rfl ?_
    obtain ⟨a3, s4, hca3, h⟩ := zt_bdE h
    refine zt_callV (d := 2) zy_160 (show q_ins q_k160 18 = some (.invokevirtual 215, 60, 1) from rfl) zy_60 (by decide) ⟨zq_lt (by decide), by decide⟩ rfl (by simp [Value.category]) (by simp [lg_sl, Value.category]) (zt_rcv zc_6) (zt_dm (by decide) (S_Tb_handOf (by decide) hca3)) ?_
    obtain ⟨a5, s6, hca5, h⟩ := zt_bdE h
    refine zt_callV (d := 2) zy_160 (show q_ins q_k160 21 = some (.invokevirtual 344, 1, 2) from rfl) zy_1 (by decide) ⟨zq_lt (by decide), by decide⟩ rfl (by simp [Value.category]) (by simp [lg_sl, Value.category]) (zt_rcv zc_161) (zt_dm (by decide) (S_HT_write (by decide) hca5)) ?_
    cases h
    exact zt_iret zy_160 (show q_ins q_k160 24 = some (.ireturn, 0, 0) from rfl)
  · cases h
    exact zt_callVX (d := 2) zy_160 (show q_ins q_k160 2 = some (.invokevirtual 212, 167, 1) from rfl) zy_167 (by decide) ⟨zq_lt (by decide), by decide⟩ rfl (by simp [Value.category]) (by simp [lg_sl, Value.category]) (zt_rcv zc_0) (zt_dm (by decide) (S_C_needPlayer hca1))
theorem S_C_formattedByte {X : q_X}   {v1 : Int} {σ : zt_S} {o : (Int × zt_S)} (h : F_C_formattedByte  v1 σ = some o) : zt_Ex X 1 161 0 (lv_args 0 [.ref 0, .int (Int32.ofInt v1)]) [] (zt_M σ) (zo_I o) := by
  unfold F_C_formattedByte at h
  refine zt_aload_n zy_161 (show q_ins q_k161 0 = some (.aload_n 0, 0, 0) from rfl) (v := 0) rfl ?_
  refine zt_getR zy_161 (show q_ins q_k161 1 = some (.getfield 85, 10, 12) from rfl) (r := 161) zk_0_12 ?_
  refine zt_iload_n zy_161 (show q_ins q_k161 4 = some (.iload_n 1, 0, 0) from rfl) (v := Int32.ofInt v1) rfl ?_
  obtain ⟨a1, s2, hca1, h⟩ := zt_bdE h
  refine zt_callV (d := 0) zy_161 (show q_ins q_k161 5 = some (.invokevirtual 348, 5, 1) from rfl) zy_5 (by decide) ⟨zq_lt (by decide), by decide⟩ rfl (by simp [Value.category]) (by simp [lg_sl, Value.category]) (zt_rcv zc_161) (zt_dm (by decide) (S_HT_byteAt hca1)) ?_
  cases h
  exact zt_iret zy_161 (show q_ins q_k161 8 = some (.ireturn, 0, 0) from rfl)
theorem S_C_undoCount {X : q_X}    {σ : zt_S} {o : (Int × zt_S)} (h : F_C_undoCount   σ = some o) : zt_Ex X 0 162 0 (lv_args 0 [.ref 0]) [] (zt_M σ) (zo_I o) := by
  unfold F_C_undoCount at h
  refine zt_aload_n zy_162 (show q_ins q_k162 0 = some (.aload_n 0, 0, 0) from rfl) (v := 0) rfl ?_
  refine zt_getR zy_162 (show q_ins q_k162 1 = some (.getfield 48, 10, 6) from rfl) (r := 16) zk_0_6 ?_
  refine zt_getI zy_162 (show q_ins q_k162 4 = some (.getfield 351, 1, 2) from rfl) (j := 2) zk_16_2 rfl ?_
  cases h
  exact zt_iret zy_162 (show q_ins q_k162 7 = some (.ireturn, 0, 0) from rfl)
theorem S_C_undo {X : q_X}    {σ : zt_S} {o : (Int × zt_S)} (h : F_C_undo   σ = some o) : zt_Ex X 3 163 0 (lv_args 0 [.ref 0]) [] (zt_M σ) (zo_I o) := by
  unfold F_C_undo at h
  refine zt_aload_n zy_163 (show q_ins q_k163 0 = some (.aload_n 0, 0, 0) from rfl) (v := 0) rfl ?_
  refine zt_getR zy_163 (show q_ins q_k163 1 = some (.getfield 48, 10, 6) from rfl) (r := 16) zk_0_6 ?_
  refine zt_getI zy_163 (show q_ins q_k163 4 = some (.getfield 351, 1, 2) from rfl) (j := 2) zk_16_2 rfl ?_
  obtain ⟨hg, h⟩ := zt_ckE h
  refine zt_if_gt zy_163 (show q_ins q_k163 7 = some (.ifCond .gt 5, 12, 0) from rfl) (hg) (fun hc => ?_) (fun hc => ?_)
  · rw [if_pos hc] at h
    refine zt_aload_n zy_163 (show q_ins q_k163 12 = some (.aload_n 0, 0, 0) from rfl) (v := 0) rfl ?_
    refine zt_getR zy_163 (show q_ins q_k163 13 = some (.getfield 48, 10, 6) from rfl) (r := 16) zk_0_6 ?_
    refine zt_aload_n zy_163 (show q_ins q_k163 16 = some (.aload_n 0, 0, 0) from rfl) (v := 0) rfl ?_
    refine zt_getR zy_163 (show q_ins q_k163 17 = some (.getfield 41, 10, 5) from rfl) (r := 6) zk_0_5 ?_
    obtain ⟨a1, s2, hca1, h⟩ := zt_bdE h
    refine zt_callV (d := 2) zy_163 (show q_ins q_k163 20 = some (.invokevirtual 354, 9, 1) from rfl) zy_9 (by decide) ⟨zq_lt (by decide), by decide⟩ rfl (by simp [Value.category]) (by simp [lg_sl, Value.category]) (zt_rcv zc_16) (zt_dm (by decide) (S_Hi_takeBack (by decide) hca1)) ?_
    refine zt_aload_n zy_163 (show q_ins q_k163 23 = some (.aload_n 0, 0, 0) from rfl) (v := 0) rfl ?_
    refine zt_getR zy_163 (show q_ins q_k163 24 = some (.getfield 48, 10, 6) from rfl) (r := 16) zk_0_6 ?_
    refine zt_getI zy_163 (show q_ins q_k163 27 = some (.getfield 351, 1, 2) from rfl) (j := 2) zk_16_2 rfl ?_
    cases h
    exact zt_iret zy_163 (show q_ins q_k163 30 = some (.ireturn, 0, 0) from rfl)
  · rw [if_neg hc] at h
    refine zt_iconst zy_163 (show q_ins q_k163 10 = some (.iconst (-1), 0, 0) from rfl) ?_
    cases h
    exact zt_iret zy_163 (show q_ins q_k163 11 = some (.ireturn, 0, 0) from rfl)
theorem S_C_saveSnapshot {X : q_X}    {σ : zt_S} {o : (Unit × zt_S)} (h : F_C_saveSnapshot   σ = some o) : zt_Ex X 2 164 0 (lv_args 0 [.ref 0]) [] (zt_M σ) (zo_V o) := by
  unfold F_C_saveSnapshot at h
  refine zt_aload_n zy_164 (show q_ins q_k164 0 = some (.aload_n 0, 0, 0) from rfl) (v := 0) rfl ?_
  refine zt_getR zy_164 (show q_ins q_k164 1 = some (.getfield 52, 10, 7) from rfl) (r := 118) zk_0_7 ?_
  refine zt_aload_n zy_164 (show q_ins q_k164 4 = some (.aload_n 0, 0, 0) from rfl) (v := 0) rfl ?_
  refine zt_getR zy_164 (show q_ins q_k164 5 = some (.getfield 41, 10, 5) from rfl) (r := 6) zk_0_5 ?_
  obtain ⟨a1, s2, hca1, h⟩ := zt_bdE h
  refine zt_callV (d := 1) zy_164 (show q_ins q_k164 8 = some (.invokevirtual 124, 52, 1) from rfl) zy_52 (by decide) ⟨zq_lt (by decide), by decide⟩ rfl (by simp [Value.category]) (by simp [lg_sl, Value.category]) (zt_rcv zc_118) (zt_dm (by decide) (S_Tb_copyFrom (by decide) (by decide) hca1)) ?_
  refine zt_aload_n zy_164 (show q_ins q_k164 11 = some (.aload_n 0, 0, 0) from rfl) (v := 0) rfl ?_
  refine zt_iconst zy_164 (show q_ins q_k164 12 = some (.iconst 1, 0, 0) from rfl) ?_
  obtain ⟨s3, hs3, h⟩ := zt_letE h
  refine zt_putZ zy_164 (show q_ins q_k164 13 = some (.putfield 129, 10, 8) from rfl) (j := 8) zk_0_8 rfl rfl (by decide) rfl ?_
  rw [← hs3]
  cases h
  exact zt_ret zy_164 (show q_ins q_k164 16 = some (.return_, 0, 0) from rfl)
theorem S_C_restoreSnapshot {X : q_X}    {σ : zt_S} {o : (Int × zt_S)} (h : F_C_restoreSnapshot   σ = some o) : zt_Ex X 2 165 0 (lv_args 0 [.ref 0]) [] (zt_M σ) (zo_I o) := by
  unfold F_C_restoreSnapshot at h
  refine zt_aload_n zy_165 (show q_ins q_k165 0 = some (.aload_n 0, 0, 0) from rfl) (v := 0) rfl ?_
  refine zt_getI zy_165 (show q_ins q_k165 1 = some (.getfield 129, 10, 8) from rfl) (j := 8) zk_0_8 rfl ?_
  obtain ⟨hg, h⟩ := zt_ckE h
  refine zt_if_ne zy_165 (show q_ins q_k165 4 = some (.ifCond .ne 5, 9, 0) from rfl) (hg) (fun hc => ?_) (fun hc => ?_)
  · rw [if_pos hc] at h
    refine zt_iconst zy_165 (show q_ins q_k165 7 = some (.iconst 0, 0, 0) from rfl) ?_
    cases h
    exact zt_zret zy_165 (show q_ins q_k165 8 = some (.ireturn, 0, 0) from rfl) (by decide)
  · rw [if_neg hc] at h
    refine zt_aload_n zy_165 (show q_ins q_k165 9 = some (.aload_n 0, 0, 0) from rfl) (v := 0) rfl ?_
    refine zt_getR zy_165 (show q_ins q_k165 10 = some (.getfield 41, 10, 5) from rfl) (r := 6) zk_0_5 ?_
    refine zt_aload_n zy_165 (show q_ins q_k165 13 = some (.aload_n 0, 0, 0) from rfl) (v := 0) rfl ?_
    refine zt_getR zy_165 (show q_ins q_k165 14 = some (.getfield 52, 10, 7) from rfl) (r := 118) zk_0_7 ?_
    obtain ⟨a1, s2, hca1, h⟩ := zt_bdE h
    refine zt_callV (d := 1) zy_165 (show q_ins q_k165 17 = some (.invokevirtual 124, 52, 1) from rfl) zy_52 (by decide) ⟨zq_lt (by decide), by decide⟩ rfl (by simp [Value.category]) (by simp [lg_sl, Value.category]) (zt_rcv zc_6) (zt_dm (by decide) (S_Tb_copyFrom (by decide) (by decide) hca1)) ?_
    refine zt_aload_n zy_165 (show q_ins q_k165 20 = some (.aload_n 0, 0, 0) from rfl) (v := 0) rfl ?_
    refine zt_getR zy_165 (show q_ins q_k165 21 = some (.getfield 48, 10, 6) from rfl) (r := 16) zk_0_6 ?_
    obtain ⟨a3, s4, hca3, h⟩ := zt_bdE h
    refine zt_callV (d := 1) zy_165 (show q_ins q_k165 24 = some (.invokevirtual 126, 7, 0) from rfl) zy_7 (by decide) ⟨zq_lt (by decide), by decide⟩ rfl (by simp [Value.category]) (by simp [lg_sl, Value.category]) (zt_rcv zc_16) (zt_dm (by decide) (S_Hi_clear hca3)) ?_
    refine zt_iconst zy_165 (show q_ins q_k165 27 = some (.iconst 1, 0, 0) from rfl) ?_
    cases h
    exact zt_zret zy_165 (show q_ins q_k165 28 = some (.ireturn, 0, 0) from rfl) (by decide)
theorem S_M_thrown {X : q_X}    {σ : zt_S} {o : (Int × zt_S)} (h : F_M_thrown   σ = some o) : zt_Ex X 0 170 0 (lv_args 0 [.ref 163]) [] (zt_M σ) (zo_I o) := by
  unfold F_M_thrown at h
  refine zt_aload_n zy_170 (show q_ins q_k170 0 = some (.aload_n 0, 0, 0) from rfl) (v := 163) rfl ?_
  refine zt_getI zy_170 (show q_ins q_k170 1 = some (.getfield 1, 11, 0) from rfl) (j := 0) zk_163_0 rfl ?_
  cases h
  exact zt_iret zy_170 (show q_ins q_k170 4 = some (.ireturn, 0, 0) from rfl)
theorem S_M_in_18 {X : q_X}   : ∀ (x0 : Int) (σ : zt_S) (o : (Int × zt_S)), F_M_in_18  x0 σ = some o → zt_Ex X 0 171 18 [] [.int (Int32.ofInt x0)] (zt_M σ) (zo_I o) := by
  intro x0 σ o  h
  unfold F_M_in_18 at h
  obtain ⟨hg, h⟩ := zt_ckE h
  cases h
  exact zt_zret zy_171 (show q_ins q_k171 18 = some (.ireturn, 0, 0) from rfl) hg
theorem S_M_in_17 {X : q_X}   : ∀  (σ : zt_S) (o : (Int × zt_S)), F_M_in_17   σ = some o → zt_Ex X 0 171 17 [] [] (zt_M σ) (zo_I o) := by
  intro  σ o  h
  unfold F_M_in_17 at h
  refine zt_iconst zy_171 (show q_ins q_k171 17 = some (.iconst 0, 0, 0) from rfl) ?_
  exact zt_wk (zt_cov_nil) (S_M_in_18  _ _ _ h)
theorem S_M_in {X : q_X}   {v0 : Int64} {v2 : Int64} {v4 : Int64} {σ : zt_S} {o : (Int × zt_S)} (h : F_M_in  v0 v2 v4 σ = some o) : zt_Ex X 0 171 0 (lv_args 0 [.long v0, .long v2, .long v4]) [] (zt_M σ) (zo_I o) := by
  unfold F_M_in at h
  refine zt_lload_n zy_171 (show q_ins q_k171 0 = some (.lload_n 0, 0, 0) from rfl) (v := v0) rfl ?_
  refine zt_lload_n zy_171 (show q_ins q_k171 1 = some (.lload_n 2, 0, 0) from rfl) (v := v2) rfl ?_
  refine zt_lcmp zy_171 (show q_ins q_k171 2 = some (.lcmp, 0, 0) from rfl) ?_
  refine zt_if_lt zy_171 (show q_ins q_k171 3 = some (.ifCond .lt 14, 17, 0) from rfl) (zt_inT _) (fun hc => ?_) (fun hc => ?_)
  · rw [if_pos hc] at h
    exact zt_wk (zt_cov_nil) (S_M_in_17  _ _ h)
  · rw [if_neg hc] at h
    refine zt_lload_n zy_171 (show q_ins q_k171 6 = some (.lload_n 0, 0, 0) from rfl) (v := v0) rfl ?_
    refine zt_lload zy_171 (show q_ins q_k171 7 = some (.lload 4, 0, 0) from rfl) (v := v4) rfl ?_
    refine zt_lcmp zy_171 (show q_ins q_k171 9 = some (.lcmp, 0, 0) from rfl) ?_
    refine zt_if_gt zy_171 (show q_ins q_k171 10 = some (.ifCond .gt 7, 17, 0) from rfl) (zt_inT _) (fun hc => ?_) (fun hc => ?_)
    · rw [if_pos hc] at h
      exact zt_wk (zt_cov_nil) (S_M_in_17  _ _ h)
    · rw [if_neg hc] at h
      refine zt_iconst zy_171 (show q_ins q_k171 13 = some (.iconst 1, 0, 0) from rfl) ?_
      refine zt_goto zy_171 (show q_ins q_k171 14 = some (.goto 4, 18, 0) from rfl) ?_
      exact zt_wk (zt_cov_nil) (S_M_in_18  _ _ _ h)
theorem S_M_lesser_10 {X : q_X}   : ∀ (x0 : Int) (σ : zt_S) (o : (Int × zt_S)), F_M_lesser_10  x0 σ = some o → zt_Ex X 0 172 10 [] [.int (Int32.ofInt x0)] (zt_M σ) (zo_I o) := by
  intro x0 σ o  h
  unfold F_M_lesser_10 at h
  cases h
  exact zt_iret zy_172 (show q_ins q_k172 10 = some (.ireturn, 0, 0) from rfl)
theorem S_M_lesser {X : q_X}   {v0 : Int} {v1 : Int} {σ : zt_S} {o : (Int × zt_S)} (h : F_M_lesser  v0 v1 σ = some o) : zt_Ex X 0 172 0 (lv_args 0 [.int (Int32.ofInt v0), .int (Int32.ofInt v1)]) [] (zt_M σ) (zo_I o) := by
  unfold F_M_lesser at h
  refine zt_iload_n zy_172 (show q_ins q_k172 0 = some (.iload_n 0, 0, 0) from rfl) (v := Int32.ofInt v0) rfl ?_
  refine zt_iload_n zy_172 (show q_ins q_k172 1 = some (.iload_n 1, 0, 0) from rfl) (v := Int32.ofInt v1) rfl ?_
  obtain ⟨hg, h⟩ := zt_ckE h
  refine zt_icmp_ge zy_172 (show q_ins q_k172 2 = some (.if_icmp .ge 7, 9, 0) from rfl) (⟨hg.1, hg.2⟩) (fun hc => ?_) (fun hc => ?_)
  · rw [if_pos hc] at h
    refine zt_iload_n zy_172 (show q_ins q_k172 5 = some (.iload_n 0, 0, 0) from rfl) (v := Int32.ofInt v0) rfl ?_
    refine zt_goto zy_172 (show q_ins q_k172 6 = some (.goto 4, 10, 0) from rfl) ?_
    exact zt_wk (zt_cov_nil) (S_M_lesser_10  _ _ _ h)
  · rw [if_neg hc] at h
    refine zt_iload_n zy_172 (show q_ins q_k172 9 = some (.iload_n 1, 0, 0) from rfl) (v := Int32.ofInt v1) rfl ?_
    exact zt_wk (zt_cov_nil) (S_M_lesser_10  _ _ _ h)
theorem S_M_greater_10 {X : q_X}   : ∀ (x0 : Int) (σ : zt_S) (o : (Int × zt_S)), F_M_greater_10  x0 σ = some o → zt_Ex X 0 173 10 [] [.int (Int32.ofInt x0)] (zt_M σ) (zo_I o) := by
  intro x0 σ o  h
  unfold F_M_greater_10 at h
  cases h
  exact zt_iret zy_173 (show q_ins q_k173 10 = some (.ireturn, 0, 0) from rfl)
theorem S_M_greater {X : q_X}   {v0 : Int} {v1 : Int} {σ : zt_S} {o : (Int × zt_S)} (h : F_M_greater  v0 v1 σ = some o) : zt_Ex X 0 173 0 (lv_args 0 [.int (Int32.ofInt v0), .int (Int32.ofInt v1)]) [] (zt_M σ) (zo_I o) := by
  unfold F_M_greater at h
  refine zt_iload_n zy_173 (show q_ins q_k173 0 = some (.iload_n 0, 0, 0) from rfl) (v := Int32.ofInt v0) rfl ?_
  refine zt_iload_n zy_173 (show q_ins q_k173 1 = some (.iload_n 1, 0, 0) from rfl) (v := Int32.ofInt v1) rfl ?_
  obtain ⟨hg, h⟩ := zt_ckE h
  refine zt_icmp_le zy_173 (show q_ins q_k173 2 = some (.if_icmp .le 7, 9, 0) from rfl) (⟨hg.1, hg.2⟩) (fun hc => ?_) (fun hc => ?_)
  · rw [if_pos hc] at h
    refine zt_iload_n zy_173 (show q_ins q_k173 5 = some (.iload_n 0, 0, 0) from rfl) (v := Int32.ofInt v0) rfl ?_
    refine zt_goto zy_173 (show q_ins q_k173 6 = some (.goto 4, 10, 0) from rfl) ?_
    exact zt_wk (zt_cov_nil) (S_M_greater_10  _ _ _ h)
  · rw [if_neg hc] at h
    refine zt_iload_n zy_173 (show q_ins q_k173 9 = some (.iload_n 1, 0, 0) from rfl) (v := Int32.ofInt v1) rfl ?_
    exact zt_wk (zt_cov_nil) (S_M_greater_10  _ _ _ h)
theorem S_M_fails_28 {X : q_X}   : ∀ (x0 : Int) (σ : zt_S) (o : (Int × zt_S)), F_M_fails_28  x0 σ = some o → zt_Ex X 0 174 28 [] [.int (Int32.ofInt x0)] (zt_M σ) (zo_I o) := by
  intro x0 σ o  h
  unfold F_M_fails_28 at h
  obtain ⟨hg, h⟩ := zt_ckE h
  cases h
  exact zt_zret zy_174 (show q_ins q_k174 28 = some (.ireturn, 0, 0) from rfl) hg
theorem S_M_fails_16 {X : q_X}   : ∀  (σ : zt_S) (o : (Int × zt_S)), F_M_fails_16   σ = some o → zt_Ex X 0 174 16 [(0, .ref 163)] [] (zt_M σ) (zo_I o) := by
  intro  σ o  h
  unfold F_M_fails_16 at h
  refine zt_aload_n zy_174 (show q_ins q_k174 16 = some (.aload_n 0, 0, 0) from rfl) (v := 163) rfl ?_
  refine zt_getI zy_174 (show q_ins q_k174 17 = some (.getfield 1, 11, 0) from rfl) (j := 0) zk_163_0 rfl ?_
  obtain ⟨hg, h⟩ := zt_ckE h
  refine zt_if_eq zy_174 (show q_ins q_k174 20 = some (.ifCond .eq 7, 27, 0) from rfl) (hg) (fun hc => ?_) (fun hc => ?_)
  · rw [if_pos hc] at h
    refine zt_iconst zy_174 (show q_ins q_k174 27 = some (.iconst 0, 0, 0) from rfl) ?_
    exact zt_wk (zt_cov_nil) (S_M_fails_28  _ _ _ h)
  · rw [if_neg hc] at h
    refine zt_iconst zy_174 (show q_ins q_k174 23 = some (.iconst 1, 0, 0) from rfl) ?_
    refine zt_goto zy_174 (show q_ins q_k174 24 = some (.goto 4, 28, 0) from rfl) ?_
    exact zt_wk (zt_cov_nil) (S_M_fails_28  _ _ _ h)
theorem S_M_fails {X : q_X}   {v1 : Int} {v2 : Int} {σ : zt_S} {o : (Int × zt_S)} (h : F_M_fails  v1 v2 σ = some o) : zt_Ex X 0 174 0 (lv_args 0 [.ref 163, .int (Int32.ofInt v1), .int (Int32.ofInt v2)]) [] (zt_M σ) (zo_I o) := by
  unfold F_M_fails at h
  refine zt_iload_n zy_174 (show q_ins q_k174 0 = some (.iload_n 1, 0, 0) from rfl) (v := Int32.ofInt v1) rfl ?_
  obtain ⟨hg, h⟩ := zt_ckE h
  refine zt_if_ne zy_174 (show q_ins q_k174 1 = some (.ifCond .ne 15, 16, 0) from rfl) (hg) (fun hc => ?_) (fun hc => ?_)
  · rw [if_pos hc] at h
    refine zt_aload_n zy_174 (show q_ins q_k174 4 = some (.aload_n 0, 0, 0) from rfl) (v := 163) rfl ?_
    refine zt_getI zy_174 (show q_ins q_k174 5 = some (.getfield 1, 11, 0) from rfl) (j := 0) zk_163_0 rfl ?_
    obtain ⟨hg, h⟩ := zt_ckE h
    refine zt_if_ne zy_174 (show q_ins q_k174 8 = some (.ifCond .ne 8, 16, 0) from rfl) (hg) (fun hc => ?_) (fun hc => ?_)
    · rw [if_pos hc] at h
      refine zt_aload_n zy_174 (show q_ins q_k174 11 = some (.aload_n 0, 0, 0) from rfl) (v := 163) rfl ?_
      refine zt_iload_n zy_174 (show q_ins q_k174 12 = some (.iload_n 2, 0, 0) from rfl) (v := Int32.ofInt v2) rfl ?_
      obtain ⟨s1, hs1, h⟩ := zt_letE h
      refine zt_putI zy_174 (show q_ins q_k174 13 = some (.putfield 1, 11, 0) from rfl) (j := 0) zk_163_0 rfl rfl rfl ?_
      rw [← hs1]
      exact zt_wk (zt_cov_cons rfl (zt_cov_nil)) (S_M_fails_16  _ _ h)
    · rw [if_neg hc] at h
      exact zt_wk (zt_cov_cons rfl (zt_cov_nil)) (S_M_fails_16  _ _ h)
  · rw [if_neg hc] at h
    exact zt_wk (zt_cov_cons rfl (zt_cov_nil)) (S_M_fails_16  _ _ h)
theorem S_M_copies_3 {X : q_X} {c0 : Nat} {n0 : Nat} {c2 : Nat} {n2 : Nat} (ha0 : zt_sh[c0]? = some (.inl (0, n0))) (hn0 : n0 ≤ 1000000) (ha2 : zt_sh[c2]? = some (.inl (0, n2))) (hn2 : n2 ≤ 1000000) : ∀ (n : Nat) (v1 : Int) (v3 : Int) (v4 : Int) (σ : zt_S) (o : (Unit × zt_S)), F_M_copies_3 c0 n0 c2 n2 n v1 v3 v4 σ = some o → zt_Ex X 0 176 3 [(0, .ref c0), (1, .int (Int32.ofInt v1)), (2, .ref c2), (3, .int (Int32.ofInt v3)), (4, .int (Int32.ofInt v4))] [] (zt_M σ) (zo_V o) := by
  intro n
  induction n with
  | zero => intro v1 v3 v4 σ o  h; cases h
  | succ n ih =>
  intro v1 v3 v4 σ o  h
  rw [F_M_copies_3] at h
  refine zt_iload zy_176 (show q_ins q_k176 3 = some (.iload 4, 0, 0) from rfl) (v := Int32.ofInt v4) rfl ?_
  refine zt_sipush zy_176 (show q_ins q_k176 5 = some (.sipush 274, 0, 0) from rfl) (by decide) ?_
  obtain ⟨hg, h⟩ := zt_ckE h
  refine zt_icmp_ge zy_176 (show q_ins q_k176 8 = some (.if_icmp .ge 21, 29, 0) from rfl) (⟨hg, by decide⟩) (fun hc => ?_) (fun hc => ?_)
  · rw [if_pos hc] at h
    refine zt_aload_n zy_176 (show q_ins q_k176 11 = some (.aload_n 2, 0, 0) from rfl) (v := c2) rfl ?_
    refine zt_iload_n zy_176 (show q_ins q_k176 12 = some (.iload_n 3, 0, 0) from rfl) (v := Int32.ofInt v3) rfl ?_
    refine zt_iload zy_176 (show q_ins q_k176 13 = some (.iload 4, 0, 0) from rfl) (v := Int32.ofInt v4) rfl ?_
    refine zt_iadd zy_176 (show q_ins q_k176 15 = some (.iadd, 0, 0) from rfl) ?_
    refine zt_aload_n zy_176 (show q_ins q_k176 16 = some (.aload_n 0, 0, 0) from rfl) (v := c0) rfl ?_
    refine zt_iload_n zy_176 (show q_ins q_k176 17 = some (.iload_n 1, 0, 0) from rfl) (v := Int32.ofInt v1) rfl ?_
    refine zt_iload zy_176 (show q_ins q_k176 18 = some (.iload 4, 0, 0) from rfl) (v := Int32.ofInt v4) rfl ?_
    refine zt_iadd zy_176 (show q_ins q_k176 20 = some (.iadd, 0, 0) from rfl) ?_
    obtain ⟨hg, h⟩ := zt_ckE h
    refine zt_ald zy_176 (show q_ins q_k176 21 = some (.iaload, 0, 0) from rfl) ha0 hn0 hg ?_
    obtain ⟨hg, h⟩ := zt_ckE h
    obtain ⟨s1, hs1, h⟩ := zt_letE h
    refine zt_ast zy_176 (show q_ins q_k176 22 = some (.iastore, 0, 0) from rfl) ha2 hn2 hg ?_
    rw [← hs1]
    refine zt_iinc zy_176 (show q_ins q_k176 23 = some (.iinc 4 1, 0, 0) from rfl) (v := v4) (by decide) rfl ?_
    refine zt_goto zy_176 (show q_ins q_k176 26 = some (.goto (-23), 3, 0) from rfl) ?_
    exact zt_wk (zt_cov_cons rfl (zt_cov_cons rfl (zt_cov_cons rfl (zt_cov_cons rfl (zt_cov_cons rfl (zt_cov_nil)))))) (ih _ _ _ _ _ h)
  · rw [if_neg hc] at h
    cases h
    exact zt_ret zy_176 (show q_ins q_k176 29 = some (.return_, 0, 0) from rfl)
theorem S_M_copies {X : q_X} {c0 : Nat} {n0 : Nat} {c2 : Nat} {n2 : Nat} (ha0 : zt_sh[c0]? = some (.inl (0, n0))) (hn0 : n0 ≤ 1000000) (ha2 : zt_sh[c2]? = some (.inl (0, n2))) (hn2 : n2 ≤ 1000000) {v1 : Int} {v3 : Int} {σ : zt_S} {o : (Unit × zt_S)} (h : F_M_copies c0 n0 c2 n2 v1 v3 σ = some o) : zt_Ex X 0 176 0 (lv_args 0 [.ref c0, .int (Int32.ofInt v1), .ref c2, .int (Int32.ofInt v3)]) [] (zt_M σ) (zo_V o) := by
  unfold F_M_copies at h
  refine zt_iconst zy_176 (show q_ins q_k176 0 = some (.iconst 0, 0, 0) from rfl) ?_
  refine zt_istore zy_176 (show q_ins q_k176 1 = some (.istore 4, 0, 0) from rfl) (by decide) ?_
  exact zt_wk (zt_cov_cons rfl (zt_cov_cons rfl (zt_cov_cons rfl (zt_cov_cons rfl (zt_cov_cons rfl (zt_cov_nil)))))) (S_M_copies_3  ha0 hn0 ha2 hn2 _ _ _ _ _ _ h)
theorem S_M_lights_25 {X : q_X} {c0 : Nat} {n0 : Nat} (ha0 : zt_sh[c0]? = some (.inl (0, n0))) (hn0 : n0 ≤ 1000000) : ∀ (x0 : Int) (x1 : Int) (σ : zt_S) (o : (Unit × zt_S)), F_M_lights_25 c0 n0 x0 x1 σ = some o → zt_Ex X 0 179 25 [] [.int (Int32.ofInt x0), .int (Int32.ofInt x1), .ref c0] (zt_M σ) (zo_V o) := by
  intro x0 x1 σ o  h
  unfold F_M_lights_25 at h
  obtain ⟨hg, h⟩ := zt_ckE h
  obtain ⟨s2, hs2, h⟩ := zt_letE h
  refine zt_ast zy_179 (show q_ins q_k179 25 = some (.iastore, 0, 0) from rfl) ha0 hn0 hg ?_
  rw [← hs2]
  cases h
  exact zt_ret zy_179 (show q_ins q_k179 26 = some (.return_, 0, 0) from rfl)
theorem S_M_lights {X : q_X} {c0 : Nat} {n0 : Nat} (ha0 : zt_sh[c0]? = some (.inl (0, n0))) (hn0 : n0 ≤ 1000000)  {σ : zt_S} {o : (Unit × zt_S)} (h : F_M_lights c0 n0  σ = some o) : zt_Ex X 0 179 0 (lv_args 0 [.ref c0]) [] (zt_M σ) (zo_V o) := by
  unfold F_M_lights at h
  refine zt_aload_n zy_179 (show q_ins q_k179 0 = some (.aload_n 0, 0, 0) from rfl) (v := c0) rfl ?_
  refine zt_bipush zy_179 (show q_ins q_k179 1 = some (.bipush 10, 0, 0) from rfl) (by decide) ?_
  refine zt_aload_n zy_179 (show q_ins q_k179 3 = some (.aload_n 0, 0, 0) from rfl) (v := c0) rfl ?_
  refine zt_iconst zy_179 (show q_ins q_k179 4 = some (.iconst 4, 0, 0) from rfl) ?_
  obtain ⟨hg, h⟩ := zt_ckE h
  refine zt_ald zy_179 (show q_ins q_k179 5 = some (.iaload, 0, 0) from rfl) ha0 hn0 hg ?_
  obtain ⟨hg, h⟩ := zt_ckE h
  obtain ⟨s1, hs1, h⟩ := zt_letE h
  refine zt_ast zy_179 (show q_ins q_k179 6 = some (.iastore, 0, 0) from rfl) ha0 hn0 hg ?_
  rw [← hs1]
  refine zt_aload_n zy_179 (show q_ins q_k179 7 = some (.aload_n 0, 0, 0) from rfl) (v := c0) rfl ?_
  refine zt_bipush zy_179 (show q_ins q_k179 8 = some (.bipush 11, 0, 0) from rfl) (by decide) ?_
  refine zt_aload_n zy_179 (show q_ins q_k179 10 = some (.aload_n 0, 0, 0) from rfl) (v := c0) rfl ?_
  refine zt_bipush zy_179 (show q_ins q_k179 11 = some (.bipush 10, 0, 0) from rfl) (by decide) ?_
  obtain ⟨hg, h⟩ := zt_ckE h
  refine zt_ald zy_179 (show q_ins q_k179 13 = some (.iaload, 0, 0) from rfl) ha0 hn0 hg ?_
  refine zt_iconst zy_179 (show q_ins q_k179 14 = some (.iconst (-1), 0, 0) from rfl) ?_
  obtain ⟨hg, h⟩ := zt_ckE h
  refine zt_icmp_ne zy_179 (show q_ins q_k179 15 = some (.if_icmp .ne 7, 22, 0) from rfl) (⟨hg, by decide⟩) (fun hc => ?_) (fun hc => ?_)
  · rw [if_pos hc] at h
    refine zt_iconst zy_179 (show q_ins q_k179 18 = some (.iconst 0, 0, 0) from rfl) ?_
    refine zt_goto zy_179 (show q_ins q_k179 19 = some (.goto 6, 25, 0) from rfl) ?_
    exact zt_wk (zt_cov_nil) (S_M_lights_25  ha0 hn0 _ _ _ _ h)
  · rw [if_neg hc] at h
    refine zt_aload_n zy_179 (show q_ins q_k179 22 = some (.aload_n 0, 0, 0) from rfl) (v := c0) rfl ?_
    refine zt_iconst zy_179 (show q_ins q_k179 23 = some (.iconst 5, 0, 0) from rfl) ?_
    obtain ⟨hg, h⟩ := zt_ckE h
    refine zt_ald zy_179 (show q_ins q_k179 24 = some (.iaload, 0, 0) from rfl) ha0 hn0 hg ?_
    exact zt_wk (zt_cov_nil) (S_M_lights_25  ha0 hn0 _ _ _ _ h)
theorem S_M_starts0_62 {X : q_X} {c0 : Nat} {n0 : Nat} (ha0 : zt_sh[c0]? = some (.inl (0, n0))) (hn0 : n0 ≤ 1000000) : ∀  (σ : zt_S) (o : (Unit × zt_S)), F_M_starts0_62 c0 n0  σ = some o → zt_Ex X 1 178 62 [(0, .ref c0)] [] (zt_M σ) (zo_V o) := by
  intro  σ o  h
  unfold F_M_starts0_62 at h
  refine zt_aload_n zy_178 (show q_ins q_k178 62 = some (.aload_n 0, 0, 0) from rfl) (v := c0) rfl ?_
  refine zt_bipush zy_178 (show q_ins q_k178 63 = some (.bipush 9, 0, 0) from rfl) (by decide) ?_
  refine zt_aload_n zy_178 (show q_ins q_k178 65 = some (.aload_n 0, 0, 0) from rfl) (v := c0) rfl ?_
  refine zt_bipush zy_178 (show q_ins q_k178 66 = some (.bipush 8, 0, 0) from rfl) (by decide) ?_
  obtain ⟨hg, h⟩ := zt_ckE h
  refine zt_ald zy_178 (show q_ins q_k178 68 = some (.iaload, 0, 0) from rfl) ha0 hn0 hg ?_
  obtain ⟨hg, h⟩ := zt_ckE h
  obtain ⟨s4, hs4, h⟩ := zt_letE h
  refine zt_ast zy_178 (show q_ins q_k178 69 = some (.iastore, 0, 0) from rfl) ha0 hn0 hg ?_
  rw [← hs4]
  refine zt_aload_n zy_178 (show q_ins q_k178 70 = some (.aload_n 0, 0, 0) from rfl) (v := c0) rfl ?_
  refine zt_bipush zy_178 (show q_ins q_k178 71 = some (.bipush 12, 0, 0) from rfl) (by decide) ?_
  refine zt_iconst zy_178 (show q_ins q_k178 73 = some (.iconst 0, 0, 0) from rfl) ?_
  obtain ⟨hg, h⟩ := zt_ckE h
  obtain ⟨s5, hs5, h⟩ := zt_letE h
  refine zt_ast zy_178 (show q_ins q_k178 74 = some (.iastore, 0, 0) from rfl) ha0 hn0 hg ?_
  rw [← hs5]
  refine zt_aload_n zy_178 (show q_ins q_k178 75 = some (.aload_n 0, 0, 0) from rfl) (v := c0) rfl ?_
  refine zt_bipush zy_178 (show q_ins q_k178 76 = some (.bipush 13, 0, 0) from rfl) (by decide) ?_
  refine zt_iconst zy_178 (show q_ins q_k178 78 = some (.iconst 0, 0, 0) from rfl) ?_
  obtain ⟨hg, h⟩ := zt_ckE h
  obtain ⟨s6, hs6, h⟩ := zt_letE h
  refine zt_ast zy_178 (show q_ins q_k178 79 = some (.iastore, 0, 0) from rfl) ha0 hn0 hg ?_
  rw [← hs6]
  refine zt_aload_n zy_178 (show q_ins q_k178 80 = some (.aload_n 0, 0, 0) from rfl) (v := c0) rfl ?_
  obtain ⟨a7, s8, hca7, h⟩ := zt_bdE h
  refine zt_callS (d := 0) zy_178 (show q_ins q_k178 81 = some (.invokestatic 94, 179, 1) from rfl) zy_179 (by decide) ⟨zq_lt (by decide), by decide⟩ rfl (by simp [Value.category]) (by simp [lg_sl, Value.category]) rfl (zt_dm (by decide) (S_M_lights ha0 hn0 hca7)) ?_
  cases h
  exact zt_ret zy_178 (show q_ins q_k178 84 = some (.return_, 0, 0) from rfl)
theorem S_M_starts0_43 {X : q_X} {c0 : Nat} {n0 : Nat} (ha0 : zt_sh[c0]? = some (.inl (0, n0))) (hn0 : n0 ≤ 1000000) : ∀ (n : Nat) (v1 : Int) (σ : zt_S) (o : (Unit × zt_S)), F_M_starts0_43 c0 n0 n v1 σ = some o → zt_Ex X 1 178 43 [(0, .ref c0), (1, .int (Int32.ofInt v1))] [] (zt_M σ) (zo_V o) := by
  intro n
  induction n with
  | zero => intro v1 σ o  h; cases h
  | succ n ih =>
  intro v1 σ o  h
  rw [F_M_starts0_43] at h
  refine zt_iload_n zy_178 (show q_ins q_k178 43 = some (.iload_n 1, 0, 0) from rfl) (v := Int32.ofInt v1) rfl ?_
  refine zt_bipush zy_178 (show q_ins q_k178 44 = some (.bipush 52, 0, 0) from rfl) (by decide) ?_
  obtain ⟨hg, h⟩ := zt_ckE h
  refine zt_icmp_ge zy_178 (show q_ins q_k178 46 = some (.if_icmp .ge 16, 62, 0) from rfl) (⟨hg, by decide⟩) (fun hc => ?_) (fun hc => ?_)
  · rw [if_pos hc] at h
    refine zt_aload_n zy_178 (show q_ins q_k178 49 = some (.aload_n 0, 0, 0) from rfl) (v := c0) rfl ?_
    refine zt_bipush zy_178 (show q_ins q_k178 50 = some (.bipush 40, 0, 0) from rfl) (by decide) ?_
    refine zt_iload_n zy_178 (show q_ins q_k178 52 = some (.iload_n 1, 0, 0) from rfl) (v := Int32.ofInt v1) rfl ?_
    refine zt_iadd zy_178 (show q_ins q_k178 53 = some (.iadd, 0, 0) from rfl) ?_
    refine zt_iconst zy_178 (show q_ins q_k178 54 = some (.iconst (-1), 0, 0) from rfl) ?_
    obtain ⟨hg, h⟩ := zt_ckE h
    obtain ⟨s3, hs3, h⟩ := zt_letE h
    refine zt_ast zy_178 (show q_ins q_k178 55 = some (.iastore, 0, 0) from rfl) ha0 hn0 hg ?_
    rw [← hs3]
    refine zt_iinc zy_178 (show q_ins q_k178 56 = some (.iinc 1 1, 0, 0) from rfl) (v := v1) (by decide) rfl ?_
    refine zt_goto zy_178 (show q_ins q_k178 59 = some (.goto (-16), 43, 0) from rfl) ?_
    exact zt_wk (zt_cov_cons rfl (zt_cov_cons rfl (zt_cov_nil))) (ih _ _ _ h)
  · rw [if_neg hc] at h
    exact zt_wk (zt_cov_cons rfl (zt_cov_nil)) (S_M_starts0_62  ha0 hn0 _ _ h)
theorem S_M_starts0_22 {X : q_X} {c0 : Nat} {n0 : Nat} (ha0 : zt_sh[c0]? = some (.inl (0, n0))) (hn0 : n0 ≤ 1000000) : ∀ (n : Nat) (v1 : Int) (σ : zt_S) (o : (Unit × zt_S)), F_M_starts0_22 c0 n0 n v1 σ = some o → zt_Ex X 1 178 22 [(0, .ref c0), (1, .int (Int32.ofInt v1))] [] (zt_M σ) (zo_V o) := by
  intro n
  induction n with
  | zero => intro v1 σ o  h; cases h
  | succ n ih =>
  intro v1 σ o  h
  rw [F_M_starts0_22] at h
  refine zt_iload_n zy_178 (show q_ins q_k178 22 = some (.iload_n 1, 0, 0) from rfl) (v := Int32.ofInt v1) rfl ?_
  refine zt_bipush zy_178 (show q_ins q_k178 23 = some (.bipush 16, 0, 0) from rfl) (by decide) ?_
  obtain ⟨hg, h⟩ := zt_ckE h
  refine zt_icmp_ge zy_178 (show q_ins q_k178 25 = some (.if_icmp .ge 16, 41, 0) from rfl) (⟨hg, by decide⟩) (fun hc => ?_) (fun hc => ?_)
  · rw [if_pos hc] at h
    refine zt_aload_n zy_178 (show q_ins q_k178 28 = some (.aload_n 0, 0, 0) from rfl) (v := c0) rfl ?_
    refine zt_bipush zy_178 (show q_ins q_k178 29 = some (.bipush 24, 0, 0) from rfl) (by decide) ?_
    refine zt_iload_n zy_178 (show q_ins q_k178 31 = some (.iload_n 1, 0, 0) from rfl) (v := Int32.ofInt v1) rfl ?_
    refine zt_iadd zy_178 (show q_ins q_k178 32 = some (.iadd, 0, 0) from rfl) ?_
    refine zt_iconst zy_178 (show q_ins q_k178 33 = some (.iconst 0, 0, 0) from rfl) ?_
    obtain ⟨hg, h⟩ := zt_ckE h
    obtain ⟨s2, hs2, h⟩ := zt_letE h
    refine zt_ast zy_178 (show q_ins q_k178 34 = some (.iastore, 0, 0) from rfl) ha0 hn0 hg ?_
    rw [← hs2]
    refine zt_iinc zy_178 (show q_ins q_k178 35 = some (.iinc 1 1, 0, 0) from rfl) (v := v1) (by decide) rfl ?_
    refine zt_goto zy_178 (show q_ins q_k178 38 = some (.goto (-16), 22, 0) from rfl) ?_
    exact zt_wk (zt_cov_cons rfl (zt_cov_cons rfl (zt_cov_nil))) (ih _ _ _ h)
  · rw [if_neg hc] at h
    refine zt_iconst zy_178 (show q_ins q_k178 41 = some (.iconst 0, 0, 0) from rfl) ?_
    refine zt_istore_n zy_178 (show q_ins q_k178 42 = some (.istore_n 1, 0, 0) from rfl) (by decide) ?_
    exact zt_wk (zt_cov_cons rfl (zt_cov_cons rfl (zt_cov_nil))) (S_M_starts0_43  ha0 hn0 _ _ _ _ h)
theorem S_M_starts0_2 {X : q_X} {c0 : Nat} {n0 : Nat} (ha0 : zt_sh[c0]? = some (.inl (0, n0))) (hn0 : n0 ≤ 1000000) : ∀ (n : Nat) (v1 : Int) (σ : zt_S) (o : (Unit × zt_S)), F_M_starts0_2 c0 n0 n v1 σ = some o → zt_Ex X 1 178 2 [(0, .ref c0), (1, .int (Int32.ofInt v1))] [] (zt_M σ) (zo_V o) := by
  intro n
  induction n with
  | zero => intro v1 σ o  h; cases h
  | succ n ih =>
  intro v1 σ o  h
  rw [F_M_starts0_2] at h
  refine zt_iload_n zy_178 (show q_ins q_k178 2 = some (.iload_n 1, 0, 0) from rfl) (v := Int32.ofInt v1) rfl ?_
  refine zt_iconst zy_178 (show q_ins q_k178 3 = some (.iconst 4, 0, 0) from rfl) ?_
  obtain ⟨hg, h⟩ := zt_ckE h
  refine zt_icmp_ge zy_178 (show q_ins q_k178 4 = some (.if_icmp .ge 16, 20, 0) from rfl) (⟨hg, by decide⟩) (fun hc => ?_) (fun hc => ?_)
  · rw [if_pos hc] at h
    refine zt_aload_n zy_178 (show q_ins q_k178 7 = some (.aload_n 0, 0, 0) from rfl) (v := c0) rfl ?_
    refine zt_bipush zy_178 (show q_ins q_k178 8 = some (.bipush 16, 0, 0) from rfl) (by decide) ?_
    refine zt_iload_n zy_178 (show q_ins q_k178 10 = some (.iload_n 1, 0, 0) from rfl) (v := Int32.ofInt v1) rfl ?_
    refine zt_iadd zy_178 (show q_ins q_k178 11 = some (.iadd, 0, 0) from rfl) ?_
    refine zt_iconst zy_178 (show q_ins q_k178 12 = some (.iconst (-1), 0, 0) from rfl) ?_
    obtain ⟨hg, h⟩ := zt_ckE h
    obtain ⟨s1, hs1, h⟩ := zt_letE h
    refine zt_ast zy_178 (show q_ins q_k178 13 = some (.iastore, 0, 0) from rfl) ha0 hn0 hg ?_
    rw [← hs1]
    refine zt_iinc zy_178 (show q_ins q_k178 14 = some (.iinc 1 1, 0, 0) from rfl) (v := v1) (by decide) rfl ?_
    refine zt_goto zy_178 (show q_ins q_k178 17 = some (.goto (-15), 2, 0) from rfl) ?_
    exact zt_wk (zt_cov_cons rfl (zt_cov_cons rfl (zt_cov_nil))) (ih _ _ _ h)
  · rw [if_neg hc] at h
    refine zt_iconst zy_178 (show q_ins q_k178 20 = some (.iconst 0, 0, 0) from rfl) ?_
    refine zt_istore_n zy_178 (show q_ins q_k178 21 = some (.istore_n 1, 0, 0) from rfl) (by decide) ?_
    exact zt_wk (zt_cov_cons rfl (zt_cov_cons rfl (zt_cov_nil))) (S_M_starts0_22  ha0 hn0 _ _ _ _ h)
theorem S_M_starts0 {X : q_X} {c0 : Nat} {n0 : Nat} (ha0 : zt_sh[c0]? = some (.inl (0, n0))) (hn0 : n0 ≤ 1000000)  {σ : zt_S} {o : (Unit × zt_S)} (h : F_M_starts0 c0 n0  σ = some o) : zt_Ex X 1 178 0 (lv_args 0 [.ref c0]) [] (zt_M σ) (zo_V o) := by
  unfold F_M_starts0 at h
  refine zt_iconst zy_178 (show q_ins q_k178 0 = some (.iconst 0, 0, 0) from rfl) ?_
  refine zt_istore_n zy_178 (show q_ins q_k178 1 = some (.istore_n 1, 0, 0) from rfl) (by decide) ?_
  exact zt_wk (zt_cov_cons rfl (zt_cov_cons rfl (zt_cov_nil))) (S_M_starts0_2  ha0 hn0 _ _ _ _ h)
theorem S_M_begins_25 {X : q_X}   : ∀ (v1 : Int) (v2 : Int) (v3 : Int) (σ : zt_S) (o : (Unit × zt_S)), F_M_begins_25  v1 v2 v3 σ = some o → zt_Ex X 2 177 25 [(0, .ref 163), (1, .int (Int32.ofInt v1)), (2, .int (Int32.ofInt v2)), (3, .int (Int32.ofInt v3))] [] (zt_M σ) (zo_V o) := by
  intro v1 v2 v3 σ o  h
  unfold F_M_begins_25 at h
  refine zt_aload_n zy_177 (show q_ins q_k177 25 = some (.aload_n 0, 0, 0) from rfl) (v := 163) rfl ?_
  refine zt_getR zy_177 (show q_ins q_k177 26 = some (.getfield 17, 11, 2) from rfl) (r := 165) zk_163_2 ?_
  refine zt_iconst zy_177 (show q_ins q_k177 29 = some (.iconst 0, 0, 0) from rfl) ?_
  refine zt_iload_n zy_177 (show q_ins q_k177 30 = some (.iload_n 1, 0, 0) from rfl) (v := Int32.ofInt v1) rfl ?_
  obtain ⟨s2, hs2, h⟩ := zt_letE h
  refine zt_ast zy_177 (show q_ins q_k177 31 = some (.iastore, 0, 0) from rfl) za_165 (by decide) (by decide) ?_
  rw [← hs2]
  refine zt_aload_n zy_177 (show q_ins q_k177 32 = some (.aload_n 0, 0, 0) from rfl) (v := 163) rfl ?_
  refine zt_getR zy_177 (show q_ins q_k177 33 = some (.getfield 17, 11, 2) from rfl) (r := 165) zk_163_2 ?_
  refine zt_iconst zy_177 (show q_ins q_k177 36 = some (.iconst 1, 0, 0) from rfl) ?_
  refine zt_iload_n zy_177 (show q_ins q_k177 37 = some (.iload_n 2, 0, 0) from rfl) (v := Int32.ofInt v2) rfl ?_
  obtain ⟨s3, hs3, h⟩ := zt_letE h
  refine zt_ast zy_177 (show q_ins q_k177 38 = some (.iastore, 0, 0) from rfl) za_165 (by decide) (by decide) ?_
  rw [← hs3]
  refine zt_aload_n zy_177 (show q_ins q_k177 39 = some (.aload_n 0, 0, 0) from rfl) (v := 163) rfl ?_
  refine zt_getR zy_177 (show q_ins q_k177 40 = some (.getfield 17, 11, 2) from rfl) (r := 165) zk_163_2 ?_
  refine zt_iconst zy_177 (show q_ins q_k177 43 = some (.iconst 2, 0, 0) from rfl) ?_
  refine zt_iload_n zy_177 (show q_ins q_k177 44 = some (.iload_n 3, 0, 0) from rfl) (v := Int32.ofInt v3) rfl ?_
  obtain ⟨s4, hs4, h⟩ := zt_letE h
  refine zt_ast zy_177 (show q_ins q_k177 45 = some (.iastore, 0, 0) from rfl) za_165 (by decide) (by decide) ?_
  rw [← hs4]
  refine zt_aload_n zy_177 (show q_ins q_k177 46 = some (.aload_n 0, 0, 0) from rfl) (v := 163) rfl ?_
  refine zt_getR zy_177 (show q_ins q_k177 47 = some (.getfield 17, 11, 2) from rfl) (r := 165) zk_163_2 ?_
  refine zt_iconst zy_177 (show q_ins q_k177 50 = some (.iconst 3, 0, 0) from rfl) ?_
  refine zt_iconst zy_177 (show q_ins q_k177 51 = some (.iconst 1, 0, 0) from rfl) ?_
  obtain ⟨s5, hs5, h⟩ := zt_letE h
  refine zt_ast zy_177 (show q_ins q_k177 52 = some (.iastore, 0, 0) from rfl) za_165 (by decide) (by decide) ?_
  rw [← hs5]
  refine zt_aload_n zy_177 (show q_ins q_k177 53 = some (.aload_n 0, 0, 0) from rfl) (v := 163) rfl ?_
  refine zt_getR zy_177 (show q_ins q_k177 54 = some (.getfield 17, 11, 2) from rfl) (r := 165) zk_163_2 ?_
  refine zt_iconst zy_177 (show q_ins q_k177 57 = some (.iconst 4, 0, 0) from rfl) ?_
  refine zt_iconst zy_177 (show q_ins q_k177 58 = some (.iconst (-1), 0, 0) from rfl) ?_
  obtain ⟨s6, hs6, h⟩ := zt_letE h
  refine zt_ast zy_177 (show q_ins q_k177 59 = some (.iastore, 0, 0) from rfl) za_165 (by decide) (by decide) ?_
  rw [← hs6]
  refine zt_aload_n zy_177 (show q_ins q_k177 60 = some (.aload_n 0, 0, 0) from rfl) (v := 163) rfl ?_
  refine zt_getR zy_177 (show q_ins q_k177 61 = some (.getfield 17, 11, 2) from rfl) (r := 165) zk_163_2 ?_
  refine zt_iconst zy_177 (show q_ins q_k177 64 = some (.iconst 5, 0, 0) from rfl) ?_
  refine zt_bipush zy_177 (show q_ins q_k177 65 = some (.bipush 10, 0, 0) from rfl) (by decide) ?_
  obtain ⟨s7, hs7, h⟩ := zt_letE h
  refine zt_ast zy_177 (show q_ins q_k177 67 = some (.iastore, 0, 0) from rfl) za_165 (by decide) (by decide) ?_
  rw [← hs7]
  refine zt_aload_n zy_177 (show q_ins q_k177 68 = some (.aload_n 0, 0, 0) from rfl) (v := 163) rfl ?_
  refine zt_getR zy_177 (show q_ins q_k177 69 = some (.getfield 17, 11, 2) from rfl) (r := 165) zk_163_2 ?_
  refine zt_bipush zy_177 (show q_ins q_k177 72 = some (.bipush 6, 0, 0) from rfl) (by decide) ?_
  refine zt_iconst zy_177 (show q_ins q_k177 74 = some (.iconst 2, 0, 0) from rfl) ?_
  obtain ⟨s8, hs8, h⟩ := zt_letE h
  refine zt_ast zy_177 (show q_ins q_k177 75 = some (.iastore, 0, 0) from rfl) za_165 (by decide) (by decide) ?_
  rw [← hs8]
  refine zt_aload_n zy_177 (show q_ins q_k177 76 = some (.aload_n 0, 0, 0) from rfl) (v := 163) rfl ?_
  refine zt_getR zy_177 (show q_ins q_k177 77 = some (.getfield 17, 11, 2) from rfl) (r := 165) zk_163_2 ?_
  obtain ⟨a9, s10, hca9, h⟩ := zt_bdE h
  refine zt_callS (d := 1) zy_177 (show q_ins q_k177 80 = some (.invokestatic 90, 178, 1) from rfl) zy_178 (by decide) ⟨zq_lt (by decide), by decide⟩ rfl (by simp [Value.category]) (by simp [lg_sl, Value.category]) rfl (zt_dm (by decide) (S_M_starts0 za_165 (by decide) hca9)) ?_
  cases h
  exact zt_ret zy_177 (show q_ins q_k177 83 = some (.return_, 0, 0) from rfl)
theorem S_M_begins_3 {X : q_X}   : ∀ (n : Nat) (v1 : Int) (v2 : Int) (v3 : Int) (v4 : Int) (σ : zt_S) (o : (Unit × zt_S)), F_M_begins_3  n v1 v2 v3 v4 σ = some o → zt_Ex X 2 177 3 [(0, .ref 163), (1, .int (Int32.ofInt v1)), (2, .int (Int32.ofInt v2)), (3, .int (Int32.ofInt v3)), (4, .int (Int32.ofInt v4))] [] (zt_M σ) (zo_V o) := by
  intro n
  induction n with
  | zero => intro v1 v2 v3 v4 σ o  h; cases h
  | succ n ih =>
  intro v1 v2 v3 v4 σ o  h
  rw [F_M_begins_3] at h
  refine zt_iload zy_177 (show q_ins q_k177 3 = some (.iload 4, 0, 0) from rfl) (v := Int32.ofInt v4) rfl ?_
  refine zt_sipush zy_177 (show q_ins q_k177 5 = some (.sipush 274, 0, 0) from rfl) (by decide) ?_
  obtain ⟨hg, h⟩ := zt_ckE h
  refine zt_icmp_ge zy_177 (show q_ins q_k177 8 = some (.if_icmp .ge 17, 25, 0) from rfl) (⟨hg, by decide⟩) (fun hc => ?_) (fun hc => ?_)
  · rw [if_pos hc] at h
    refine zt_aload_n zy_177 (show q_ins q_k177 11 = some (.aload_n 0, 0, 0) from rfl) (v := 163) rfl ?_
    refine zt_getR zy_177 (show q_ins q_k177 12 = some (.getfield 17, 11, 2) from rfl) (r := 165) zk_163_2 ?_
    refine zt_iload zy_177 (show q_ins q_k177 15 = some (.iload 4, 0, 0) from rfl) (v := Int32.ofInt v4) rfl ?_
    refine zt_iconst zy_177 (show q_ins q_k177 17 = some (.iconst 0, 0, 0) from rfl) ?_
    obtain ⟨hg, h⟩ := zt_ckE h
    obtain ⟨s1, hs1, h⟩ := zt_letE h
    refine zt_ast zy_177 (show q_ins q_k177 18 = some (.iastore, 0, 0) from rfl) za_165 (by decide) hg ?_
    rw [← hs1]
    refine zt_iinc zy_177 (show q_ins q_k177 19 = some (.iinc 4 1, 0, 0) from rfl) (v := v4) (by decide) rfl ?_
    refine zt_goto zy_177 (show q_ins q_k177 22 = some (.goto (-19), 3, 0) from rfl) ?_
    exact zt_wk (zt_cov_cons rfl (zt_cov_cons rfl (zt_cov_cons rfl (zt_cov_cons rfl (zt_cov_cons rfl (zt_cov_nil)))))) (ih _ _ _ _ _ _ h)
  · rw [if_neg hc] at h
    exact zt_wk (zt_cov_cons rfl (zt_cov_cons rfl (zt_cov_cons rfl (zt_cov_cons rfl (zt_cov_nil))))) (S_M_begins_25  _ _ _ _ _ h)
theorem S_M_begins {X : q_X}   {v1 : Int} {v2 : Int} {v3 : Int} {σ : zt_S} {o : (Unit × zt_S)} (h : F_M_begins  v1 v2 v3 σ = some o) : zt_Ex X 2 177 0 (lv_args 0 [.ref 163, .int (Int32.ofInt v1), .int (Int32.ofInt v2), .int (Int32.ofInt v3)]) [] (zt_M σ) (zo_V o) := by
  unfold F_M_begins at h
  refine zt_iconst zy_177 (show q_ins q_k177 0 = some (.iconst 0, 0, 0) from rfl) ?_
  refine zt_istore zy_177 (show q_ins q_k177 1 = some (.istore 4, 0, 0) from rfl) (by decide) ?_
  exact zt_wk (zt_cov_cons rfl (zt_cov_cons rfl (zt_cov_cons rfl (zt_cov_cons rfl (zt_cov_cons rfl (zt_cov_nil)))))) (S_M_begins_3  _ _ _ _ _ _ _ h)
theorem S_M_piles_27 {X : q_X}   : ∀ (n : Nat) (v3 : Int) (v4 : Int) (σ : zt_S) (o : (Unit × zt_S)), F_M_piles_27  n v3 v4 σ = some o → zt_Ex X 0 180 27 [(0, .ref 163), (3, .int (Int32.ofInt v3)), (4, .int (Int32.ofInt v4))] [] (zt_M σ) (zo_V o) := by
  intro n
  induction n with
  | zero => intro v3 v4 σ o  h; cases h
  | succ n ih =>
  intro v3 v4 σ o  h
  rw [F_M_piles_27] at h
  refine zt_iload zy_180 (show q_ins q_k180 27 = some (.iload 4, 0, 0) from rfl) (v := Int32.ofInt v4) rfl ?_
  obtain ⟨hg, h⟩ := zt_ckE h
  refine zt_if_le zy_180 (show q_ins q_k180 29 = some (.ifCond .le 62, 91, 0) from rfl) (hg) (fun hc => ?_) (fun hc => ?_)
  · rw [if_pos hc] at h
    refine zt_iload_n zy_180 (show q_ins q_k180 32 = some (.iload_n 3, 0, 0) from rfl) (v := Int32.ofInt v3) rfl ?_
    refine zt_sipush zy_180 (show q_ins q_k180 33 = some (.sipush 1103, 0, 0) from rfl) (by decide) ?_
    refine zt_imul zy_180 (show q_ins q_k180 36 = some (.imul, 0, 0) from rfl) ?_
    refine zt_sipush zy_180 (show q_ins q_k180 37 = some (.sipush 12345, 0, 0) from rfl) (by decide) ?_
    refine zt_iadd zy_180 (show q_ins q_k180 40 = some (.iadd, 0, 0) from rfl) ?_
    refine zt_ldcI zy_180 (show q_ins q_k180 41 = some (.ldc 97, 0, 100003) from rfl) (n := (100003 : Int)) rfl (by decide) ?_
    obtain ⟨hg, h⟩ := zt_ckE h
    refine zt_irem zy_180 (show q_ins q_k180 43 = some (.irem, 0, 0) from rfl) hg (by decide) ?_
    refine zt_istore_n zy_180 (show q_ins q_k180 44 = some (.istore_n 3, 0, 0) from rfl) (by decide) ?_
    refine zt_iload_n zy_180 (show q_ins q_k180 45 = some (.iload_n 3, 0, 0) from rfl) (v := Int32.ofInt (((v3 * (1103 : Int)) + (12345 : Int)) % (100003 : Int))) rfl ?_
    refine zt_iload zy_180 (show q_ins q_k180 46 = some (.iload 4, 0, 0) from rfl) (v := Int32.ofInt v4) rfl ?_
    refine zt_iconst zy_180 (show q_ins q_k180 48 = some (.iconst 1, 0, 0) from rfl) ?_
    refine zt_iadd zy_180 (show q_ins q_k180 49 = some (.iadd, 0, 0) from rfl) ?_
    obtain ⟨hg, h⟩ := zt_ckE h
    refine zt_irem zy_180 (show q_ins q_k180 50 = some (.irem, 0, 0) from rfl) hg.1 hg.2 ?_
    refine zt_istore zy_180 (show q_ins q_k180 51 = some (.istore 5, 0, 0) from rfl) (by decide) ?_
    refine zt_aload_n zy_180 (show q_ins q_k180 53 = some (.aload_n 0, 0, 0) from rfl) (v := 163) rfl ?_
    refine zt_getR zy_180 (show q_ins q_k180 54 = some (.getfield 26, 11, 7) from rfl) (r := 168) zk_163_7 ?_
    refine zt_iload zy_180 (show q_ins q_k180 57 = some (.iload 4, 0, 0) from rfl) (v := Int32.ofInt v4) rfl ?_
    obtain ⟨hg, h⟩ := zt_ckE h
    refine zt_ald zy_180 (show q_ins q_k180 59 = some (.iaload, 0, 0) from rfl) za_168 (by decide) hg ?_
    refine zt_istore zy_180 (show q_ins q_k180 60 = some (.istore 6, 0, 0) from rfl) (by decide) ?_
    refine zt_aload_n zy_180 (show q_ins q_k180 62 = some (.aload_n 0, 0, 0) from rfl) (v := 163) rfl ?_
    refine zt_getR zy_180 (show q_ins q_k180 63 = some (.getfield 26, 11, 7) from rfl) (r := 168) zk_163_7 ?_
    refine zt_iload zy_180 (show q_ins q_k180 66 = some (.iload 4, 0, 0) from rfl) (v := Int32.ofInt v4) rfl ?_
    refine zt_aload_n zy_180 (show q_ins q_k180 68 = some (.aload_n 0, 0, 0) from rfl) (v := 163) rfl ?_
    refine zt_getR zy_180 (show q_ins q_k180 69 = some (.getfield 26, 11, 7) from rfl) (r := 168) zk_163_7 ?_
    refine zt_iload zy_180 (show q_ins q_k180 72 = some (.iload 5, 0, 0) from rfl) (v := Int32.ofInt ((((v3 * (1103 : Int)) + (12345 : Int)) % (100003 : Int)) % (v4 + (1 : Int)))) rfl ?_
    obtain ⟨hg, h⟩ := zt_ckE h
    refine zt_ald zy_180 (show q_ins q_k180 74 = some (.iaload, 0, 0) from rfl) za_168 (by decide) hg ?_
    obtain ⟨hg, h⟩ := zt_ckE h
    obtain ⟨s2, hs2, h⟩ := zt_letE h
    refine zt_ast zy_180 (show q_ins q_k180 75 = some (.iastore, 0, 0) from rfl) za_168 (by decide) hg ?_
    rw [← hs2]
    refine zt_aload_n zy_180 (show q_ins q_k180 76 = some (.aload_n 0, 0, 0) from rfl) (v := 163) rfl ?_
    refine zt_getR zy_180 (show q_ins q_k180 77 = some (.getfield 26, 11, 7) from rfl) (r := 168) zk_163_7 ?_
    refine zt_iload zy_180 (show q_ins q_k180 80 = some (.iload 5, 0, 0) from rfl) (v := Int32.ofInt ((((v3 * (1103 : Int)) + (12345 : Int)) % (100003 : Int)) % (v4 + (1 : Int)))) rfl ?_
    refine zt_iload zy_180 (show q_ins q_k180 82 = some (.iload 6, 0, 0) from rfl) (v := Int32.ofInt (σ.1 168 v4)) rfl ?_
    obtain ⟨hg, h⟩ := zt_ckE h
    obtain ⟨s3, hs3, h⟩ := zt_letE h
    refine zt_ast zy_180 (show q_ins q_k180 84 = some (.iastore, 0, 0) from rfl) za_168 (by decide) hg ?_
    rw [← hs3]
    refine zt_iinc zy_180 (show q_ins q_k180 85 = some (.iinc 4 (-1), 0, 0) from rfl) (v := v4) (by decide) rfl ?_
    refine zt_goto zy_180 (show q_ins q_k180 88 = some (.goto (-61), 27, 0) from rfl) ?_
    exact zt_wk (zt_cov_cons rfl (zt_cov_cons rfl (zt_cov_cons rfl (zt_cov_nil)))) (ih _ _ _ _ h)
  · rw [if_neg hc] at h
    cases h
    exact zt_ret zy_180 (show q_ins q_k180 91 = some (.return_, 0, 0) from rfl)
theorem S_M_piles_2 {X : q_X}   : ∀ (n : Nat) (v1 : Int) (v2 : Int) (v3 : Int) (σ : zt_S) (o : (Unit × zt_S)), F_M_piles_2  n v1 v2 v3 σ = some o → zt_Ex X 0 180 2 [(0, .ref 163), (1, .int (Int32.ofInt v1)), (2, .int (Int32.ofInt v2)), (3, .int (Int32.ofInt v3))] [] (zt_M σ) (zo_V o) := by
  intro n
  induction n with
  | zero => intro v1 v2 v3 σ o  h; cases h
  | succ n ih =>
  intro v1 v2 v3 σ o  h
  rw [F_M_piles_2] at h
  refine zt_iload_n zy_180 (show q_ins q_k180 2 = some (.iload_n 3, 0, 0) from rfl) (v := Int32.ofInt v3) rfl ?_
  refine zt_iload_n zy_180 (show q_ins q_k180 3 = some (.iload_n 1, 0, 0) from rfl) (v := Int32.ofInt v1) rfl ?_
  obtain ⟨hg, h⟩ := zt_ckE h
  refine zt_icmp_ge zy_180 (show q_ins q_k180 4 = some (.if_icmp .ge 16, 20, 0) from rfl) (⟨hg.1, hg.2⟩) (fun hc => ?_) (fun hc => ?_)
  · rw [if_pos hc] at h
    refine zt_aload_n zy_180 (show q_ins q_k180 7 = some (.aload_n 0, 0, 0) from rfl) (v := 163) rfl ?_
    refine zt_getR zy_180 (show q_ins q_k180 8 = some (.getfield 26, 11, 7) from rfl) (r := 168) zk_163_7 ?_
    refine zt_iload_n zy_180 (show q_ins q_k180 11 = some (.iload_n 3, 0, 0) from rfl) (v := Int32.ofInt v3) rfl ?_
    refine zt_iload_n zy_180 (show q_ins q_k180 12 = some (.iload_n 3, 0, 0) from rfl) (v := Int32.ofInt v3) rfl ?_
    obtain ⟨hg, h⟩ := zt_ckE h
    obtain ⟨s1, hs1, h⟩ := zt_letE h
    refine zt_ast zy_180 (show q_ins q_k180 13 = some (.iastore, 0, 0) from rfl) za_168 (by decide) hg ?_
    rw [← hs1]
    refine zt_iinc zy_180 (show q_ins q_k180 14 = some (.iinc 3 1, 0, 0) from rfl) (v := v3) (by decide) rfl ?_
    refine zt_goto zy_180 (show q_ins q_k180 17 = some (.goto (-15), 2, 0) from rfl) ?_
    exact zt_wk (zt_cov_cons rfl (zt_cov_cons rfl (zt_cov_cons rfl (zt_cov_cons rfl (zt_cov_nil))))) (ih _ _ _ _ _ h)
  · rw [if_neg hc] at h
    refine zt_iload_n zy_180 (show q_ins q_k180 20 = some (.iload_n 2, 0, 0) from rfl) (v := Int32.ofInt v2) rfl ?_
    refine zt_istore_n zy_180 (show q_ins q_k180 21 = some (.istore_n 3, 0, 0) from rfl) (by decide) ?_
    refine zt_iload_n zy_180 (show q_ins q_k180 22 = some (.iload_n 1, 0, 0) from rfl) (v := Int32.ofInt v1) rfl ?_
    refine zt_iconst zy_180 (show q_ins q_k180 23 = some (.iconst 1, 0, 0) from rfl) ?_
    refine zt_isub zy_180 (show q_ins q_k180 24 = some (.isub, 0, 0) from rfl) ?_
    refine zt_istore zy_180 (show q_ins q_k180 25 = some (.istore 4, 0, 0) from rfl) (by decide) ?_
    exact zt_wk (zt_cov_cons rfl (zt_cov_cons rfl (zt_cov_cons rfl (zt_cov_nil)))) (S_M_piles_27  _ _ _ _ _ h)
theorem S_M_piles {X : q_X}   {v1 : Int} {v2 : Int} {σ : zt_S} {o : (Unit × zt_S)} (h : F_M_piles  v1 v2 σ = some o) : zt_Ex X 0 180 0 (lv_args 0 [.ref 163, .int (Int32.ofInt v1), .int (Int32.ofInt v2)]) [] (zt_M σ) (zo_V o) := by
  unfold F_M_piles at h
  refine zt_iconst zy_180 (show q_ins q_k180 0 = some (.iconst 0, 0, 0) from rfl) ?_
  refine zt_istore_n zy_180 (show q_ins q_k180 1 = some (.istore_n 3, 0, 0) from rfl) (by decide) ?_
  exact zt_wk (zt_cov_cons rfl (zt_cov_cons rfl (zt_cov_cons rfl (zt_cov_cons rfl (zt_cov_nil))))) (S_M_piles_2  _ _ _ _ _ _ h)
theorem S_M_deals_12 {X : q_X} {c1 : Nat} {n1 : Nat} (ha1 : zt_sh[c1]? = some (.inl (0, n1))) (hn1 : n1 ≤ 1000000) : ∀ (n : Nat) (v3 : Int) (σ : zt_S) (o : (Unit × zt_S)), F_M_deals_12 c1 n1 n v3 σ = some o → zt_Ex X 1 181 12 [(0, .ref 163), (1, .ref c1), (3, .int (Int32.ofInt v3))] [] (zt_M σ) (zo_V o) := by
  intro n
  induction n with
  | zero => intro v3 σ o  h; cases h
  | succ n ih =>
  intro v3 σ o  h
  rw [F_M_deals_12] at h
  refine zt_iload_n zy_181 (show q_ins q_k181 12 = some (.iload_n 3, 0, 0) from rfl) (v := Int32.ofInt v3) rfl ?_
  refine zt_aload_n zy_181 (show q_ins q_k181 13 = some (.aload_n 1, 0, 0) from rfl) (v := c1) rfl ?_
  refine zt_iconst zy_181 (show q_ins q_k181 14 = some (.iconst 1, 0, 0) from rfl) ?_
  obtain ⟨hg, h⟩ := zt_ckE h
  refine zt_ald zy_181 (show q_ins q_k181 15 = some (.iaload, 0, 0) from rfl) ha1 hn1 hg ?_
  refine zt_aload_n zy_181 (show q_ins q_k181 16 = some (.aload_n 1, 0, 0) from rfl) (v := c1) rfl ?_
  refine zt_iconst zy_181 (show q_ins q_k181 17 = some (.iconst 2, 0, 0) from rfl) ?_
  obtain ⟨hg, h⟩ := zt_ckE h
  refine zt_ald zy_181 (show q_ins q_k181 18 = some (.iaload, 0, 0) from rfl) ha1 hn1 hg ?_
  refine zt_imul zy_181 (show q_ins q_k181 19 = some (.imul, 0, 0) from rfl) ?_
  obtain ⟨hg, h⟩ := zt_ckE h
  refine zt_icmp_ge zy_181 (show q_ins q_k181 20 = some (.if_icmp .ge 25, 45, 0) from rfl) (⟨hg.1, hg.2⟩) (fun hc => ?_) (fun hc => ?_)
  · rw [if_pos hc] at h
    refine zt_aload_n zy_181 (show q_ins q_k181 23 = some (.aload_n 1, 0, 0) from rfl) (v := c1) rfl ?_
    refine zt_bipush zy_181 (show q_ins q_k181 24 = some (.bipush 40, 0, 0) from rfl) (by decide) ?_
    refine zt_aload_n zy_181 (show q_ins q_k181 26 = some (.aload_n 0, 0, 0) from rfl) (v := 163) rfl ?_
    refine zt_getR zy_181 (show q_ins q_k181 27 = some (.getfield 26, 11, 7) from rfl) (r := 168) zk_163_7 ?_
    refine zt_iload_n zy_181 (show q_ins q_k181 30 = some (.iload_n 3, 0, 0) from rfl) (v := Int32.ofInt v3) rfl ?_
    obtain ⟨hg, h⟩ := zt_ckE h
    refine zt_ald zy_181 (show q_ins q_k181 31 = some (.iaload, 0, 0) from rfl) za_168 (by decide) hg ?_
    refine zt_iadd zy_181 (show q_ins q_k181 32 = some (.iadd, 0, 0) from rfl) ?_
    refine zt_iload_n zy_181 (show q_ins q_k181 33 = some (.iload_n 3, 0, 0) from rfl) (v := Int32.ofInt v3) rfl ?_
    refine zt_aload_n zy_181 (show q_ins q_k181 34 = some (.aload_n 1, 0, 0) from rfl) (v := c1) rfl ?_
    refine zt_iconst zy_181 (show q_ins q_k181 35 = some (.iconst 1, 0, 0) from rfl) ?_
    obtain ⟨hg, h⟩ := zt_ckE h
    refine zt_ald zy_181 (show q_ins q_k181 36 = some (.iaload, 0, 0) from rfl) ha1 hn1 hg ?_
    obtain ⟨hg, h⟩ := zt_ckE h
    refine zt_irem zy_181 (show q_ins q_k181 37 = some (.irem, 0, 0) from rfl) hg.1 hg.2 ?_
    obtain ⟨hg, h⟩ := zt_ckE h
    obtain ⟨s3, hs3, h⟩ := zt_letE h
    refine zt_ast zy_181 (show q_ins q_k181 38 = some (.iastore, 0, 0) from rfl) ha1 hn1 hg ?_
    rw [← hs3]
    refine zt_iinc zy_181 (show q_ins q_k181 39 = some (.iinc 3 1, 0, 0) from rfl) (v := v3) (by decide) rfl ?_
    refine zt_goto zy_181 (show q_ins q_k181 42 = some (.goto (-30), 12, 0) from rfl) ?_
    exact zt_wk (zt_cov_cons rfl (zt_cov_cons rfl (zt_cov_cons rfl (zt_cov_nil)))) (ih _ _ _ h)
  · rw [if_neg hc] at h
    cases h
    exact zt_ret zy_181 (show q_ins q_k181 45 = some (.return_, 0, 0) from rfl)
theorem S_M_deals {X : q_X} {c1 : Nat} {n1 : Nat} (ha1 : zt_sh[c1]? = some (.inl (0, n1))) (hn1 : n1 ≤ 1000000) {v2 : Int} {σ : zt_S} {o : (Unit × zt_S)} (h : F_M_deals c1 n1 v2 σ = some o) : zt_Ex X 1 181 0 (lv_args 0 [.ref 163, .ref c1, .int (Int32.ofInt v2)]) [] (zt_M σ) (zo_V o) := by
  unfold F_M_deals at h
  refine zt_aload_n zy_181 (show q_ins q_k181 0 = some (.aload_n 0, 0, 0) from rfl) (v := 163) rfl ?_
  refine zt_iconst zy_181 (show q_ins q_k181 1 = some (.iconst 4, 0, 0) from rfl) ?_
  refine zt_aload_n zy_181 (show q_ins q_k181 2 = some (.aload_n 1, 0, 0) from rfl) (v := c1) rfl ?_
  refine zt_iconst zy_181 (show q_ins q_k181 3 = some (.iconst 0, 0, 0) from rfl) ?_
  obtain ⟨hg, h⟩ := zt_ckE h
  refine zt_ald zy_181 (show q_ins q_k181 4 = some (.iaload, 0, 0) from rfl) ha1 hn1 hg ?_
  refine zt_imul zy_181 (show q_ins q_k181 5 = some (.imul, 0, 0) from rfl) ?_
  refine zt_iload_n zy_181 (show q_ins q_k181 6 = some (.iload_n 2, 0, 0) from rfl) (v := Int32.ofInt v2) rfl ?_
  obtain ⟨a1, s2, hca1, h⟩ := zt_bdE h
  refine zt_callV (d := 0) zy_181 (show q_ins q_k181 7 = some (.invokevirtual 98, 180, 2) from rfl) zy_180 (by decide) ⟨zq_lt (by decide), by decide⟩ rfl (by simp [Value.category]) (by simp [lg_sl, Value.category]) (zt_rcv zc_163) (zt_dm (by decide) (S_M_piles hca1)) ?_
  refine zt_iconst zy_181 (show q_ins q_k181 10 = some (.iconst 0, 0, 0) from rfl) ?_
  refine zt_istore_n zy_181 (show q_ins q_k181 11 = some (.istore_n 3, 0, 0) from rfl) (by decide) ?_
  exact zt_wk (zt_cov_cons rfl (zt_cov_cons rfl (zt_cov_cons rfl (zt_cov_nil)))) (S_M_deals_12  ha1 hn1 _ _ _ _ h)
theorem S_M_lays_3 {X : q_X}   : ∀ (n : Nat) (v1 : Int) (v2 : Int) (σ : zt_S) (o : (Unit × zt_S)), F_M_lays_3  n v1 v2 σ = some o → zt_Ex X 0 182 3 [(0, .ref 163), (1, .int (Int32.ofInt v1)), (2, .int (Int32.ofInt v2))] [] (zt_M σ) (zo_V o) := by
  intro n
  induction n with
  | zero => intro v1 v2 σ o  h; cases h
  | succ n ih =>
  intro v1 v2 σ o  h
  rw [F_M_lays_3] at h
  refine zt_iload_n zy_182 (show q_ins q_k182 3 = some (.iload_n 2, 0, 0) from rfl) (v := Int32.ofInt v2) rfl ?_
  obtain ⟨hg, h⟩ := zt_ckE h
  refine zt_if_lt zy_182 (show q_ins q_k182 4 = some (.ifCond .lt 35, 39, 0) from rfl) (hg) (fun hc => ?_) (fun hc => ?_)
  · rw [if_pos hc] at h
    cases h
    exact zt_ret zy_182 (show q_ins q_k182 39 = some (.return_, 0, 0) from rfl)
  · rw [if_neg hc] at h
    refine zt_aload_n zy_182 (show q_ins q_k182 7 = some (.aload_n 0, 0, 0) from rfl) (v := 163) rfl ?_
    refine zt_getR zy_182 (show q_ins q_k182 8 = some (.getfield 29, 11, 8) from rfl) (r := 169) zk_163_8 ?_
    refine zt_aload_n zy_182 (show q_ins q_k182 11 = some (.aload_n 0, 0, 0) from rfl) (v := 163) rfl ?_
    refine zt_getI zy_182 (show q_ins q_k182 12 = some (.getfield 102, 11, 9) from rfl) (j := 9) zk_163_9 rfl ?_
    refine zt_iload_n zy_182 (show q_ins q_k182 15 = some (.iload_n 1, 0, 0) from rfl) (v := Int32.ofInt v1) rfl ?_
    refine zt_iload_n zy_182 (show q_ins q_k182 16 = some (.iload_n 2, 0, 0) from rfl) (v := Int32.ofInt v2) rfl ?_
    refine zt_ishr zy_182 (show q_ins q_k182 17 = some (.ishr, 0, 0) from rfl) ?_
    refine zt_sipush zy_182 (show q_ins q_k182 18 = some (.sipush 255, 0, 0) from rfl) (by decide) ?_
    refine zt_iand zy_182 (show q_ins q_k182 21 = some (.iand, 0, 0) from rfl) ?_
    obtain ⟨hg, h⟩ := zt_ckE h
    obtain ⟨s1, hs1, h⟩ := zt_letE h
    refine zt_ast zy_182 (show q_ins q_k182 22 = some (.iastore, 0, 0) from rfl) za_169 (by decide) hg ?_
    rw [← hs1]
    refine zt_aload_n zy_182 (show q_ins q_k182 23 = some (.aload_n 0, 0, 0) from rfl) (v := 163) rfl ?_
    refine zt_dup zy_182 (show q_ins q_k182 24 = some (.dup, 0, 0) from rfl) rfl ?_
    refine zt_getI zy_182 (show q_ins q_k182 25 = some (.getfield 102, 11, 9) from rfl) (j := 9) zk_163_9 rfl ?_
    refine zt_iconst zy_182 (show q_ins q_k182 28 = some (.iconst 1, 0, 0) from rfl) ?_
    refine zt_iadd zy_182 (show q_ins q_k182 29 = some (.iadd, 0, 0) from rfl) ?_
    obtain ⟨s2, hs2, h⟩ := zt_letE h
    refine zt_putI zy_182 (show q_ins q_k182 30 = some (.putfield 102, 11, 9) from rfl) (j := 9) zk_163_9 rfl rfl rfl ?_
    rw [← hs2]
    refine zt_iinc zy_182 (show q_ins q_k182 33 = some (.iinc 2 (-8), 0, 0) from rfl) (v := v2) (by decide) rfl ?_
    refine zt_goto zy_182 (show q_ins q_k182 36 = some (.goto (-33), 3, 0) from rfl) ?_
    exact zt_wk (zt_cov_cons rfl (zt_cov_cons rfl (zt_cov_cons rfl (zt_cov_nil)))) (ih _ _ _ _ h)
theorem S_M_lays {X : q_X}   {v1 : Int} {σ : zt_S} {o : (Unit × zt_S)} (h : F_M_lays  v1 σ = some o) : zt_Ex X 0 182 0 (lv_args 0 [.ref 163, .int (Int32.ofInt v1)]) [] (zt_M σ) (zo_V o) := by
  unfold F_M_lays at h
  refine zt_bipush zy_182 (show q_ins q_k182 0 = some (.bipush 24, 0, 0) from rfl) (by decide) ?_
  refine zt_istore_n zy_182 (show q_ins q_k182 2 = some (.istore_n 2, 0, 0) from rfl) (by decide) ?_
  exact zt_wk (zt_cov_cons rfl (zt_cov_cons rfl (zt_cov_cons rfl (zt_cov_nil)))) (S_M_lays_3  _ _ _ _ _ h)
theorem S_M_feed {X : q_X}   {v1 : Int} {v2 : Int} {v3 : Int} {v4 : Int} {v5 : Int} {σ : zt_S} {o : (Int × zt_S)} (h : F_M_feed  v1 v2 v3 v4 v5 σ = some o) : zt_Ex X 1 183 0 (lv_args 0 [.ref 163, .int (Int32.ofInt v1), .int (Int32.ofInt v2), .int (Int32.ofInt v3), .int (Int32.ofInt v4), .int (Int32.ofInt v5)]) [] (zt_M σ) (zo_I o) := by
  unfold F_M_feed at h
  refine zt_aload_n zy_183 (show q_ins q_k183 0 = some (.aload_n 0, 0, 0) from rfl) (v := 163) rfl ?_
  refine zt_iconst zy_183 (show q_ins q_k183 1 = some (.iconst 0, 0, 0) from rfl) ?_
  obtain ⟨s1, hs1, h⟩ := zt_letE h
  refine zt_putI zy_183 (show q_ins q_k183 2 = some (.putfield 1, 11, 0) from rfl) (j := 0) zk_163_0 rfl rfl rfl ?_
  rw [← hs1]
  refine zt_aload_n zy_183 (show q_ins q_k183 5 = some (.aload_n 0, 0, 0) from rfl) (v := 163) rfl ?_
  refine zt_getI zy_183 (show q_ins q_k183 6 = some (.getfield 102, 11, 9) from rfl) (j := 9) zk_163_9 rfl ?_
  refine zt_bipush zy_183 (show q_ins q_k183 9 = some (.bipush 20, 0, 0) from rfl) (by decide) ?_
  refine zt_iadd zy_183 (show q_ins q_k183 11 = some (.iadd, 0, 0) from rfl) ?_
  refine zt_sipush zy_183 (show q_ins q_k183 12 = some (.sipush 500, 0, 0) from rfl) (by decide) ?_
  obtain ⟨hg, h⟩ := zt_ckE h
  refine zt_icmp_le zy_183 (show q_ins q_k183 15 = some (.if_icmp .le 5, 20, 0) from rfl) (⟨hg, by decide⟩) (fun hc => ?_) (fun hc => ?_)
  · rw [if_pos hc] at h
    refine zt_iconst zy_183 (show q_ins q_k183 18 = some (.iconst (-1), 0, 0) from rfl) ?_
    cases h
    exact zt_iret zy_183 (show q_ins q_k183 19 = some (.ireturn, 0, 0) from rfl)
  · rw [if_neg hc] at h
    refine zt_aload_n zy_183 (show q_ins q_k183 20 = some (.aload_n 0, 0, 0) from rfl) (v := 163) rfl ?_
    refine zt_iload_n zy_183 (show q_ins q_k183 21 = some (.iload_n 1, 0, 0) from rfl) (v := Int32.ofInt v1) rfl ?_
    obtain ⟨a2, s3, hca2, h⟩ := zt_bdE h
    refine zt_callV (d := 0) zy_183 (show q_ins q_k183 22 = some (.invokevirtual 105, 182, 1) from rfl) zy_182 (by decide) ⟨zq_lt (by decide), by decide⟩ rfl (by simp [Value.category]) (by simp [lg_sl, Value.category]) (zt_rcv zc_163) (zt_dm (by decide) (S_M_lays hca2)) ?_
    refine zt_aload_n zy_183 (show q_ins q_k183 25 = some (.aload_n 0, 0, 0) from rfl) (v := 163) rfl ?_
    refine zt_iload_n zy_183 (show q_ins q_k183 26 = some (.iload_n 2, 0, 0) from rfl) (v := Int32.ofInt v2) rfl ?_
    obtain ⟨a4, s5, hca4, h⟩ := zt_bdE h
    refine zt_callV (d := 0) zy_183 (show q_ins q_k183 27 = some (.invokevirtual 105, 182, 1) from rfl) zy_182 (by decide) ⟨zq_lt (by decide), by decide⟩ rfl (by simp [Value.category]) (by simp [lg_sl, Value.category]) (zt_rcv zc_163) (zt_dm (by decide) (S_M_lays hca4)) ?_
    refine zt_aload_n zy_183 (show q_ins q_k183 30 = some (.aload_n 0, 0, 0) from rfl) (v := 163) rfl ?_
    refine zt_iload_n zy_183 (show q_ins q_k183 31 = some (.iload_n 3, 0, 0) from rfl) (v := Int32.ofInt v3) rfl ?_
    obtain ⟨a6, s7, hca6, h⟩ := zt_bdE h
    refine zt_callV (d := 0) zy_183 (show q_ins q_k183 32 = some (.invokevirtual 105, 182, 1) from rfl) zy_182 (by decide) ⟨zq_lt (by decide), by decide⟩ rfl (by simp [Value.category]) (by simp [lg_sl, Value.category]) (zt_rcv zc_163) (zt_dm (by decide) (S_M_lays hca6)) ?_
    refine zt_aload_n zy_183 (show q_ins q_k183 35 = some (.aload_n 0, 0, 0) from rfl) (v := 163) rfl ?_
    refine zt_iload zy_183 (show q_ins q_k183 36 = some (.iload 4, 0, 0) from rfl) (v := Int32.ofInt v4) rfl ?_
    obtain ⟨a8, s9, hca8, h⟩ := zt_bdE h
    refine zt_callV (d := 0) zy_183 (show q_ins q_k183 38 = some (.invokevirtual 105, 182, 1) from rfl) zy_182 (by decide) ⟨zq_lt (by decide), by decide⟩ rfl (by simp [Value.category]) (by simp [lg_sl, Value.category]) (zt_rcv zc_163) (zt_dm (by decide) (S_M_lays hca8)) ?_
    refine zt_aload_n zy_183 (show q_ins q_k183 41 = some (.aload_n 0, 0, 0) from rfl) (v := 163) rfl ?_
    refine zt_iload zy_183 (show q_ins q_k183 42 = some (.iload 5, 0, 0) from rfl) (v := Int32.ofInt v5) rfl ?_
    obtain ⟨a10, s11, hca10, h⟩ := zt_bdE h
    refine zt_callV (d := 0) zy_183 (show q_ins q_k183 44 = some (.invokevirtual 105, 182, 1) from rfl) zy_182 (by decide) ⟨zq_lt (by decide), by decide⟩ rfl (by simp [Value.category]) (by simp [lg_sl, Value.category]) (zt_rcv zc_163) (zt_dm (by decide) (S_M_lays hca10)) ?_
    refine zt_aload_n zy_183 (show q_ins q_k183 47 = some (.aload_n 0, 0, 0) from rfl) (v := 163) rfl ?_
    refine zt_getI zy_183 (show q_ins q_k183 48 = some (.getfield 102, 11, 9) from rfl) (j := 9) zk_163_9 rfl ?_
    cases h
    exact zt_iret zy_183 (show q_ins q_k183 51 = some (.ireturn, 0, 0) from rfl)
theorem S_M_errorPosition {X : q_X}    {σ : zt_S} {o : (Int × zt_S)} (h : F_M_errorPosition   σ = some o) : zt_Ex X 0 184 0 (lv_args 0 [.ref 163]) [] (zt_M σ) (zo_I o) := by
  unfold F_M_errorPosition at h
  refine zt_aload_n zy_184 (show q_ins q_k184 0 = some (.aload_n 0, 0, 0) from rfl) (v := 163) rfl ?_
  refine zt_iconst zy_184 (show q_ins q_k184 1 = some (.iconst 0, 0, 0) from rfl) ?_
  obtain ⟨s1, hs1, h⟩ := zt_letE h
  refine zt_putI zy_184 (show q_ins q_k184 2 = some (.putfield 1, 11, 0) from rfl) (j := 0) zk_163_0 rfl rfl rfl ?_
  rw [← hs1]
  refine zt_aload_n zy_184 (show q_ins q_k184 5 = some (.aload_n 0, 0, 0) from rfl) (v := 163) rfl ?_
  refine zt_getI zy_184 (show q_ins q_k184 6 = some (.getfield 32, 11, 17) from rfl) (j := 17) zk_163_17 rfl ?_
  cases h
  exact zt_iret zy_184 (show q_ins q_k184 9 = some (.ireturn, 0, 0) from rfl)
theorem S_M_byteAt_18 {X : q_X}   : ∀ (x0 : Int) (σ : zt_S) (o : (Int × zt_S)), F_M_byteAt_18  x0 σ = some o → zt_Ex X 0 185 18 [] [.int (Int32.ofInt x0)] (zt_M σ) (zo_I o) := by
  intro x0 σ o  h
  unfold F_M_byteAt_18 at h
  cases h
  exact zt_iret zy_185 (show q_ins q_k185 18 = some (.ireturn, 0, 0) from rfl)
theorem S_M_byteAt {X : q_X}   {v1 : Int} {σ : zt_S} {o : (Int × zt_S)} (h : F_M_byteAt  v1 σ = some o) : zt_Ex X 0 185 0 (lv_args 0 [.ref 163, .int (Int32.ofInt v1)]) [] (zt_M σ) (zo_I o) := by
  unfold F_M_byteAt at h
  refine zt_iload_n zy_185 (show q_ins q_k185 0 = some (.iload_n 1, 0, 0) from rfl) (v := Int32.ofInt v1) rfl ?_
  refine zt_aload_n zy_185 (show q_ins q_k185 1 = some (.aload_n 0, 0, 0) from rfl) (v := 163) rfl ?_
  refine zt_getI zy_185 (show q_ins q_k185 2 = some (.getfield 109, 11, 10) from rfl) (j := 10) zk_163_10 rfl ?_
  obtain ⟨hg, h⟩ := zt_ckE h
  refine zt_icmp_ge zy_185 (show q_ins q_k185 5 = some (.if_icmp .ge 12, 17, 0) from rfl) (⟨hg.1, hg.2⟩) (fun hc => ?_) (fun hc => ?_)
  · rw [if_pos hc] at h
    refine zt_aload_n zy_185 (show q_ins q_k185 8 = some (.aload_n 0, 0, 0) from rfl) (v := 163) rfl ?_
    refine zt_getR zy_185 (show q_ins q_k185 9 = some (.getfield 29, 11, 8) from rfl) (r := 169) zk_163_8 ?_
    refine zt_iload_n zy_185 (show q_ins q_k185 12 = some (.iload_n 1, 0, 0) from rfl) (v := Int32.ofInt v1) rfl ?_
    obtain ⟨hg, h⟩ := zt_ckE h
    refine zt_ald zy_185 (show q_ins q_k185 13 = some (.iaload, 0, 0) from rfl) za_169 (by decide) hg ?_
    refine zt_goto zy_185 (show q_ins q_k185 14 = some (.goto 4, 18, 0) from rfl) ?_
    exact zt_wk (zt_cov_nil) (S_M_byteAt_18  _ _ _ h)
  · rw [if_neg hc] at h
    refine zt_iconst zy_185 (show q_ins q_k185 17 = some (.iconst (-1), 0, 0) from rfl) ?_
    exact zt_wk (zt_cov_nil) (S_M_byteAt_18  _ _ _ h)
theorem S_M_isLetter_17 {X : q_X}   : ∀ (x0 : Int) (σ : zt_S) (o : (Int × zt_S)), F_M_isLetter_17  x0 σ = some o → zt_Ex X 0 186 17 [] [.int (Int32.ofInt x0)] (zt_M σ) (zo_I o) := by
  intro x0 σ o  h
  unfold F_M_isLetter_17 at h
  obtain ⟨hg, h⟩ := zt_ckE h
  cases h
  exact zt_zret zy_186 (show q_ins q_k186 17 = some (.ireturn, 0, 0) from rfl) hg
theorem S_M_isLetter_16 {X : q_X}   : ∀  (σ : zt_S) (o : (Int × zt_S)), F_M_isLetter_16   σ = some o → zt_Ex X 0 186 16 [] [] (zt_M σ) (zo_I o) := by
  intro  σ o  h
  unfold F_M_isLetter_16 at h
  refine zt_iconst zy_186 (show q_ins q_k186 16 = some (.iconst 0, 0, 0) from rfl) ?_
  exact zt_wk (zt_cov_nil) (S_M_isLetter_17  _ _ _ h)
theorem S_M_isLetter {X : q_X}   {v0 : Int} {σ : zt_S} {o : (Int × zt_S)} (h : F_M_isLetter  v0 σ = some o) : zt_Ex X 0 186 0 (lv_args 0 [.int (Int32.ofInt v0)]) [] (zt_M σ) (zo_I o) := by
  unfold F_M_isLetter at h
  refine zt_iload_n zy_186 (show q_ins q_k186 0 = some (.iload_n 0, 0, 0) from rfl) (v := Int32.ofInt v0) rfl ?_
  refine zt_bipush zy_186 (show q_ins q_k186 1 = some (.bipush 97, 0, 0) from rfl) (by decide) ?_
  obtain ⟨hg, h⟩ := zt_ckE h
  refine zt_icmp_lt zy_186 (show q_ins q_k186 3 = some (.if_icmp .lt 13, 16, 0) from rfl) (⟨hg, by decide⟩) (fun hc => ?_) (fun hc => ?_)
  · rw [if_pos hc] at h
    exact zt_wk (zt_cov_nil) (S_M_isLetter_16  _ _ h)
  · rw [if_neg hc] at h
    refine zt_iload_n zy_186 (show q_ins q_k186 6 = some (.iload_n 0, 0, 0) from rfl) (v := Int32.ofInt v0) rfl ?_
    refine zt_bipush zy_186 (show q_ins q_k186 7 = some (.bipush 122, 0, 0) from rfl) (by decide) ?_
    obtain ⟨hg, h⟩ := zt_ckE h
    refine zt_icmp_gt zy_186 (show q_ins q_k186 9 = some (.if_icmp .gt 7, 16, 0) from rfl) (⟨hg, by decide⟩) (fun hc => ?_) (fun hc => ?_)
    · rw [if_pos hc] at h
      exact zt_wk (zt_cov_nil) (S_M_isLetter_16  _ _ h)
    · rw [if_neg hc] at h
      refine zt_iconst zy_186 (show q_ins q_k186 12 = some (.iconst 1, 0, 0) from rfl) ?_
      refine zt_goto zy_186 (show q_ins q_k186 13 = some (.goto 4, 17, 0) from rfl) ?_
      exact zt_wk (zt_cov_nil) (S_M_isLetter_17  _ _ _ h)
theorem S_M_isFigure_17 {X : q_X}   : ∀ (x0 : Int) (σ : zt_S) (o : (Int × zt_S)), F_M_isFigure_17  x0 σ = some o → zt_Ex X 0 187 17 [] [.int (Int32.ofInt x0)] (zt_M σ) (zo_I o) := by
  intro x0 σ o  h
  unfold F_M_isFigure_17 at h
  obtain ⟨hg, h⟩ := zt_ckE h
  cases h
  exact zt_zret zy_187 (show q_ins q_k187 17 = some (.ireturn, 0, 0) from rfl) hg
theorem S_M_isFigure_16 {X : q_X}   : ∀  (σ : zt_S) (o : (Int × zt_S)), F_M_isFigure_16   σ = some o → zt_Ex X 0 187 16 [] [] (zt_M σ) (zo_I o) := by
  intro  σ o  h
  unfold F_M_isFigure_16 at h
  refine zt_iconst zy_187 (show q_ins q_k187 16 = some (.iconst 0, 0, 0) from rfl) ?_
  exact zt_wk (zt_cov_nil) (S_M_isFigure_17  _ _ _ h)
theorem S_M_isFigure {X : q_X}   {v0 : Int} {σ : zt_S} {o : (Int × zt_S)} (h : F_M_isFigure  v0 σ = some o) : zt_Ex X 0 187 0 (lv_args 0 [.int (Int32.ofInt v0)]) [] (zt_M σ) (zo_I o) := by
  unfold F_M_isFigure at h
  refine zt_iload_n zy_187 (show q_ins q_k187 0 = some (.iload_n 0, 0, 0) from rfl) (v := Int32.ofInt v0) rfl ?_
  refine zt_bipush zy_187 (show q_ins q_k187 1 = some (.bipush 48, 0, 0) from rfl) (by decide) ?_
  obtain ⟨hg, h⟩ := zt_ckE h
  refine zt_icmp_lt zy_187 (show q_ins q_k187 3 = some (.if_icmp .lt 13, 16, 0) from rfl) (⟨hg, by decide⟩) (fun hc => ?_) (fun hc => ?_)
  · rw [if_pos hc] at h
    exact zt_wk (zt_cov_nil) (S_M_isFigure_16  _ _ h)
  · rw [if_neg hc] at h
    refine zt_iload_n zy_187 (show q_ins q_k187 6 = some (.iload_n 0, 0, 0) from rfl) (v := Int32.ofInt v0) rfl ?_
    refine zt_bipush zy_187 (show q_ins q_k187 7 = some (.bipush 57, 0, 0) from rfl) (by decide) ?_
    obtain ⟨hg, h⟩ := zt_ckE h
    refine zt_icmp_gt zy_187 (show q_ins q_k187 9 = some (.if_icmp .gt 7, 16, 0) from rfl) (⟨hg, by decide⟩) (fun hc => ?_) (fun hc => ?_)
    · rw [if_pos hc] at h
      exact zt_wk (zt_cov_nil) (S_M_isFigure_16  _ _ h)
    · rw [if_neg hc] at h
      refine zt_iconst zy_187 (show q_ins q_k187 12 = some (.iconst 1, 0, 0) from rfl) ?_
      refine zt_goto zy_187 (show q_ins q_k187 13 = some (.goto 4, 17, 0) from rfl) ?_
      exact zt_wk (zt_cov_nil) (S_M_isFigure_17  _ _ _ h)
theorem S_M_readsWord_73 {X : q_X}   : ∀  (σ : zt_S) (o : (Unit × zt_S)), F_M_readsWord_73   σ = some o → zt_Ex X 1 188 73 [(0, .ref 163)] [] (zt_M σ) (zo_V o) := by
  intro  σ o  h
  unfold F_M_readsWord_73 at h
  refine zt_aload_n zy_188 (show q_ins q_k188 73 = some (.aload_n 0, 0, 0) from rfl) (v := 163) rfl ?_
  refine zt_iconst zy_188 (show q_ins q_k188 74 = some (.iconst 1, 0, 0) from rfl) ?_
  obtain ⟨s6, hs6, h⟩ := zt_letE h
  refine zt_putI zy_188 (show q_ins q_k188 75 = some (.putfield 134, 11, 13) from rfl) (j := 13) zk_163_13 rfl rfl rfl ?_
  rw [← hs6]
  cases h
  exact zt_ret zy_188 (show q_ins q_k188 78 = some (.return_, 0, 0) from rfl)
theorem S_M_readsWord_60 {X : q_X}   {r5 : zt_S → Option (Unit × zt_S)} (hr5 : ∀  (σ : zt_S) (o : (Unit × zt_S)), r5  σ = some o → zt_Ex X 1 188 5 [(0, .ref 163)] [] (zt_M σ) (zo_V o)) : ∀  (σ : zt_S) (o : (Unit × zt_S)), F_M_readsWord_60  r5  σ = some o → zt_Ex X 1 188 60 [(0, .ref 163)] [] (zt_M σ) (zo_V o) := by
  intro  σ o  h
  unfold F_M_readsWord_60 at h
  refine zt_aload_n zy_188 (show q_ins q_k188 60 = some (.aload_n 0, 0, 0) from rfl) (v := 163) rfl ?_
  refine zt_dup zy_188 (show q_ins q_k188 61 = some (.dup, 0, 0) from rfl) rfl ?_
  refine zt_getI zy_188 (show q_ins q_k188 62 = some (.getfield 116, 11, 11) from rfl) (j := 11) zk_163_11 rfl ?_
  refine zt_iconst zy_188 (show q_ins q_k188 65 = some (.iconst 1, 0, 0) from rfl) ?_
  refine zt_iadd zy_188 (show q_ins q_k188 66 = some (.iadd, 0, 0) from rfl) ?_
  obtain ⟨s8, hs8, h⟩ := zt_letE h
  refine zt_putI zy_188 (show q_ins q_k188 67 = some (.putfield 116, 11, 11) from rfl) (j := 11) zk_163_11 rfl rfl rfl ?_
  rw [← hs8]
  refine zt_goto zy_188 (show q_ins q_k188 70 = some (.goto (-65), 5, 0) from rfl) ?_
  exact zt_wk (zt_cov_cons rfl (zt_cov_nil)) (hr5 _ _ h)
theorem S_M_readsWord_5 {X : q_X}   : ∀ (n : Nat)  (σ : zt_S) (o : (Unit × zt_S)), F_M_readsWord_5  n  σ = some o → zt_Ex X 1 188 5 [(0, .ref 163)] [] (zt_M σ) (zo_V o) := by
  intro n
  induction n with
  | zero => intro  σ o  h; cases h
  | succ n ih =>
  intro  σ o  h
  rw [F_M_readsWord_5] at h
  refine zt_aload_n zy_188 (show q_ins q_k188 5 = some (.aload_n 0, 0, 0) from rfl) (v := 163) rfl ?_
  refine zt_aload_n zy_188 (show q_ins q_k188 6 = some (.aload_n 0, 0, 0) from rfl) (v := 163) rfl ?_
  refine zt_getI zy_188 (show q_ins q_k188 7 = some (.getfield 116, 11, 11) from rfl) (j := 11) zk_163_11 rfl ?_
  obtain ⟨a2, s3, hca2, h⟩ := zt_bdE h
  refine zt_callV (d := 0) zy_188 (show q_ins q_k188 10 = some (.invokevirtual 119, 185, 1) from rfl) zy_185 (by decide) ⟨zq_lt (by decide), by decide⟩ rfl (by simp [Value.category]) (by simp [lg_sl, Value.category]) (zt_rcv zc_163) (zt_dm (by decide) (S_M_byteAt hca2)) ?_
  obtain ⟨a4, s5, hca4, h⟩ := zt_bdE h
  refine zt_callS (d := 0) zy_188 (show q_ins q_k188 13 = some (.invokestatic 123, 186, 1) from rfl) zy_186 (by decide) ⟨zq_lt (by decide), by decide⟩ rfl (by simp [Value.category]) (by simp [lg_sl, Value.category]) rfl (zt_dm (by decide) (S_M_isLetter hca4)) ?_
  obtain ⟨hg, h⟩ := zt_ckE h
  refine zt_if_eq zy_188 (show q_ins q_k188 16 = some (.ifCond .eq 57, 73, 0) from rfl) (hg) (fun hc => ?_) (fun hc => ?_)
  · rw [if_pos hc] at h
    exact zt_wk (zt_cov_cons rfl (zt_cov_nil)) (S_M_readsWord_73  _ _ h)
  · rw [if_neg hc] at h
    refine zt_aload_n zy_188 (show q_ins q_k188 19 = some (.aload_n 0, 0, 0) from rfl) (v := 163) rfl ?_
    refine zt_getI zy_188 (show q_ins q_k188 20 = some (.getfield 116, 11, 11) from rfl) (j := 11) zk_163_11 rfl ?_
    refine zt_aload_n zy_188 (show q_ins q_k188 23 = some (.aload_n 0, 0, 0) from rfl) (v := 163) rfl ?_
    refine zt_getI zy_188 (show q_ins q_k188 24 = some (.getfield 127, 11, 12) from rfl) (j := 12) zk_163_12 rfl ?_
    refine zt_isub zy_188 (show q_ins q_k188 27 = some (.isub, 0, 0) from rfl) ?_
    refine zt_bipush zy_188 (show q_ins q_k188 28 = some (.bipush 10, 0, 0) from rfl) (by decide) ?_
    obtain ⟨hg, h⟩ := zt_ckE h
    refine zt_icmp_ge zy_188 (show q_ins q_k188 30 = some (.if_icmp .ge 30, 60, 0) from rfl) (⟨hg, by decide⟩) (fun hc => ?_) (fun hc => ?_)
    · rw [if_pos hc] at h
      refine zt_aload_n zy_188 (show q_ins q_k188 33 = some (.aload_n 0, 0, 0) from rfl) (v := 163) rfl ?_
      refine zt_ldc2 zy_188 (show q_ins q_k188 34 = some (.ldc2_w 130, 0, 27) from rfl) (v := (27 : Int64)) (by decide) ?_
      refine zt_aload_n zy_188 (show q_ins q_k188 37 = some (.aload_n 0, 0, 0) from rfl) (v := 163) rfl ?_
      refine zt_getL zy_188 (show q_ins q_k188 38 = some (.getfield 112, 11, 15) from rfl) (j := 15) zk_163_15 rfl ?_
      refine zt_lmul zy_188 (show q_ins q_k188 41 = some (.lmul, 0, 0) from rfl) ?_
      refine zt_aload_n zy_188 (show q_ins q_k188 42 = some (.aload_n 0, 0, 0) from rfl) (v := 163) rfl ?_
      refine zt_getR zy_188 (show q_ins q_k188 43 = some (.getfield 29, 11, 8) from rfl) (r := 169) zk_163_8 ?_
      refine zt_aload_n zy_188 (show q_ins q_k188 46 = some (.aload_n 0, 0, 0) from rfl) (v := 163) rfl ?_
      refine zt_getI zy_188 (show q_ins q_k188 47 = some (.getfield 116, 11, 11) from rfl) (j := 11) zk_163_11 rfl ?_
      obtain ⟨hg, h⟩ := zt_ckE h
      refine zt_ald zy_188 (show q_ins q_k188 50 = some (.iaload, 0, 0) from rfl) za_169 (by decide) hg ?_
      refine zt_i2l zy_188 (show q_ins q_k188 51 = some (.i2l, 0, 0) from rfl) ?_
      refine zt_ladd zy_188 (show q_ins q_k188 52 = some (.ladd, 0, 0) from rfl) ?_
      refine zt_ldc2 zy_188 (show q_ins q_k188 53 = some (.ldc2_w 132, 0, 96) from rfl) (v := (96 : Int64)) (by decide) ?_
      refine zt_lsub zy_188 (show q_ins q_k188 56 = some (.lsub, 0, 0) from rfl) ?_
      obtain ⟨s7, hs7, h⟩ := zt_letE h
      refine zt_putL zy_188 (show q_ins q_k188 57 = some (.putfield 112, 11, 15) from rfl) (j := 15) zk_163_15 rfl rfl rfl ?_
      rw [← hs7]
      exact zt_wk (zt_cov_cons rfl (zt_cov_nil)) (S_M_readsWord_60  ih _ _ h)
    · rw [if_neg hc] at h
      exact zt_wk (zt_cov_cons rfl (zt_cov_nil)) (S_M_readsWord_60  ih _ _ h)
theorem S_M_readsWord {X : q_X}    {σ : zt_S} {o : (Unit × zt_S)} (h : F_M_readsWord   σ = some o) : zt_Ex X 1 188 0 (lv_args 0 [.ref 163]) [] (zt_M σ) (zo_V o) := by
  unfold F_M_readsWord at h
  refine zt_aload_n zy_188 (show q_ins q_k188 0 = some (.aload_n 0, 0, 0) from rfl) (v := 163) rfl ?_
  refine zt_lconst zy_188 (show q_ins q_k188 1 = some (.lconst 0, 0, 0) from rfl) (v := (0 : Int64)) (by decide) ?_
  obtain ⟨s1, hs1, h⟩ := zt_letE h
  refine zt_putL zy_188 (show q_ins q_k188 2 = some (.putfield 112, 11, 15) from rfl) (j := 15) zk_163_15 rfl rfl rfl ?_
  rw [← hs1]
  exact zt_wk (zt_cov_cons rfl (zt_cov_nil)) (S_M_readsWord_5  _ _ _ h)
theorem S_M_readsNumber_72 {X : q_X}   : ∀  (σ : zt_S) (o : (Unit × zt_S)), F_M_readsNumber_72   σ = some o → zt_Ex X 1 189 72 [(0, .ref 163)] [] (zt_M σ) (zo_V o) := by
  intro  σ o  h
  unfold F_M_readsNumber_72 at h
  refine zt_aload_n zy_189 (show q_ins q_k189 72 = some (.aload_n 0, 0, 0) from rfl) (v := 163) rfl ?_
  refine zt_iconst zy_189 (show q_ins q_k189 73 = some (.iconst 2, 0, 0) from rfl) ?_
  obtain ⟨s6, hs6, h⟩ := zt_letE h
  refine zt_putI zy_189 (show q_ins q_k189 74 = some (.putfield 134, 11, 13) from rfl) (j := 13) zk_163_13 rfl rfl rfl ?_
  rw [← hs6]
  cases h
  exact zt_ret zy_189 (show q_ins q_k189 77 = some (.return_, 0, 0) from rfl)
theorem S_M_readsNumber_56 {X : q_X}   {r5 : zt_S → Option (Unit × zt_S)} (hr5 : ∀  (σ : zt_S) (o : (Unit × zt_S)), r5  σ = some o → zt_Ex X 1 189 5 [(0, .ref 163)] [] (zt_M σ) (zo_V o)) : ∀ (x0 : Int) (σ : zt_S) (o : (Unit × zt_S)), F_M_readsNumber_56  r5 x0 σ = some o → zt_Ex X 1 189 56 [(0, .ref 163)] [.int (Int32.ofInt x0), .ref 163] (zt_M σ) (zo_V o) := by
  intro x0 σ o  h
  unfold F_M_readsNumber_56 at h
  obtain ⟨s7, hs7, h⟩ := zt_letE h
  refine zt_putI zy_189 (show q_ins q_k189 56 = some (.putfield 137, 11, 14) from rfl) (j := 14) zk_163_14 rfl rfl rfl ?_
  rw [← hs7]
  refine zt_aload_n zy_189 (show q_ins q_k189 59 = some (.aload_n 0, 0, 0) from rfl) (v := 163) rfl ?_
  refine zt_dup zy_189 (show q_ins q_k189 60 = some (.dup, 0, 0) from rfl) rfl ?_
  refine zt_getI zy_189 (show q_ins q_k189 61 = some (.getfield 116, 11, 11) from rfl) (j := 11) zk_163_11 rfl ?_
  refine zt_iconst zy_189 (show q_ins q_k189 64 = some (.iconst 1, 0, 0) from rfl) ?_
  refine zt_iadd zy_189 (show q_ins q_k189 65 = some (.iadd, 0, 0) from rfl) ?_
  obtain ⟨s8, hs8, h⟩ := zt_letE h
  refine zt_putI zy_189 (show q_ins q_k189 66 = some (.putfield 116, 11, 11) from rfl) (j := 11) zk_163_11 rfl rfl rfl ?_
  rw [← hs8]
  refine zt_goto zy_189 (show q_ins q_k189 69 = some (.goto (-64), 5, 0) from rfl) ?_
  exact zt_wk (zt_cov_cons rfl (zt_cov_nil)) (hr5 _ _ h)
theorem S_M_readsNumber_5 {X : q_X}   : ∀ (n : Nat)  (σ : zt_S) (o : (Unit × zt_S)), F_M_readsNumber_5  n  σ = some o → zt_Ex X 1 189 5 [(0, .ref 163)] [] (zt_M σ) (zo_V o) := by
  intro n
  induction n with
  | zero => intro  σ o  h; cases h
  | succ n ih =>
  intro  σ o  h
  rw [F_M_readsNumber_5] at h
  refine zt_aload_n zy_189 (show q_ins q_k189 5 = some (.aload_n 0, 0, 0) from rfl) (v := 163) rfl ?_
  refine zt_aload_n zy_189 (show q_ins q_k189 6 = some (.aload_n 0, 0, 0) from rfl) (v := 163) rfl ?_
  refine zt_getI zy_189 (show q_ins q_k189 7 = some (.getfield 116, 11, 11) from rfl) (j := 11) zk_163_11 rfl ?_
  obtain ⟨a2, s3, hca2, h⟩ := zt_bdE h
  refine zt_callV (d := 0) zy_189 (show q_ins q_k189 10 = some (.invokevirtual 119, 185, 1) from rfl) zy_185 (by decide) ⟨zq_lt (by decide), by decide⟩ rfl (by simp [Value.category]) (by simp [lg_sl, Value.category]) (zt_rcv zc_163) (zt_dm (by decide) (S_M_byteAt hca2)) ?_
  obtain ⟨a4, s5, hca4, h⟩ := zt_bdE h
  refine zt_callS (d := 0) zy_189 (show q_ins q_k189 13 = some (.invokestatic 140, 187, 1) from rfl) zy_187 (by decide) ⟨zq_lt (by decide), by decide⟩ rfl (by simp [Value.category]) (by simp [lg_sl, Value.category]) rfl (zt_dm (by decide) (S_M_isFigure hca4)) ?_
  obtain ⟨hg, h⟩ := zt_ckE h
  refine zt_if_eq zy_189 (show q_ins q_k189 16 = some (.ifCond .eq 56, 72, 0) from rfl) (hg) (fun hc => ?_) (fun hc => ?_)
  · rw [if_pos hc] at h
    exact zt_wk (zt_cov_cons rfl (zt_cov_nil)) (S_M_readsNumber_72  _ _ h)
  · rw [if_neg hc] at h
    refine zt_aload_n zy_189 (show q_ins q_k189 19 = some (.aload_n 0, 0, 0) from rfl) (v := 163) rfl ?_
    refine zt_aload_n zy_189 (show q_ins q_k189 20 = some (.aload_n 0, 0, 0) from rfl) (v := 163) rfl ?_
    refine zt_getI zy_189 (show q_ins q_k189 21 = some (.getfield 137, 11, 14) from rfl) (j := 14) zk_163_14 rfl ?_
    refine zt_ldcI zy_189 (show q_ins q_k189 24 = some (.ldc 143, 0, 9999999) from rfl) (n := (9999999 : Int)) rfl (by decide) ?_
    obtain ⟨hg, h⟩ := zt_ckE h
    refine zt_icmp_le zy_189 (show q_ins q_k189 26 = some (.if_icmp .le 10, 36, 0) from rfl) (⟨hg, by decide⟩) (fun hc => ?_) (fun hc => ?_)
    · rw [if_pos hc] at h
      refine zt_aload_n zy_189 (show q_ins q_k189 29 = some (.aload_n 0, 0, 0) from rfl) (v := 163) rfl ?_
      refine zt_getI zy_189 (show q_ins q_k189 30 = some (.getfield 137, 11, 14) from rfl) (j := 14) zk_163_14 rfl ?_
      refine zt_goto zy_189 (show q_ins q_k189 33 = some (.goto 23, 56, 0) from rfl) ?_
      exact zt_wk (zt_cov_cons rfl (zt_cov_nil)) (S_M_readsNumber_56  ih _ _ _ h)
    · rw [if_neg hc] at h
      refine zt_bipush zy_189 (show q_ins q_k189 36 = some (.bipush 10, 0, 0) from rfl) (by decide) ?_
      refine zt_aload_n zy_189 (show q_ins q_k189 38 = some (.aload_n 0, 0, 0) from rfl) (v := 163) rfl ?_
      refine zt_getI zy_189 (show q_ins q_k189 39 = some (.getfield 137, 11, 14) from rfl) (j := 14) zk_163_14 rfl ?_
      refine zt_imul zy_189 (show q_ins q_k189 42 = some (.imul, 0, 0) from rfl) ?_
      refine zt_aload_n zy_189 (show q_ins q_k189 43 = some (.aload_n 0, 0, 0) from rfl) (v := 163) rfl ?_
      refine zt_getR zy_189 (show q_ins q_k189 44 = some (.getfield 29, 11, 8) from rfl) (r := 169) zk_163_8 ?_
      refine zt_aload_n zy_189 (show q_ins q_k189 47 = some (.aload_n 0, 0, 0) from rfl) (v := 163) rfl ?_
      refine zt_getI zy_189 (show q_ins q_k189 48 = some (.getfield 116, 11, 11) from rfl) (j := 11) zk_163_11 rfl ?_
      obtain ⟨hg, h⟩ := zt_ckE h
      refine zt_ald zy_189 (show q_ins q_k189 51 = some (.iaload, 0, 0) from rfl) za_169 (by decide) hg ?_
      refine zt_iadd zy_189 (show q_ins q_k189 52 = some (.iadd, 0, 0) from rfl) ?_
      refine zt_bipush zy_189 (show q_ins q_k189 53 = some (.bipush 48, 0, 0) from rfl) (by decide) ?_
      refine zt_isub zy_189 (show q_ins q_k189 55 = some (.isub, 0, 0) from rfl) ?_
      exact zt_wk (zt_cov_cons rfl (zt_cov_nil)) (S_M_readsNumber_56  ih _ _ _ h)
theorem S_M_readsNumber {X : q_X}    {σ : zt_S} {o : (Unit × zt_S)} (h : F_M_readsNumber   σ = some o) : zt_Ex X 1 189 0 (lv_args 0 [.ref 163]) [] (zt_M σ) (zo_V o) := by
  unfold F_M_readsNumber at h
  refine zt_aload_n zy_189 (show q_ins q_k189 0 = some (.aload_n 0, 0, 0) from rfl) (v := 163) rfl ?_
  refine zt_iconst zy_189 (show q_ins q_k189 1 = some (.iconst 0, 0, 0) from rfl) ?_
  obtain ⟨s1, hs1, h⟩ := zt_letE h
  refine zt_putI zy_189 (show q_ins q_k189 2 = some (.putfield 137, 11, 14) from rfl) (j := 14) zk_163_14 rfl rfl rfl ?_
  rw [← hs1]
  exact zt_wk (zt_cov_cons rfl (zt_cov_nil)) (S_M_readsNumber_5  _ _ _ h)
theorem S_M_next_26 {X : q_X}   {r0 : zt_S → Option (Unit × zt_S)} (hr0 : ∀  (σ : zt_S) (o : (Unit × zt_S)), r0  σ = some o → zt_Ex X 2 190 0 [(0, .ref 163)] [] (zt_M σ) (zo_V o)) : ∀  (σ : zt_S) (o : (Unit × zt_S)), F_M_next_26  r0  σ = some o → zt_Ex X 2 190 26 [(0, .ref 163)] [] (zt_M σ) (zo_V o) := by
  intro  σ o  h
  unfold F_M_next_26 at h
  refine zt_aload_n zy_190 (show q_ins q_k190 26 = some (.aload_n 0, 0, 0) from rfl) (v := 163) rfl ?_
  refine zt_dup zy_190 (show q_ins q_k190 27 = some (.dup, 0, 0) from rfl) rfl ?_
  refine zt_getI zy_190 (show q_ins q_k190 28 = some (.getfield 116, 11, 11) from rfl) (j := 11) zk_163_11 rfl ?_
  refine zt_iconst zy_190 (show q_ins q_k190 31 = some (.iconst 1, 0, 0) from rfl) ?_
  refine zt_iadd zy_190 (show q_ins q_k190 32 = some (.iadd, 0, 0) from rfl) ?_
  obtain ⟨s3, hs3, h⟩ := zt_letE h
  refine zt_putI zy_190 (show q_ins q_k190 33 = some (.putfield 116, 11, 11) from rfl) (j := 11) zk_163_11 rfl rfl rfl ?_
  rw [← hs3]
  refine zt_goto zy_190 (show q_ins q_k190 36 = some (.goto (-36), 0, 0) from rfl) ?_
  exact zt_wk (zt_cov_cons rfl (zt_cov_nil)) (hr0 _ _ h)
theorem S_M_next_125 {X : q_X}   : ∀  (σ : zt_S) (o : (Unit × zt_S)), F_M_next_125   σ = some o → zt_Ex X 2 190 125 [] [] (zt_M σ) (zo_V o) := by
  intro  σ o  h
  unfold F_M_next_125 at h
  cases h
  exact zt_ret zy_190 (show q_ins q_k190 125 = some (.return_, 0, 0) from rfl)
theorem S_M_next_39 {X : q_X}   : ∀  (σ : zt_S) (o : (Unit × zt_S)), F_M_next_39   σ = some o → zt_Ex X 2 190 39 [(0, .ref 163)] [] (zt_M σ) (zo_V o) := by
  intro  σ o  h
  unfold F_M_next_39 at h
  refine zt_aload_n zy_190 (show q_ins q_k190 39 = some (.aload_n 0, 0, 0) from rfl) (v := 163) rfl ?_
  refine zt_aload_n zy_190 (show q_ins q_k190 40 = some (.aload_n 0, 0, 0) from rfl) (v := 163) rfl ?_
  refine zt_getI zy_190 (show q_ins q_k190 41 = some (.getfield 116, 11, 11) from rfl) (j := 11) zk_163_11 rfl ?_
  obtain ⟨s6, hs6, h⟩ := zt_letE h
  refine zt_putI zy_190 (show q_ins q_k190 44 = some (.putfield 127, 11, 12) from rfl) (j := 12) zk_163_12 rfl rfl rfl ?_
  rw [← hs6]
  refine zt_aload_n zy_190 (show q_ins q_k190 47 = some (.aload_n 0, 0, 0) from rfl) (v := 163) rfl ?_
  refine zt_getI zy_190 (show q_ins q_k190 48 = some (.getfield 116, 11, 11) from rfl) (j := 11) zk_163_11 rfl ?_
  refine zt_aload_n zy_190 (show q_ins q_k190 51 = some (.aload_n 0, 0, 0) from rfl) (v := 163) rfl ?_
  refine zt_getI zy_190 (show q_ins q_k190 52 = some (.getfield 109, 11, 10) from rfl) (j := 10) zk_163_10 rfl ?_
  obtain ⟨hg, h⟩ := zt_ckE h
  refine zt_icmp_lt zy_190 (show q_ins q_k190 55 = some (.if_icmp .lt 11, 66, 0) from rfl) (⟨hg.1, hg.2⟩) (fun hc => ?_) (fun hc => ?_)
  · rw [if_pos hc] at h
    refine zt_aload_n zy_190 (show q_ins q_k190 66 = some (.aload_n 0, 0, 0) from rfl) (v := 163) rfl ?_
    refine zt_getR zy_190 (show q_ins q_k190 67 = some (.getfield 29, 11, 8) from rfl) (r := 169) zk_163_8 ?_
    refine zt_aload_n zy_190 (show q_ins q_k190 70 = some (.aload_n 0, 0, 0) from rfl) (v := 163) rfl ?_
    refine zt_getI zy_190 (show q_ins q_k190 71 = some (.getfield 116, 11, 11) from rfl) (j := 11) zk_163_11 rfl ?_
    obtain ⟨hg, h⟩ := zt_ckE h
    refine zt_ald zy_190 (show q_ins q_k190 74 = some (.iaload, 0, 0) from rfl) za_169 (by decide) hg ?_
    obtain ⟨a7, s8, hca7, h⟩ := zt_bdE h
    refine zt_callS (d := 1) zy_190 (show q_ins q_k190 75 = some (.invokestatic 123, 186, 1) from rfl) zy_186 (by decide) ⟨zq_lt (by decide), by decide⟩ rfl (by simp [Value.category]) (by simp [lg_sl, Value.category]) rfl (zt_dm (by decide) (S_M_isLetter hca7)) ?_
    obtain ⟨hg, h⟩ := zt_ckE h
    refine zt_if_eq zy_190 (show q_ins q_k190 78 = some (.ifCond .eq 10, 88, 0) from rfl) (hg) (fun hc => ?_) (fun hc => ?_)
    · rw [if_pos hc] at h
      refine zt_aload_n zy_190 (show q_ins q_k190 88 = some (.aload_n 0, 0, 0) from rfl) (v := 163) rfl ?_
      refine zt_getR zy_190 (show q_ins q_k190 89 = some (.getfield 29, 11, 8) from rfl) (r := 169) zk_163_8 ?_
      refine zt_aload_n zy_190 (show q_ins q_k190 92 = some (.aload_n 0, 0, 0) from rfl) (v := 163) rfl ?_
      refine zt_getI zy_190 (show q_ins q_k190 93 = some (.getfield 116, 11, 11) from rfl) (j := 11) zk_163_11 rfl ?_
      obtain ⟨hg, h⟩ := zt_ckE h
      refine zt_ald zy_190 (show q_ins q_k190 96 = some (.iaload, 0, 0) from rfl) za_169 (by decide) hg ?_
      obtain ⟨a9, s10, hca9, h⟩ := zt_bdE h
      refine zt_callS (d := 1) zy_190 (show q_ins q_k190 97 = some (.invokestatic 140, 187, 1) from rfl) zy_187 (by decide) ⟨zq_lt (by decide), by decide⟩ rfl (by simp [Value.category]) (by simp [lg_sl, Value.category]) rfl (zt_dm (by decide) (S_M_isFigure hca9)) ?_
      obtain ⟨hg, h⟩ := zt_ckE h
      refine zt_if_eq zy_190 (show q_ins q_k190 100 = some (.ifCond .eq 10, 110, 0) from rfl) (hg) (fun hc => ?_) (fun hc => ?_)
      · rw [if_pos hc] at h
        refine zt_aload_n zy_190 (show q_ins q_k190 110 = some (.aload_n 0, 0, 0) from rfl) (v := 163) rfl ?_
        refine zt_iconst zy_190 (show q_ins q_k190 111 = some (.iconst 3, 0, 0) from rfl) ?_
        obtain ⟨s11, hs11, h⟩ := zt_letE h
        refine zt_putI zy_190 (show q_ins q_k190 112 = some (.putfield 134, 11, 13) from rfl) (j := 13) zk_163_13 rfl rfl rfl ?_
        rw [← hs11]
        refine zt_aload_n zy_190 (show q_ins q_k190 115 = some (.aload_n 0, 0, 0) from rfl) (v := 163) rfl ?_
        refine zt_dup zy_190 (show q_ins q_k190 116 = some (.dup, 0, 0) from rfl) rfl ?_
        refine zt_getI zy_190 (show q_ins q_k190 117 = some (.getfield 116, 11, 11) from rfl) (j := 11) zk_163_11 rfl ?_
        refine zt_iconst zy_190 (show q_ins q_k190 120 = some (.iconst 1, 0, 0) from rfl) ?_
        refine zt_iadd zy_190 (show q_ins q_k190 121 = some (.iadd, 0, 0) from rfl) ?_
        obtain ⟨s12, hs12, h⟩ := zt_letE h
        refine zt_putI zy_190 (show q_ins q_k190 122 = some (.putfield 116, 11, 11) from rfl) (j := 11) zk_163_11 rfl rfl rfl ?_
        rw [← hs12]
        exact zt_wk (zt_cov_nil) (S_M_next_125  _ _ h)
      · rw [if_neg hc] at h
        refine zt_aload_n zy_190 (show q_ins q_k190 103 = some (.aload_n 0, 0, 0) from rfl) (v := 163) rfl ?_
        obtain ⟨a13, s14, hca13, h⟩ := zt_bdE h
        refine zt_callV (d := 1) zy_190 (show q_ins q_k190 104 = some (.invokevirtual 147, 189, 0) from rfl) zy_189 (by decide) ⟨zq_lt (by decide), by decide⟩ rfl (by simp [Value.category]) (by simp [lg_sl, Value.category]) (zt_rcv zc_163) (zt_dm (by decide) (S_M_readsNumber hca13)) ?_
        refine zt_goto zy_190 (show q_ins q_k190 107 = some (.goto 18, 125, 0) from rfl) ?_
        exact zt_wk (zt_cov_nil) (S_M_next_125  _ _ h)
    · rw [if_neg hc] at h
      refine zt_aload_n zy_190 (show q_ins q_k190 81 = some (.aload_n 0, 0, 0) from rfl) (v := 163) rfl ?_
      obtain ⟨a15, s16, hca15, h⟩ := zt_bdE h
      refine zt_callV (d := 1) zy_190 (show q_ins q_k190 82 = some (.invokevirtual 144, 188, 0) from rfl) zy_188 (by decide) ⟨zq_lt (by decide), by decide⟩ rfl (by simp [Value.category]) (by simp [lg_sl, Value.category]) (zt_rcv zc_163) (zt_dm (by decide) (S_M_readsWord hca15)) ?_
      refine zt_goto zy_190 (show q_ins q_k190 85 = some (.goto 40, 125, 0) from rfl) ?_
      exact zt_wk (zt_cov_nil) (S_M_next_125  _ _ h)
  · rw [if_neg hc] at h
    refine zt_aload_n zy_190 (show q_ins q_k190 58 = some (.aload_n 0, 0, 0) from rfl) (v := 163) rfl ?_
    refine zt_iconst zy_190 (show q_ins q_k190 59 = some (.iconst 0, 0, 0) from rfl) ?_
    obtain ⟨s17, hs17, h⟩ := zt_letE h
    refine zt_putI zy_190 (show q_ins q_k190 60 = some (.putfield 134, 11, 13) from rfl) (j := 13) zk_163_13 rfl rfl rfl ?_
    rw [← hs17]
    refine zt_goto zy_190 (show q_ins q_k190 63 = some (.goto 62, 125, 0) from rfl) ?_
    exact zt_wk (zt_cov_nil) (S_M_next_125  _ _ h)
theorem S_M_next_0 {X : q_X}   : ∀ (n : Nat)  (σ : zt_S) (o : (Unit × zt_S)), F_M_next_0  n  σ = some o → zt_Ex X 2 190 0 [(0, .ref 163)] [] (zt_M σ) (zo_V o) := by
  intro n
  induction n with
  | zero => intro  σ o  h; cases h
  | succ n ih =>
  intro  σ o  h
  rw [F_M_next_0] at h
  refine zt_aload_n zy_190 (show q_ins q_k190 0 = some (.aload_n 0, 0, 0) from rfl) (v := 163) rfl ?_
  refine zt_aload_n zy_190 (show q_ins q_k190 1 = some (.aload_n 0, 0, 0) from rfl) (v := 163) rfl ?_
  refine zt_getI zy_190 (show q_ins q_k190 2 = some (.getfield 116, 11, 11) from rfl) (j := 11) zk_163_11 rfl ?_
  obtain ⟨a1, s2, hca1, h⟩ := zt_bdE h
  refine zt_callV (d := 1) zy_190 (show q_ins q_k190 5 = some (.invokevirtual 119, 185, 1) from rfl) zy_185 (by decide) ⟨zq_lt (by decide), by decide⟩ rfl (by simp [Value.category]) (by simp [lg_sl, Value.category]) (zt_rcv zc_163) (zt_dm (by decide) (S_M_byteAt hca1)) ?_
  refine zt_bipush zy_190 (show q_ins q_k190 8 = some (.bipush 32, 0, 0) from rfl) (by decide) ?_
  obtain ⟨hg, h⟩ := zt_ckE h
  refine zt_icmp_eq zy_190 (show q_ins q_k190 10 = some (.if_icmp .eq 16, 26, 0) from rfl) (⟨hg, by decide⟩) (fun hc => ?_) (fun hc => ?_)
  · rw [if_pos hc] at h
    exact zt_wk (zt_cov_cons rfl (zt_cov_nil)) (S_M_next_26  ih _ _ h)
  · rw [if_neg hc] at h
    refine zt_aload_n zy_190 (show q_ins q_k190 13 = some (.aload_n 0, 0, 0) from rfl) (v := 163) rfl ?_
    refine zt_aload_n zy_190 (show q_ins q_k190 14 = some (.aload_n 0, 0, 0) from rfl) (v := 163) rfl ?_
    refine zt_getI zy_190 (show q_ins q_k190 15 = some (.getfield 116, 11, 11) from rfl) (j := 11) zk_163_11 rfl ?_
    obtain ⟨a4, s5, hca4, h⟩ := zt_bdE h
    refine zt_callV (d := 1) zy_190 (show q_ins q_k190 18 = some (.invokevirtual 119, 185, 1) from rfl) zy_185 (by decide) ⟨zq_lt (by decide), by decide⟩ rfl (by simp [Value.category]) (by simp [lg_sl, Value.category]) (zt_rcv zc_163) (zt_dm (by decide) (S_M_byteAt hca4)) ?_
    refine zt_bipush zy_190 (show q_ins q_k190 21 = some (.bipush 10, 0, 0) from rfl) (by decide) ?_
    obtain ⟨hg, h⟩ := zt_ckE h
    refine zt_icmp_ne zy_190 (show q_ins q_k190 23 = some (.if_icmp .ne 16, 39, 0) from rfl) (⟨hg, by decide⟩) (fun hc => ?_) (fun hc => ?_)
    · rw [if_pos hc] at h
      exact zt_wk (zt_cov_cons rfl (zt_cov_nil)) (S_M_next_26  ih _ _ h)
    · rw [if_neg hc] at h
      exact zt_wk (zt_cov_cons rfl (zt_cov_nil)) (S_M_next_39  _ _ h)
theorem S_M_next {X : q_X}    {σ : zt_S} {o : (Unit × zt_S)} (h : F_M_next   σ = some o) : zt_Ex X 2 190 0 (lv_args 0 [.ref 163]) [] (zt_M σ) (zo_V o) := by
  unfold F_M_next at h
  exact zt_wk (zt_cov_cons rfl (zt_cov_nil)) (S_M_next_0  _ _ _ h)
