/-! the mini-machine does what the functions say (by program) -/
section TT
variable {T : zt_T}
theorem S_C_tell {X : q_X}   {v1 : Int} {v2 : Int} {σ : zt_S} {o : ((Int ⊕ Nat) × zt_S)} (h : F_C_tell  v1 v2 σ = some o) : zt_Ex X 3 154 0 (lv_args 0 [.ref 0, .int (Int32.ofInt v1), .int (Int32.ofInt v2)]) [] (zt_M T σ) (zx_I T o) := by
  unfold F_C_tell at h
  refine zt_aload_n zy_154 (show q_ins q_k154 0 = some (.aload_n 0, 0, 0) from rfl) (v := 0) rfl ?_
  refine zt_iload_n zy_154 (show q_ins q_k154 1 = some (.iload_n 1, 0, 0) from rfl) (v := Int32.ofInt v1) rfl ?_
  rcases zt_bxE h with ⟨a1, s2, hca1, h⟩ | ⟨E, s2, hca1, h⟩
  · refine zt_callV (d := 2) zy_154 (show q_ins q_k154 2 = some (.invokevirtual 212, 167, 1) from rfl) zy_167 (by decide) ⟨zq_lt (by decide), by decide⟩ rfl (by simp [Value.category]) (by simp [lg_sl, Value.category]) (zt_rcv zc_0) (zt_dm (by decide) (S_C_needPlayer hca1)) ?_
    refine zt_aload_n zy_154 (show q_ins q_k154 5 = some (.aload_n 0, 0, 0) from rfl) (v := 0) rfl ?_
    refine zt_iload_n zy_154 (show q_ins q_k154 6 = some (.iload_n 2, 0, 0) from rfl) (v := Int32.ofInt v2) rfl ?_
    refine zt_iconst zy_154 (show q_ins q_k154 7 = some (.iconst 0, 0, 0) from rfl) ?_
    refine zt_aload_n zy_154 (show q_ins q_k154 8 = some (.aload_n 0, 0, 0) from rfl) (v := 0) rfl ?_
    refine zt_getR zy_154 (show q_ins q_k154 9 = some (.getfield 25, 10, 3) from rfl) (r := 3) zk_0_3 ?_
    refine zt_getI zy_154 (show q_ins q_k154 12 = some (.getfield 151, 4, 2) from rfl) (j := 2) zk_3_2 rfl ?_
    rcases zt_bxE h with ⟨a3, s4, hca3, h⟩ | ⟨E, s4, hca3, h⟩
    · refine zt_callV (d := 2) zy_154 (show q_ins q_k154 15 = some (.invokevirtual 317, 169, 3) from rfl) zy_169 (by decide) ⟨zq_lt (by decide), by decide⟩ rfl (by simp [Value.category]) (by simp [lg_sl, Value.category]) (zt_rcv zc_0) (zt_dm (by decide) (S_C_needRange hca3)) ?_
      refine zt_aload_n zy_154 (show q_ins q_k154 18 = some (.aload_n 0, 0, 0) from rfl) (v := 0) rfl ?_
      refine zt_getR zy_154 (show q_ins q_k154 19 = some (.getfield 41, 10, 5) from rfl) (r := 6) zk_0_5 ?_
      refine zt_getI zy_154 (show q_ins q_k154 22 = some (.getfield 191, 6, 16) from rfl) (j := 16) zk_6_16 rfl ?_
      obtain ⟨hg, h⟩ := zt_ckE h
      refine zt_if_le zy_154 (show q_ins q_k154 25 = some (.ifCond .le 6, 31, 0) from rfl) (hg) (fun hc => ?_) (fun hc => ?_)
      · rw [if_pos hc] at h
        refine zt_bipush zy_154 (show q_ins q_k154 28 = some (.bipush (-2), 0, 0) from rfl) (by decide) ?_
        cases h
        exact zt_iret zy_154 (show q_ins q_k154 30 = some (.ireturn, 0, 0) from rfl)
      · rw [if_neg hc] at h
        refine zt_aload_n zy_154 (show q_ins q_k154 31 = some (.aload_n 0, 0, 0) from rfl) (v := 0) rfl ?_
        refine zt_getR zy_154 (show q_ins q_k154 32 = some (.getfield 48, 10, 6) from rfl) (r := 16) zk_0_6 ?_
        refine zt_aload_n zy_154 (show q_ins q_k154 35 = some (.aload_n 0, 0, 0) from rfl) (v := 0) rfl ?_
        refine zt_getR zy_154 (show q_ins q_k154 36 = some (.getfield 41, 10, 5) from rfl) (r := 6) zk_0_5 ?_
        obtain ⟨a5, s6, hca5, h⟩ := zt_bdE h
        refine zt_callV (d := 2) zy_154 (show q_ins q_k154 39 = some (.invokevirtual 308, 8, 1) from rfl) zy_8 (by decide) ⟨zq_lt (by decide), by decide⟩ rfl (by simp [Value.category]) (by simp [lg_sl, Value.category]) (zt_rcv zc_16) (zt_dm (by decide) (S_Hi_keep (by decide) hca5)) ?_
        refine zt_aload_n zy_154 (show q_ins q_k154 42 = some (.aload_n 0, 0, 0) from rfl) (v := 0) rfl ?_
        refine zt_getR zy_154 (show q_ins q_k154 43 = some (.getfield 41, 10, 5) from rfl) (r := 6) zk_0_5 ?_
        refine zt_getR zy_154 (show q_ins q_k154 46 = some (.getfield 275, 6, 3) from rfl) (r := 9) zk_6_3 ?_
        refine zt_iload_n zy_154 (show q_ins q_k154 49 = some (.iload_n 1, 0, 0) from rfl) (v := Int32.ofInt v1) rfl ?_
        obtain ⟨a7, s8, hca7, h⟩ := zt_bdE h
        refine zt_callS (d := 2) zy_154 (show q_ins q_k154 50 = some (.invokestatic 259, 309, 2) from rfl) zy_309 (by decide) ⟨zq_lt (by decide), by decide⟩ rfl (by simp [Value.category]) (by simp [lg_sl, Value.category]) rfl (zt_dm (by decide) (S_Rw_at za_9 (by decide) hca7)) ?_
        refine zt_istore_n zy_154 (show q_ins q_k154 53 = some (.istore_n 3, 0, 0) from rfl) (by decide) ?_
        refine zt_aload_n zy_154 (show q_ins q_k154 54 = some (.aload_n 0, 0, 0) from rfl) (v := 0) rfl ?_
        refine zt_getR zy_154 (show q_ins q_k154 55 = some (.getfield 41, 10, 5) from rfl) (r := 6) zk_0_5 ?_
        refine zt_getR zy_154 (show q_ins q_k154 58 = some (.getfield 275, 6, 3) from rfl) (r := 9) zk_6_3 ?_
        refine zt_iload_n zy_154 (show q_ins q_k154 61 = some (.iload_n 1, 0, 0) from rfl) (v := Int32.ofInt v1) rfl ?_
        refine zt_iload_n zy_154 (show q_ins q_k154 62 = some (.iload_n 2, 0, 0) from rfl) (v := Int32.ofInt v2) rfl ?_
        obtain ⟨a9, s10, hca9, h⟩ := zt_bdE h
        refine zt_callS (d := 2) zy_154 (show q_ins q_k154 63 = some (.invokestatic 324, 310, 3) from rfl) zy_310 (by decide) ⟨zq_lt (by decide), by decide⟩ rfl (by simp [Value.category]) (by simp [lg_sl, Value.category]) rfl (zt_dm (by decide) (S_Rw_set za_9 (by decide) hca9)) ?_
        refine zt_iload_n zy_154 (show q_ins q_k154 66 = some (.iload_n 3, 0, 0) from rfl) (v := Int32.ofInt a7) rfl ?_
        refine zt_iconst zy_154 (show q_ins q_k154 67 = some (.iconst 1, 0, 0) from rfl) ?_
        refine zt_iadd zy_154 (show q_ins q_k154 68 = some (.iadd, 0, 0) from rfl) ?_
        cases h
        exact zt_iret zy_154 (show q_ins q_k154 69 = some (.ireturn, 0, 0) from rfl)
    · cases h
      exact zt_callVX (d := 2) zy_154 (show q_ins q_k154 15 = some (.invokevirtual 317, 169, 3) from rfl) zy_169 (by decide) ⟨zq_lt (by decide), by decide⟩ rfl (by simp [Value.category]) (by simp [lg_sl, Value.category]) (zt_rcv zc_0) (zt_dm (by decide) (S_C_needRange hca3))
  · cases h
    exact zt_callVX (d := 2) zy_154 (show q_ins q_k154 2 = some (.invokevirtual 212, 167, 1) from rfl) zy_167 (by decide) ⟨zq_lt (by decide), by decide⟩ rfl (by simp [Value.category]) (by simp [lg_sl, Value.category]) (zt_rcv zc_0) (zt_dm (by decide) (S_C_needPlayer hca1))
theorem S_C_deal {X : q_X}   {v1 : Int} {σ : zt_S} {o : ((Int ⊕ Nat) × zt_S)} (h : F_C_deal  v1 σ = some o) : zt_Ex X 4 155 0 (lv_args 0 [.ref 0, .int (Int32.ofInt v1)]) [] (zt_M T σ) (zx_I T o) := by
  unfold F_C_deal at h
  refine zt_aload_n zy_155 (show q_ins q_k155 0 = some (.aload_n 0, 0, 0) from rfl) (v := 0) rfl ?_
  refine zt_iload_n zy_155 (show q_ins q_k155 1 = some (.iload_n 1, 0, 0) from rfl) (v := Int32.ofInt v1) rfl ?_
  refine zt_iconst zy_155 (show q_ins q_k155 2 = some (.iconst 0, 0, 0) from rfl) ?_
  refine zt_ldcw zy_155 (show q_ins q_k155 3 = some (.ldc_w 328, 0, 99999) from rfl) (n := (99999 : Int)) rfl (by decide) ?_
  rcases zt_bxE h with ⟨a1, s2, hca1, h⟩ | ⟨E, s2, hca1, h⟩
  · refine zt_callV (d := 3) zy_155 (show q_ins q_k155 6 = some (.invokevirtual 317, 169, 3) from rfl) zy_169 (by decide) ⟨zq_lt (by decide), by decide⟩ rfl (by simp [Value.category]) (by simp [lg_sl, Value.category]) (zt_rcv zc_0) (zt_dm (by decide) (S_C_needRange hca1)) ?_
    refine zt_aload_n zy_155 (show q_ins q_k155 9 = some (.aload_n 0, 0, 0) from rfl) (v := 0) rfl ?_
    refine zt_getR zy_155 (show q_ins q_k155 10 = some (.getfield 41, 10, 5) from rfl) (r := 6) zk_0_5 ?_
    obtain ⟨a3, s4, hca3, h⟩ := zt_bdE h
    refine zt_callV (d := 3) zy_155 (show q_ins q_k155 13 = some (.invokevirtual 178, 64, 0) from rfl) zy_64 (by decide) ⟨zq_lt (by decide), by decide⟩ rfl (by simp [Value.category]) (by simp [lg_sl, Value.category]) (zt_rcv zc_6) (zt_dm (by decide) (S_Tb_isOver (by decide) hca3)) ?_
    obtain ⟨hg, h⟩ := zt_ckE h
    refine zt_if_ne zy_155 (show q_ins q_k155 16 = some (.ifCond .ne 6, 22, 0) from rfl) (hg) (fun hc => ?_) (fun hc => ?_)
    · rw [if_pos hc] at h
      refine zt_bipush zy_155 (show q_ins q_k155 19 = some (.bipush (-2), 0, 0) from rfl) (by decide) ?_
      cases h
      exact zt_iret zy_155 (show q_ins q_k155 21 = some (.ireturn, 0, 0) from rfl)
    · rw [if_neg hc] at h
      refine zt_aload_n zy_155 (show q_ins q_k155 22 = some (.aload_n 0, 0, 0) from rfl) (v := 0) rfl ?_
      refine zt_getR zy_155 (show q_ins q_k155 23 = some (.getfield 48, 10, 6) from rfl) (r := 16) zk_0_6 ?_
      refine zt_aload_n zy_155 (show q_ins q_k155 26 = some (.aload_n 0, 0, 0) from rfl) (v := 0) rfl ?_
      refine zt_getR zy_155 (show q_ins q_k155 27 = some (.getfield 41, 10, 5) from rfl) (r := 6) zk_0_5 ?_
      obtain ⟨a5, s6, hca5, h⟩ := zt_bdE h
      refine zt_callV (d := 3) zy_155 (show q_ins q_k155 30 = some (.invokevirtual 308, 8, 1) from rfl) zy_8 (by decide) ⟨zq_lt (by decide), by decide⟩ rfl (by simp [Value.category]) (by simp [lg_sl, Value.category]) (zt_rcv zc_16) (zt_dm (by decide) (S_Hi_keep (by decide) hca5)) ?_
      refine zt_aload_n zy_155 (show q_ins q_k155 33 = some (.aload_n 0, 0, 0) from rfl) (v := 0) rfl ?_
      refine zt_getR zy_155 (show q_ins q_k155 34 = some (.getfield 32, 10, 4) from rfl) (r := 4) zk_0_4 ?_
      refine zt_iload_n zy_155 (show q_ins q_k155 37 = some (.iload_n 1, 0, 0) from rfl) (v := Int32.ofInt v1) rfl ?_
      refine zt_aload_n zy_155 (show q_ins q_k155 38 = some (.aload_n 0, 0, 0) from rfl) (v := 0) rfl ?_
      refine zt_getR zy_155 (show q_ins q_k155 39 = some (.getfield 25, 10, 3) from rfl) (r := 3) zk_0_3 ?_
      obtain ⟨a7, s8, hca7, h⟩ := zt_bdE h
      refine zt_callV (d := 3) zy_155 (show q_ins q_k155 42 = some (.invokevirtual 89, 30, 0) from rfl) zy_30 (by decide) ⟨zq_lt (by decide), by decide⟩ rfl (by simp [Value.category]) (by simp [lg_sl, Value.category]) (zt_rcv zc_3) (zt_dm (by decide) (S_Su_cardCount (by decide) hca7)) ?_
      obtain ⟨a9, s10, hca9, h⟩ := zt_bdE h
      refine zt_callV (d := 3) zy_155 (show q_ins q_k155 45 = some (.invokevirtual 93, 12, 2) from rfl) zy_12 (by decide) ⟨zq_lt (by decide), by decide⟩ rfl (by simp [Value.category]) (by simp [lg_sl, Value.category]) (zt_rcv zc_4) (zt_dm (by decide) (S_Pk_mix hca9)) ?_
      refine zt_aload_n zy_155 (show q_ins q_k155 48 = some (.aload_n 0, 0, 0) from rfl) (v := 0) rfl ?_
      refine zt_getR zy_155 (show q_ins q_k155 49 = some (.getfield 41, 10, 5) from rfl) (r := 6) zk_0_5 ?_
      obtain ⟨a11, s12, hca11, h⟩ := zt_bdE h
      refine zt_callV (d := 3) zy_155 (show q_ins q_k155 52 = some (.invokevirtual 329, 51, 0) from rfl) zy_51 (by decide) ⟨zq_lt (by decide), by decide⟩ rfl (by simp [Value.category]) (by simp [lg_sl, Value.category]) (zt_rcv zc_6) (zt_dm (by decide) (S_Tb_clearHand (by decide) hca11)) ?_
      refine zt_aload_n zy_155 (show q_ins q_k155 55 = some (.aload_n 0, 0, 0) from rfl) (v := 0) rfl ?_
      refine zt_getR zy_155 (show q_ins q_k155 56 = some (.getfield 41, 10, 5) from rfl) (r := 6) zk_0_5 ?_
      refine zt_aload_n zy_155 (show q_ins q_k155 59 = some (.aload_n 0, 0, 0) from rfl) (v := 0) rfl ?_
      refine zt_getR zy_155 (show q_ins q_k155 60 = some (.getfield 25, 10, 3) from rfl) (r := 3) zk_0_3 ?_
      refine zt_aload_n zy_155 (show q_ins q_k155 63 = some (.aload_n 0, 0, 0) from rfl) (v := 0) rfl ?_
      refine zt_getR zy_155 (show q_ins q_k155 64 = some (.getfield 41, 10, 5) from rfl) (r := 6) zk_0_5 ?_
      refine zt_getI zy_155 (show q_ins q_k155 67 = some (.getfield 332, 6, 15) from rfl) (j := 15) zk_6_15 rfl ?_
      obtain ⟨a13, s14, hca13, h⟩ := zt_bdE h
      refine zt_callV (d := 3) zy_155 (show q_ins q_k155 70 = some (.invokevirtual 335, 37, 1) from rfl) zy_37 (by decide) ⟨zq_lt (by decide), by decide⟩ rfl (by simp [Value.category]) (by simp [lg_sl, Value.category]) (zt_rcv zc_3) (zt_dm (by decide) (S_Su_behind (by decide) hca13)) ?_
      obtain ⟨s15, hs15, h⟩ := zt_letE h
      refine zt_putI zy_155 (show q_ins q_k155 73 = some (.putfield 332, 6, 15) from rfl) (j := 15) zk_6_15 rfl rfl rfl ?_
      rw [← hs15]
      refine zt_aload_n zy_155 (show q_ins q_k155 76 = some (.aload_n 0, 0, 0) from rfl) (v := 0) rfl ?_
      refine zt_getR zy_155 (show q_ins q_k155 77 = some (.getfield 41, 10, 5) from rfl) (r := 6) zk_0_5 ?_
      refine zt_aload_n zy_155 (show q_ins q_k155 80 = some (.aload_n 0, 0, 0) from rfl) (v := 0) rfl ?_
      refine zt_getR zy_155 (show q_ins q_k155 81 = some (.getfield 32, 10, 4) from rfl) (r := 4) zk_0_4 ?_
      obtain ⟨a16, s17, hca16, h⟩ := zt_bdE h
      refine zt_callV (d := 3) zy_155 (show q_ins q_k155 84 = some (.invokevirtual 97, 55, 1) from rfl) zy_55 (by decide) ⟨zq_lt (by decide), by decide⟩ rfl (by simp [Value.category]) (by simp [lg_sl, Value.category]) (zt_rcv zc_6) (zt_dm (by decide) (S_Tb_handOutInTurn (by decide) hca16)) ?_
      refine zt_aload_n zy_155 (show q_ins q_k155 87 = some (.aload_n 0, 0, 0) from rfl) (v := 0) rfl ?_
      refine zt_getR zy_155 (show q_ins q_k155 88 = some (.getfield 41, 10, 5) from rfl) (r := 6) zk_0_5 ?_
      obtain ⟨a18, s19, hca18, h⟩ := zt_bdE h
      refine zt_callV (d := 3) zy_155 (show q_ins q_k155 91 = some (.invokevirtual 101, 53, 0) from rfl) zy_53 (by decide) ⟨zq_lt (by decide), by decide⟩ rfl (by simp [Value.category]) (by simp [lg_sl, Value.category]) (zt_rcv zc_6) (zt_dm (by decide) (S_Tb_openHand (by decide) hca18)) ?_
      refine zt_aload_n zy_155 (show q_ins q_k155 94 = some (.aload_n 0, 0, 0) from rfl) (v := 0) rfl ?_
      refine zt_getR zy_155 (show q_ins q_k155 95 = some (.getfield 41, 10, 5) from rfl) (r := 6) zk_0_5 ?_
      refine zt_getR zy_155 (show q_ins q_k155 98 = some (.getfield 157, 6, 1) from rfl) (r := 7) zk_6_1 ?_
      refine zt_getI zy_155 (show q_ins q_k155 101 = some (.getfield 185, 9, 0) from rfl) (j := 0) zk_7_0 rfl ?_
      cases h
      exact zt_iret zy_155 (show q_ins q_k155 104 = some (.ireturn, 0, 0) from rfl)
  · cases h
    exact zt_callVX (d := 3) zy_155 (show q_ins q_k155 6 = some (.invokevirtual 317, 169, 3) from rfl) zy_169 (by decide) ⟨zq_lt (by decide), by decide⟩ rfl (by simp [Value.category]) (by simp [lg_sl, Value.category]) (zt_rcv zc_0) (zt_dm (by decide) (S_C_needRange hca1))
theorem S_C_setTrump {X : q_X}   {v1 : Int} {σ : zt_S} {o : ((Int ⊕ Nat) × zt_S)} (h : F_C_setTrump  v1 σ = some o) : zt_Ex X 3 156 0 (lv_args 0 [.ref 0, .int (Int32.ofInt v1)]) [] (zt_M T σ) (zx_I T o) := by
  unfold F_C_setTrump at h
  refine zt_aload_n zy_156 (show q_ins q_k156 0 = some (.aload_n 0, 0, 0) from rfl) (v := 0) rfl ?_
  refine zt_iload_n zy_156 (show q_ins q_k156 1 = some (.iload_n 1, 0, 0) from rfl) (v := Int32.ofInt v1) rfl ?_
  refine zt_iconst zy_156 (show q_ins q_k156 2 = some (.iconst (-1), 0, 0) from rfl) ?_
  refine zt_iconst zy_156 (show q_ins q_k156 3 = some (.iconst 3, 0, 0) from rfl) ?_
  rcases zt_bxE h with ⟨a1, s2, hca1, h⟩ | ⟨E, s2, hca1, h⟩
  · refine zt_callV (d := 2) zy_156 (show q_ins q_k156 4 = some (.invokevirtual 317, 169, 3) from rfl) zy_169 (by decide) ⟨zq_lt (by decide), by decide⟩ rfl (by simp [Value.category]) (by simp [lg_sl, Value.category]) (zt_rcv zc_0) (zt_dm (by decide) (S_C_needRange hca1)) ?_
    refine zt_aload_n zy_156 (show q_ins q_k156 7 = some (.aload_n 0, 0, 0) from rfl) (v := 0) rfl ?_
    refine zt_getR zy_156 (show q_ins q_k156 8 = some (.getfield 41, 10, 5) from rfl) (r := 6) zk_0_5 ?_
    refine zt_getI zy_156 (show q_ins q_k156 11 = some (.getfield 191, 6, 16) from rfl) (j := 16) zk_6_16 rfl ?_
    obtain ⟨hg, h⟩ := zt_ckE h
    refine zt_if_le zy_156 (show q_ins q_k156 14 = some (.ifCond .le 6, 20, 0) from rfl) (hg) (fun hc => ?_) (fun hc => ?_)
    · rw [if_pos hc] at h
      refine zt_bipush zy_156 (show q_ins q_k156 17 = some (.bipush (-2), 0, 0) from rfl) (by decide) ?_
      cases h
      exact zt_iret zy_156 (show q_ins q_k156 19 = some (.ireturn, 0, 0) from rfl)
    · rw [if_neg hc] at h
      refine zt_aload_n zy_156 (show q_ins q_k156 20 = some (.aload_n 0, 0, 0) from rfl) (v := 0) rfl ?_
      refine zt_getR zy_156 (show q_ins q_k156 21 = some (.getfield 48, 10, 6) from rfl) (r := 16) zk_0_6 ?_
      refine zt_aload_n zy_156 (show q_ins q_k156 24 = some (.aload_n 0, 0, 0) from rfl) (v := 0) rfl ?_
      refine zt_getR zy_156 (show q_ins q_k156 25 = some (.getfield 41, 10, 5) from rfl) (r := 6) zk_0_5 ?_
      obtain ⟨a3, s4, hca3, h⟩ := zt_bdE h
      refine zt_callV (d := 2) zy_156 (show q_ins q_k156 28 = some (.invokevirtual 308, 8, 1) from rfl) zy_8 (by decide) ⟨zq_lt (by decide), by decide⟩ rfl (by simp [Value.category]) (by simp [lg_sl, Value.category]) (zt_rcv zc_16) (zt_dm (by decide) (S_Hi_keep (by decide) hca3)) ?_
      refine zt_aload_n zy_156 (show q_ins q_k156 31 = some (.aload_n 0, 0, 0) from rfl) (v := 0) rfl ?_
      refine zt_getR zy_156 (show q_ins q_k156 32 = some (.getfield 41, 10, 5) from rfl) (r := 6) zk_0_5 ?_
      refine zt_getI zy_156 (show q_ins q_k156 35 = some (.getfield 338, 6, 14) from rfl) (j := 14) zk_6_14 rfl ?_
      refine zt_istore_n zy_156 (show q_ins q_k156 38 = some (.istore_n 2, 0, 0) from rfl) (by decide) ?_
      refine zt_aload_n zy_156 (show q_ins q_k156 39 = some (.aload_n 0, 0, 0) from rfl) (v := 0) rfl ?_
      refine zt_getR zy_156 (show q_ins q_k156 40 = some (.getfield 41, 10, 5) from rfl) (r := 6) zk_0_5 ?_
      refine zt_iload_n zy_156 (show q_ins q_k156 43 = some (.iload_n 1, 0, 0) from rfl) (v := Int32.ofInt v1) rfl ?_
      obtain ⟨s5, hs5, h⟩ := zt_letE h
      refine zt_putI zy_156 (show q_ins q_k156 44 = some (.putfield 338, 6, 14) from rfl) (j := 14) zk_6_14 rfl rfl rfl ?_
      rw [← hs5]
      refine zt_aload_n zy_156 (show q_ins q_k156 47 = some (.aload_n 0, 0, 0) from rfl) (v := 0) rfl ?_
      refine zt_getR zy_156 (show q_ins q_k156 48 = some (.getfield 41, 10, 5) from rfl) (r := 6) zk_0_5 ?_
      obtain ⟨a6, s7, hca6, h⟩ := zt_bdE h
      refine zt_callV (d := 2) zy_156 (show q_ins q_k156 51 = some (.invokevirtual 341, 54, 0) from rfl) zy_54 (by decide) ⟨zq_lt (by decide), by decide⟩ rfl (by simp [Value.category]) (by simp [lg_sl, Value.category]) (zt_rcv zc_6) (zt_dm (by decide) (S_Tb_lightTrump (by decide) hca6)) ?_
      refine zt_iload_n zy_156 (show q_ins q_k156 54 = some (.iload_n 2, 0, 0) from rfl) (v := Int32.ofInt (s4.1 6 14)) rfl ?_
      refine zt_iconst zy_156 (show q_ins q_k156 55 = some (.iconst 1, 0, 0) from rfl) ?_
      refine zt_iadd zy_156 (show q_ins q_k156 56 = some (.iadd, 0, 0) from rfl) ?_
      cases h
      exact zt_iret zy_156 (show q_ins q_k156 57 = some (.ireturn, 0, 0) from rfl)
  · cases h
    exact zt_callVX (d := 2) zy_156 (show q_ins q_k156 4 = some (.invokevirtual 317, 169, 3) from rfl) zy_169 (by decide) ⟨zq_lt (by decide), by decide⟩ rfl (by simp [Value.category]) (by simp [lg_sl, Value.category]) (zt_rcv zc_0) (zt_dm (by decide) (S_C_needRange hca1))
theorem S_C_setRule {X : q_X}   {v1 : Int} {σ : zt_S} {o : ((Int ⊕ Nat) × zt_S)} (h : F_C_setRule  v1 σ = some o) : zt_Ex X 3 157 0 (lv_args 0 [.ref 0, .int (Int32.ofInt v1)]) [] (zt_M T σ) (zx_I T o) := by
  unfold F_C_setRule at h
  refine zt_aload_n zy_157 (show q_ins q_k157 0 = some (.aload_n 0, 0, 0) from rfl) (v := 0) rfl ?_
  refine zt_iload_n zy_157 (show q_ins q_k157 1 = some (.iload_n 1, 0, 0) from rfl) (v := Int32.ofInt v1) rfl ?_
  refine zt_iconst zy_157 (show q_ins q_k157 2 = some (.iconst 0, 0, 0) from rfl) ?_
  refine zt_iconst zy_157 (show q_ins q_k157 3 = some (.iconst 3, 0, 0) from rfl) ?_
  rcases zt_bxE h with ⟨a1, s2, hca1, h⟩ | ⟨E, s2, hca1, h⟩
  · refine zt_callV (d := 2) zy_157 (show q_ins q_k157 4 = some (.invokevirtual 317, 169, 3) from rfl) zy_169 (by decide) ⟨zq_lt (by decide), by decide⟩ rfl (by simp [Value.category]) (by simp [lg_sl, Value.category]) (zt_rcv zc_0) (zt_dm (by decide) (S_C_needRange hca1)) ?_
    refine zt_aload_n zy_157 (show q_ins q_k157 7 = some (.aload_n 0, 0, 0) from rfl) (v := 0) rfl ?_
    refine zt_getR zy_157 (show q_ins q_k157 8 = some (.getfield 41, 10, 5) from rfl) (r := 6) zk_0_5 ?_
    refine zt_getR zy_157 (show q_ins q_k157 11 = some (.getfield 157, 6, 1) from rfl) (r := 7) zk_6_1 ?_
    refine zt_getI zy_157 (show q_ins q_k157 14 = some (.getfield 314, 9, 2) from rfl) (j := 2) zk_7_2 rfl ?_
    obtain ⟨hg, h⟩ := zt_ckE h
    refine zt_if_le zy_157 (show q_ins q_k157 17 = some (.ifCond .le 6, 23, 0) from rfl) (hg) (fun hc => ?_) (fun hc => ?_)
    · rw [if_pos hc] at h
      refine zt_bipush zy_157 (show q_ins q_k157 20 = some (.bipush (-2), 0, 0) from rfl) (by decide) ?_
      cases h
      exact zt_iret zy_157 (show q_ins q_k157 22 = some (.ireturn, 0, 0) from rfl)
    · rw [if_neg hc] at h
      refine zt_aload_n zy_157 (show q_ins q_k157 23 = some (.aload_n 0, 0, 0) from rfl) (v := 0) rfl ?_
      refine zt_getR zy_157 (show q_ins q_k157 24 = some (.getfield 48, 10, 6) from rfl) (r := 16) zk_0_6 ?_
      refine zt_aload_n zy_157 (show q_ins q_k157 27 = some (.aload_n 0, 0, 0) from rfl) (v := 0) rfl ?_
      refine zt_getR zy_157 (show q_ins q_k157 28 = some (.getfield 41, 10, 5) from rfl) (r := 6) zk_0_5 ?_
      obtain ⟨a3, s4, hca3, h⟩ := zt_bdE h
      refine zt_callV (d := 2) zy_157 (show q_ins q_k157 31 = some (.invokevirtual 308, 8, 1) from rfl) zy_8 (by decide) ⟨zq_lt (by decide), by decide⟩ rfl (by simp [Value.category]) (by simp [lg_sl, Value.category]) (zt_rcv zc_16) (zt_dm (by decide) (S_Hi_keep (by decide) hca3)) ?_
      refine zt_aload_n zy_157 (show q_ins q_k157 34 = some (.aload_n 0, 0, 0) from rfl) (v := 0) rfl ?_
      refine zt_getR zy_157 (show q_ins q_k157 35 = some (.getfield 41, 10, 5) from rfl) (r := 6) zk_0_5 ?_
      refine zt_getI zy_157 (show q_ins q_k157 38 = some (.getfield 154, 6, 11) from rfl) (j := 11) zk_6_11 rfl ?_
      refine zt_istore_n zy_157 (show q_ins q_k157 41 = some (.istore_n 2, 0, 0) from rfl) (by decide) ?_
      refine zt_aload_n zy_157 (show q_ins q_k157 42 = some (.aload_n 0, 0, 0) from rfl) (v := 0) rfl ?_
      refine zt_getR zy_157 (show q_ins q_k157 43 = some (.getfield 41, 10, 5) from rfl) (r := 6) zk_0_5 ?_
      refine zt_iload_n zy_157 (show q_ins q_k157 46 = some (.iload_n 1, 0, 0) from rfl) (v := Int32.ofInt v1) rfl ?_
      obtain ⟨s5, hs5, h⟩ := zt_letE h
      refine zt_putI zy_157 (show q_ins q_k157 47 = some (.putfield 154, 6, 11) from rfl) (j := 11) zk_6_11 rfl rfl rfl ?_
      rw [← hs5]
      refine zt_iload_n zy_157 (show q_ins q_k157 50 = some (.iload_n 2, 0, 0) from rfl) (v := Int32.ofInt (s4.1 6 11)) rfl ?_
      cases h
      exact zt_iret zy_157 (show q_ins q_k157 51 = some (.ireturn, 0, 0) from rfl)
  · cases h
    exact zt_callVX (d := 2) zy_157 (show q_ins q_k157 4 = some (.invokevirtual 317, 169, 3) from rfl) zy_169 (by decide) ⟨zq_lt (by decide), by decide⟩ rfl (by simp [Value.category]) (by simp [lg_sl, Value.category]) (zt_rcv zc_0) (zt_dm (by decide) (S_C_needRange hca1))
theorem S_C_setFade {X : q_X}   {v1 : Int} {σ : zt_S} {o : ((Int ⊕ Nat) × zt_S)} (h : F_C_setFade  v1 σ = some o) : zt_Ex X 3 158 0 (lv_args 0 [.ref 0, .int (Int32.ofInt v1)]) [] (zt_M T σ) (zx_I T o) := by
  unfold F_C_setFade at h
  refine zt_aload_n zy_158 (show q_ins q_k158 0 = some (.aload_n 0, 0, 0) from rfl) (v := 0) rfl ?_
  refine zt_iload_n zy_158 (show q_ins q_k158 1 = some (.iload_n 1, 0, 0) from rfl) (v := Int32.ofInt v1) rfl ?_
  refine zt_iconst zy_158 (show q_ins q_k158 2 = some (.iconst 0, 0, 0) from rfl) ?_
  refine zt_bipush zy_158 (show q_ins q_k158 3 = some (.bipush 9, 0, 0) from rfl) (by decide) ?_
  rcases zt_bxE h with ⟨a1, s2, hca1, h⟩ | ⟨E, s2, hca1, h⟩
  · refine zt_callV (d := 2) zy_158 (show q_ins q_k158 5 = some (.invokevirtual 317, 169, 3) from rfl) zy_169 (by decide) ⟨zq_lt (by decide), by decide⟩ rfl (by simp [Value.category]) (by simp [lg_sl, Value.category]) (zt_rcv zc_0) (zt_dm (by decide) (S_C_needRange hca1)) ?_
    refine zt_aload_n zy_158 (show q_ins q_k158 8 = some (.aload_n 0, 0, 0) from rfl) (v := 0) rfl ?_
    refine zt_getR zy_158 (show q_ins q_k158 9 = some (.getfield 48, 10, 6) from rfl) (r := 16) zk_0_6 ?_
    refine zt_aload_n zy_158 (show q_ins q_k158 12 = some (.aload_n 0, 0, 0) from rfl) (v := 0) rfl ?_
    refine zt_getR zy_158 (show q_ins q_k158 13 = some (.getfield 41, 10, 5) from rfl) (r := 6) zk_0_5 ?_
    obtain ⟨a3, s4, hca3, h⟩ := zt_bdE h
    refine zt_callV (d := 2) zy_158 (show q_ins q_k158 16 = some (.invokevirtual 308, 8, 1) from rfl) zy_8 (by decide) ⟨zq_lt (by decide), by decide⟩ rfl (by simp [Value.category]) (by simp [lg_sl, Value.category]) (zt_rcv zc_16) (zt_dm (by decide) (S_Hi_keep (by decide) hca3)) ?_
    refine zt_aload_n zy_158 (show q_ins q_k158 19 = some (.aload_n 0, 0, 0) from rfl) (v := 0) rfl ?_
    refine zt_getR zy_158 (show q_ins q_k158 20 = some (.getfield 41, 10, 5) from rfl) (r := 6) zk_0_5 ?_
    refine zt_getI zy_158 (show q_ins q_k158 23 = some (.getfield 172, 6, 12) from rfl) (j := 12) zk_6_12 rfl ?_
    refine zt_istore_n zy_158 (show q_ins q_k158 26 = some (.istore_n 2, 0, 0) from rfl) (by decide) ?_
    refine zt_aload_n zy_158 (show q_ins q_k158 27 = some (.aload_n 0, 0, 0) from rfl) (v := 0) rfl ?_
    refine zt_getR zy_158 (show q_ins q_k158 28 = some (.getfield 41, 10, 5) from rfl) (r := 6) zk_0_5 ?_
    refine zt_iload_n zy_158 (show q_ins q_k158 31 = some (.iload_n 1, 0, 0) from rfl) (v := Int32.ofInt v1) rfl ?_
    obtain ⟨s5, hs5, h⟩ := zt_letE h
    refine zt_putI zy_158 (show q_ins q_k158 32 = some (.putfield 172, 6, 12) from rfl) (j := 12) zk_6_12 rfl rfl rfl ?_
    rw [← hs5]
    refine zt_iload_n zy_158 (show q_ins q_k158 35 = some (.iload_n 2, 0, 0) from rfl) (v := Int32.ofInt (s4.1 6 12)) rfl ?_
    cases h
    exact zt_iret zy_158 (show q_ins q_k158 36 = some (.ireturn, 0, 0) from rfl)
  · cases h
    exact zt_callVX (d := 2) zy_158 (show q_ins q_k158 5 = some (.invokevirtual 317, 169, 3) from rfl) zy_169 (by decide) ⟨zq_lt (by decide), by decide⟩ rfl (by simp [Value.category]) (by simp [lg_sl, Value.category]) (zt_rcv zc_0) (zt_dm (by decide) (S_C_needRange hca1))
theorem S_C_setRevive_36 {X : q_X}   : ∀ (x0 : Int) (σ : zt_S) (o : (Int × zt_S)), F_C_setRevive_36  x0 σ = some o → zt_Ex X 3 159 36 [] [.int (Int32.ofInt x0)] (zt_M T σ) (zo_I T o) := by
  intro x0 σ o  h
  unfold F_C_setRevive_36 at h
  cases h
  exact zt_iret zy_159 (show q_ins q_k159 36 = some (.ireturn, 0, 0) from rfl)
theorem S_C_setRevive {X : q_X}   {v1 : Int} {σ : zt_S} {o : (Int × zt_S)} (h : F_C_setRevive  v1 σ = some o) : zt_Ex X 3 159 0 (lv_args 0 [.ref 0, .int (Int32.ofInt v1)]) [] (zt_M T σ) (zo_I T o) := by
  unfold F_C_setRevive at h
  refine zt_aload_n zy_159 (show q_ins q_k159 0 = some (.aload_n 0, 0, 0) from rfl) (v := 0) rfl ?_
  refine zt_getR zy_159 (show q_ins q_k159 1 = some (.getfield 48, 10, 6) from rfl) (r := 16) zk_0_6 ?_
  refine zt_aload_n zy_159 (show q_ins q_k159 4 = some (.aload_n 0, 0, 0) from rfl) (v := 0) rfl ?_
  refine zt_getR zy_159 (show q_ins q_k159 5 = some (.getfield 41, 10, 5) from rfl) (r := 6) zk_0_5 ?_
  obtain ⟨a1, s2, hca1, h⟩ := zt_bdE h
  refine zt_callV (d := 2) zy_159 (show q_ins q_k159 8 = some (.invokevirtual 308, 8, 1) from rfl) zy_8 (by decide) ⟨zq_lt (by decide), by decide⟩ rfl (by simp [Value.category]) (by simp [lg_sl, Value.category]) (zt_rcv zc_16) (zt_dm (by decide) (S_Hi_keep (by decide) hca1)) ?_
  refine zt_aload_n zy_159 (show q_ins q_k159 11 = some (.aload_n 0, 0, 0) from rfl) (v := 0) rfl ?_
  refine zt_getR zy_159 (show q_ins q_k159 12 = some (.getfield 41, 10, 5) from rfl) (r := 6) zk_0_5 ?_
  refine zt_getI zy_159 (show q_ins q_k159 15 = some (.getfield 175, 6, 13) from rfl) (j := 13) zk_6_13 rfl ?_
  refine zt_istore_n zy_159 (show q_ins q_k159 18 = some (.istore_n 2, 0, 0) from rfl) (by decide) ?_
  refine zt_aload_n zy_159 (show q_ins q_k159 19 = some (.aload_n 0, 0, 0) from rfl) (v := 0) rfl ?_
  refine zt_getR zy_159 (show q_ins q_k159 20 = some (.getfield 41, 10, 5) from rfl) (r := 6) zk_0_5 ?_
  refine zt_iload_n zy_159 (show q_ins q_k159 23 = some (.iload_n 1, 0, 0) from rfl) (v := Int32.ofInt v1) rfl ?_
  obtain ⟨hg, h⟩ := zt_ckE h
  obtain ⟨s3, hs3, h⟩ := zt_letE h
  refine zt_putZ zy_159 (show q_ins q_k159 24 = some (.putfield 175, 6, 13) from rfl) (j := 13) zk_6_13 rfl rfl hg rfl ?_
  rw [← hs3]
  refine zt_iload_n zy_159 (show q_ins q_k159 27 = some (.iload_n 2, 0, 0) from rfl) (v := Int32.ofInt (s2.1 6 13)) rfl ?_
  obtain ⟨hg, h⟩ := zt_ckE h
  refine zt_if_eq zy_159 (show q_ins q_k159 28 = some (.ifCond .eq 7, 35, 0) from rfl) (hg) (fun hc => ?_) (fun hc => ?_)
  · rw [if_pos hc] at h
    refine zt_iconst zy_159 (show q_ins q_k159 35 = some (.iconst 0, 0, 0) from rfl) ?_
    exact zt_wk (zt_cov_nil) (S_C_setRevive_36  _ _ _ h)
  · rw [if_neg hc] at h
    refine zt_iconst zy_159 (show q_ins q_k159 31 = some (.iconst 1, 0, 0) from rfl) ?_
    refine zt_goto zy_159 (show q_ins q_k159 32 = some (.goto 4, 36, 0) from rfl) ?_
    exact zt_wk (zt_cov_nil) (S_C_setRevive_36  _ _ _ h)
theorem S_C_undo {X : q_X}    {σ : zt_S} {o : (Int × zt_S)} (h : F_C_undo   σ = some o) : zt_Ex X 3 163 0 (lv_args 0 [.ref 0]) [] (zt_M T σ) (zo_I T o) := by
  unfold F_C_undo at h
  refine zt_aload_n zy_163 (show q_ins q_k163 0 = some (.aload_n 0, 0, 0) from rfl) (v := 0) rfl ?_
  refine zt_getR zy_163 (show q_ins q_k163 1 = some (.getfield 48, 10, 6) from rfl) (r := 16) zk_0_6 ?_
  refine zt_getI zy_163 (show q_ins q_k163 4 = some (.getfield 351, 1, 2) from rfl) (j := 2) zk_16_2 rfl ?_
  obtain ⟨hg, h⟩ := zt_ckE h
  refine zt_if_gt zy_163 (show q_ins q_k163 7 = some (.ifCond .gt 5, 12, 0) from rfl) (hg) (fun hc => ?_) (fun hc => ?_)
  · rw [if_pos hc] at h
    refine zt_aload_n zy_163 (show q_ins q_k163 12 = some (.aload_n 0, 0, 0) from rfl) (v := 0) rfl ?_
    refine zt_getR zy_163 (show q_ins q_k163 13 = some (.getfield 48, 10, 6) from rfl) (r := 16) zk_0_6 ?_
    refine zt_aload_n zy_163 (show q_ins q_k163 16 = some (.aload_n 0, 0, 0) from rfl) (v := 0) rfl ?_
    refine zt_getR zy_163 (show q_ins q_k163 17 = some (.getfield 41, 10, 5) from rfl) (r := 6) zk_0_5 ?_
    obtain ⟨a1, s2, hca1, h⟩ := zt_bdE h
    refine zt_callV (d := 2) zy_163 (show q_ins q_k163 20 = some (.invokevirtual 354, 9, 1) from rfl) zy_9 (by decide) ⟨zq_lt (by decide), by decide⟩ rfl (by simp [Value.category]) (by simp [lg_sl, Value.category]) (zt_rcv zc_16) (zt_dm (by decide) (S_Hi_takeBack (by decide) hca1)) ?_
    refine zt_aload_n zy_163 (show q_ins q_k163 23 = some (.aload_n 0, 0, 0) from rfl) (v := 0) rfl ?_
    refine zt_getR zy_163 (show q_ins q_k163 24 = some (.getfield 48, 10, 6) from rfl) (r := 16) zk_0_6 ?_
    refine zt_getI zy_163 (show q_ins q_k163 27 = some (.getfield 351, 1, 2) from rfl) (j := 2) zk_16_2 rfl ?_
    cases h
    exact zt_iret zy_163 (show q_ins q_k163 30 = some (.ireturn, 0, 0) from rfl)
  · rw [if_neg hc] at h
    refine zt_iconst zy_163 (show q_ins q_k163 10 = some (.iconst (-1), 0, 0) from rfl) ?_
    cases h
    exact zt_iret zy_163 (show q_ins q_k163 11 = some (.ireturn, 0, 0) from rfl)
end TT
