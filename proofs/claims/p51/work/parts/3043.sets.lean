/-! setFade, setRule, setRevive, tell, setTrump -/
section ST
variable {σ : zt_S} {n : Int}
theorem Inv.u5 (h : Inv n σ) {τ : zt_S} (e : ∀ c j, 163 ≤ c → τ.1 c j = σ.1 c j) : (0 ≤ τ.1 163 5 ∧ τ.1 163 5 ≤ 10) ∧ τ.1 164 = σ.1 164 := by
  have := h.2.2.1.1
  rw [e 163 5 (by decide)]
  exact ⟨this, funext fun j => e 164 j (by decide)⟩
theorem RI.exr {w : Int → Int} {j v : Int} (h : RI w) (hj : j = 3 ∧ 0 ≤ v ∧ v ≤ 3 ∨ j = 6 ∧ 0 ≤ v ∧ v ≤ 9 ∨ j = 7 ∧ 0 ≤ v ∧ v ≤ 1 ∨ (16 ≤ j ∧ j < 20) ∧ 0 ≤ v ∧ v ≤ 13) : RI (ru w j v) := by
  have a := h.n
  refine h.ex (ru_ex (by omega)) ?_ ?_ (fun p h0 h1 => ?_) (fun p h0 h1 => ?_) (fun p h0 h1 => ?_)
  · unfold ru
    refine ⟨?_, ?_, ?_, ?_, ?_, ?_⟩ <;> split <;> omega
  · rw [ru_o (by omega)]
    exact h.2.2.1
  · have := h.2.2.2.1 p h0 h1
    unfold ru
    split <;> omega
  · rw [ru_o (by omega)]
    exact h.2.2.2.2.1 p h0 h1
  · rw [ru_o (by omega)]
    exact h.2.2.2.2.2.1 p h0 h1
theorem RB.exr {w : Int → Int} {j v : Int} (h : RB n w) (hj : j < 14 ∨ (14 < j ∧ j < 20)) : RB (n + 1) (ru w j v) := by
  refine RB.up (n := n) ⟨?_, fun p h0 h1 => ?_⟩ (by omega)
  · rw [ru_o (by omega)]; exact h.1
  · rw [ru_o (by omega)]; exact h.2 p h0 h1
theorem ru_e0 {w : Int → Int} {j v : Int} (hj : j ≠ 0 ∧ j ≠ 1 ∧ j ≠ 2 ∧ j ≠ 5) : ∀ i, (i = 0 ∨ i = 1 ∨ i = 2 ∨ i = 5) → ru w j v i = w i := fun i hi => ru_o (by omega)
theorem op_setFade {v : Int} (h : Inv n σ) (hi : zt_in v) : OP (n + 1) (F_L_setFade v) (F_M_setFade v) σ := by
  have hc := h.1
  have t := hc.2.1.2.2.2.2.2.2
  by_cases hv : 0 ≤ v ∧ v ≤ 9
  · obtain ⟨s, k1, k2⟩ := ec_keep hc h.2.2.1
    have ts := k2.tb hc h.2.2.1
    have tt := ts.2.2.2.2.2.2
    refine op_done h (σc := zt_up s 6 12 v) (v := σ.1 164 6) (w' := ru (σ.1 164) 6 v) ?_ (k2.kd h.2.2.1 (fun c j hc => up_o (Or.inl (by omega))) (fun c j hc => rfl) rfl (ts.ex hc.1 (ru_ex (by omega)) (fun c j a b d => up_o (Or.inl (by omega))) (fun c j => rfl) (fun p h0 h1 => ?_) (fun i h0 h1 => ru_o (by omega)) ?_)) (fun τ e => ?_) (hc.1.exr (by omega)) (h.2.1.exr (by omega)) (ru_e0 (by omega))
    · unfold F_L_setFade F_C_setFade
      rw [ec_needRange hi (by decide) (by decide), if_pos hv, zt_bxS, k1, zt_bdS, zt_letS, zt_bxS, zt_letS, tt.2.1]
    · rw [up_o (Or.inl (by omega)), ru_o (by omega)]
      exact (ts.2.2.1 p h0 h1).1
    · simp (disch := omega) only [up_s, up_o, ru_s, ru_o]
      exact ⟨tt.1, trivial, tt.2.2⟩
    · obtain ⟨u1, u2⟩ := h.u5 e
      obtain ⟨τ', g1, g2⟩ := em_sets (v := v) (j := 6) u1 (by omega)
      rw [u2] at g1 g2
      refine ⟨τ', ?_, g2⟩
      unfold F_M_setFade F_M_setFade_33
      rw [zt_letS, eb_inI zl_0 zl_9 hi (by decide) (by decide) hv, eb_fails1 (up_s _ _ _ _), zt_ckI zt_in0, if_pos rfl, g1]
      rfl
  · refine op_no h (e := 1) (u := 0) (Or.inl rfl) ?_ ?_
    · unfold F_L_setFade F_C_setFade
      rw [ec_needRange hi (by decide) (by decide), if_neg hv]
      rfl
    · unfold F_M_setFade F_M_setFade_33
      rw [zt_letS, eb_inO zl_0 zl_9 hi (by decide) (by decide) hv, eb_fails0 (Or.inl rfl) (up_s _ _ _ _), zt_ckI (by decide), if_neg (by decide), up_up]
theorem op_setRule {v : Int} (h : Inv n σ) (hi : zt_in v) : OP (n + 1) (F_L_setRule v) (F_M_setRule v) σ := by
  have hc := h.1
  have a := hc.1.n
  have b := hc.1.wpl
  have k2' : σ.1 7 2 = wPl (σ.1 164) := hc.2.1.1.1.2.2.1
  by_cases hv : 0 ≤ v ∧ v ≤ 3
  · by_cases hp : 0 < wPl (σ.1 164)
    · refine AK.op (ak_ok (v := -2) ?_ ?_) h
      · unfold F_L_setRule F_C_setRule
        rw [ec_needRange hi (by decide) (by decide), if_pos hv, zt_bxS, k2', zt_ckI (by unfold zt_in; omega), if_pos hp, zt_bxS, zt_letS]
      · unfold F_M_setRule F_M_setRule_42
        rw [zt_letS, eb_inI zl_0 zl_3 hi (by decide) (by decide) hv, eb_fails1 (up_s _ _ _ _), zt_ckI zt_in0, if_pos rfl, eb_inTrick, up_f (by decide)]
        rw [show (zt_uL σ 184 0 (zt_l (-2))).1 164 = σ.1 164 from rfl, zt_ckI (by unfold zt_in; omega), if_pos hp]
    · obtain ⟨s, k1, k2⟩ := ec_keep hc h.2.2.1
      have ts := k2.tb hc h.2.2.1
      have tt := ts.2.2.2.2.2.2
      refine op_done h (σc := zt_up s 6 11 v) (v := σ.1 164 3) (w' := ru (σ.1 164) 3 v) ?_ (k2.kd h.2.2.1 (fun c j hc => up_o (Or.inl (by omega))) (fun c j hc => rfl) rfl (ts.ex hc.1 (ru_ex (by omega)) (fun c j a b d => up_o (Or.inl (by omega))) (fun c j => rfl) (fun p h0 h1 => ?_) (fun i h0 h1 => ru_o (by omega)) ?_)) (fun τ e => ?_) (hc.1.exr (by omega)) (h.2.1.exr (by omega)) (ru_e0 (by omega))
      · unfold F_L_setRule F_C_setRule
        rw [ec_needRange hi (by decide) (by decide), if_pos hv, zt_bxS, k2', zt_ckI (by unfold zt_in; omega), if_neg hp, k1, zt_bdS, zt_letS, zt_bxS, zt_letS, tt.1]
      · rw [up_o (Or.inl (by omega)), ru_o (by omega)]
        exact (ts.2.2.1 p h0 h1).1
      · simp (disch := omega) only [up_s, up_o, ru_s, ru_o]
        exact ⟨trivial, tt.2⟩
      · obtain ⟨u1, u2⟩ := h.u5 e
        obtain ⟨τ', g1, g2⟩ := em_sets (v := v) (j := 3) u1 (by omega)
        rw [u2] at g1 g2
        refine ⟨τ', ?_, g2⟩
        unfold F_M_setRule F_M_setRule_42
        rw [zt_letS, eb_inI zl_0 zl_3 hi (by decide) (by decide) hv, eb_fails1 (up_s _ _ _ _), zt_ckI zt_in0, if_pos rfl, eb_inTrick, up_f (by decide), u2, zt_ckI (by unfold zt_in; omega), if_neg hp, g1]
        rfl
  · refine op_no h (e := 1) (u := 0) (Or.inl rfl) ?_ ?_
    · unfold F_L_setRule F_C_setRule
      rw [ec_needRange hi (by decide) (by decide), if_neg hv]
      rfl
    · unfold F_M_setRule
      rw [zt_letS, eb_inO zl_0 zl_3 hi (by decide) (by decide) hv, eb_fails0 (Or.inl rfl) (up_s _ _ _ _), zt_ckI (by decide), if_neg (by decide), up_up]
theorem oq_setRevive {v : Int} (h : Inv n σ) (hv : v = 0 ∨ v = 1) : OQ (n + 1) (F_C_setRevive v) (F_M_setRevive v) σ := by
  have hc := h.1
  have a := hc.1.n
  obtain ⟨s, k1, k2⟩ := ec_keep hc h.2.2.1
  have ts := k2.tb hc h.2.2.1
  have tt := ts.2.2.2.2.2.2
  refine oq_done h (σc := zt_up s 6 13 v) (v := σ.1 164 7) (w' := ru (σ.1 164) 7 v) ?_ (k2.kd h.2.2.1 (fun c j hc => up_o (Or.inl (by omega))) (fun c j hc => rfl) rfl (ts.ex hc.1 (ru_ex (by omega)) (fun c j a b d => up_o (Or.inl (by omega))) (fun c j => rfl) (fun p h0 h1 => ?_) (fun i h0 h1 => ru_o (by omega)) ?_)) (fun τ e => ?_) (by unfold zt_in; omega) (hc.1.exr (by omega)) (h.2.1.exr (by omega)) (ru_e0 (by omega))
  · unfold F_C_setRevive F_C_setRevive_36
    rw [k1, zt_bdS, zt_ckI hv, zt_letS, tt.2.2.1, zt_ckI (by unfold zt_in; omega)]
    by_cases h7 : σ.1 164 7 = 0
    · rw [if_pos h7, h7]
    · rw [if_neg h7, show σ.1 164 7 = 1 by omega]
  · rw [up_o (Or.inl (by omega)), ru_o (by omega)]
    exact (ts.2.2.1 p h0 h1).1
  · simp (disch := omega) only [up_s, up_o, ru_s, ru_o]
    exact ⟨tt.1, tt.2.1, trivial, tt.2.2.2⟩
  · obtain ⟨u1, u2⟩ := h.u5 e
    obtain ⟨τ', g1, g2⟩ := em_sets (v := v) (j := 7) u1 (by omega)
    rw [u2] at g1 g2
    refine ⟨τ', ?_, g2⟩
    unfold F_M_setRevive F_M_setRevive_17
    rw [zt_letS, zt_ckI (by unfold zt_in; omega)]
    rcases hv with rfl | rfl
    · rw [if_pos rfl, g1]
      rfl
    · rw [if_neg (by decide), g1]
      rfl
theorem op_tell {p v : Int} (h : Inv n σ) (hi : zt_in p) (hj : zt_in v) : OP (n + 1) (F_L_tell p v) (F_M_tell p v) σ := by
  have hc := h.1
  have a := hc.1.n
  have b := hc.1.pl
  have p12 := hc.1.p12
  have e16 : σ.1 6 16 = σ.1 164 12 := hc.2.1.2.2.2.2.2.2.2.2.2.2.2.1
  have e32 : σ.1 3 2 = σ.1 164 2 := hc.2.2.2.2.1
  by_cases hp : 0 ≤ p ∧ p < σ.1 164 1
  · by_cases hv : 0 ≤ v ∧ v ≤ σ.1 164 2
    · by_cases h12 : 0 < σ.1 164 12
      · refine AK.op (ak_ok (v := -2) ?_ ?_) h
        · unfold F_L_tell F_C_tell
          rw [ec_needPlayer hc hi, if_pos hp, zt_bxS, e32, ec_needRange hj (by decide) (by unfold zt_in; omega), if_pos hv, zt_bxS, e16, zt_ckI (by unfold zt_in; omega), if_pos h12, zt_bxS, zt_letS]
        · have er : (zt_up (zt_uL σ 184 0 (zt_l (-2))) 163 0 0).1 164 = σ.1 164 := up_f (by decide)
          unfold F_M_tell
          rw [zt_letS, eb_player (by rw [er]; exact hc.1) (by rw [er]; exact hp), eb_fails1 (up_s _ _ _ _), zt_ckI zt_in0, if_pos rfl, er, eb_inI zl_0 rfl hj (by decide) (by unfold zt_in; omega) hv, eb_fails1 (up_s _ _ _ _), zt_ckI zt_in0, if_pos rfl, er, zt_ckI (by unfold zt_in; omega), if_pos h12]
      · obtain ⟨s, k1, k2⟩ := ec_keep hc h.2.2.1
        have ts := k2.tb hc h.2.2.1
        have tt := ts.2.2.2.2.2.2
        refine op_done h (σc := zt_up s 9 p v) (v := σ.1 164 (16 + p) + 1) (w' := ru (σ.1 164) (16 + p) v) ?_ (k2.kd h.2.2.1 (fun c j hc => up_o (Or.inl (by omega))) (fun c j hc => rfl) rfl (ts.ex hc.1 (ru_ex (by omega)) (fun c j a b d => up_o (Or.inl (by omega))) (fun c j => rfl) (fun q h0 h1 => ?_) (fun i h0 h1 => ru_o (by omega)) ?_)) (fun τ e => ?_) (hc.1.exr (by omega)) (h.2.1.exr (by omega)) (ru_e0 (by omega))
        · unfold F_L_tell F_C_tell
          rw [ec_needPlayer hc hi, if_pos hp, zt_bxS, e32, ec_needRange hj (by decide) (by unfold zt_in; omega), if_pos hv, zt_bxS, e16, zt_ckI (by unfold zt_in; omega), if_neg h12, k1, zt_bdS, be_at ⟨hp.1, by omega⟩ (by decide), be_set ⟨hp.1, by omega⟩ (by decide), zt_bxS, zt_letS, show s.1 9 p = σ.1 164 (16 + p) from (ts.2.2.1 p hp.1 (by omega)).1]
        · show (zt_up s 9 p v).1 9 q = _
          by_cases hq : q = p
          · rw [hq, up_s, ru_s]
          · rw [up_o (Or.inr hq), ru_o (by omega)]
            exact (ts.2.2.1 q h0 h1).1
        · simp (disch := omega) only [up_o, ru_o]
          exact tt
        · obtain ⟨u1, u2⟩ := h.u5 e
          obtain ⟨s', g1, g2⟩ := em_kept u1
          have er : (zt_up τ 163 0 0).1 164 = σ.1 164 := by rw [up_f (by decide), u2]
          refine ⟨zt_up s' 164 (16 + p) v, ?_, g2.ke (fun c j' a _ => up_o (Or.inl a)) rfl (by rw [row_up, g2.row, u2])⟩
          unfold F_M_tell
          rw [zt_letS, eb_player (by rw [er]; exact hc.1) (by rw [er]; exact hp), eb_fails1 (up_s _ _ _ _), zt_ckI zt_in0, if_pos rfl, er, eb_inI zl_0 rfl hj (by decide) (by unfold zt_in; omega) hv, eb_fails1 (up_s _ _ _ _), zt_ckI zt_in0, if_pos rfl, er, zt_ckI (by unfold zt_in; omega), if_neg h12, g1, zt_bdS, zt_ckI (by omega), zt_ckI (by omega), zt_letS, g2.row, u2]
    · refine op_no h (e := 2) (u := 0) (Or.inr rfl) ?_ ?_
      · unfold F_L_tell F_C_tell
        rw [ec_needPlayer hc hi, if_pos hp, zt_bxS, e32, ec_needRange hj (by decide) (by unfold zt_in; omega), if_neg hv]
        rfl
      · have er : (zt_up (zt_nx σ) 163 0 0).1 164 = σ.1 164 := up_f (by decide)
        unfold F_M_tell F_M_tell_39
        rw [zt_letS, eb_player (by rw [er]; exact hc.1) (by rw [er]; exact hp), eb_fails1 (up_s _ _ _ _), zt_ckI zt_in0, if_pos rfl, er, eb_inO zl_0 rfl hj (by decide) (by unfold zt_in; omega) hv, eb_fails0 (Or.inr rfl) (up_s _ _ _ _), zt_ckI (by decide), if_neg (by decide), up_up]
  · refine op_no h (e := 1) (u := 0) (Or.inl rfl) ?_ ?_
    · unfold F_L_tell F_C_tell
      rw [ec_needPlayer hc hi, if_neg hp]
      rfl
    · have er : (zt_up (zt_nx σ) 163 0 0).1 164 = σ.1 164 := up_f (by decide)
      unfold F_M_tell F_M_tell_39
      rw [zt_letS, eb_noplayer (by rw [er]; exact hc.1) hi (by rw [er]; exact hp), eb_fails0 (Or.inl rfl) (up_s _ _ _ _), zt_ckI (by decide), if_neg (by decide), up_up]
/-! a trump is told ahead of the first card -/
def rLight (w : Int → Int) : Int → Int := ru (ru w 10 (w 4)) 11 (if w 4 = -1 then 0 else w 5)
theorem em_lights {s : zt_S} {c0 : Nat} {v : Int} (h : s.1 c0 4 = v) (hv : zt_in v) : F_M_lights c0 274 s = some ((), zt_up (zt_up s c0 10 v) c0 11 (if v = -1 then 0 else s.1 c0 5)) := by
  unfold F_M_lights F_M_lights_25
  rw [zt_ckI (by omega), zt_ckI (by omega), zt_letS, zt_ckI (by omega), h, up_s, zt_ckI hv]
  by_cases h1 : v = -1
  · rw [if_pos h1, if_pos h1, zt_ckI (by omega), zt_letS]
  · rw [if_neg h1, if_neg h1, zt_ckI (by omega), zt_ckI (by omega), zt_letS, up_o (by omega)]
theorem ec_lightTrump {s : zt_S} {t : Nat} (ho : zt_su t < t ∨ t + 9 < zt_su t) (hv : zt_in (s.1 t 14)) : F_Tb_lightTrump t s = some ((), zt_up (zt_up s (t + 1) 7 (s.1 t 14)) (t + 1) 8 (if s.1 t 14 = -1 then 0 else s.1 (zt_su t) 3)) := by
  have e : (zt_up s (t + 1) 7 (s.1 t 14)).1 t 14 = s.1 t 14 := up_o (by omega)
  unfold F_Tb_lightTrump F_Tb_lightTrump_34
  rw [zt_letS, e, zt_ckI hv]
  by_cases h1 : s.1 t 14 = -1
  · rw [if_pos h1, if_pos h1, zt_letS]
  · rw [if_neg h1, if_neg h1, zt_letS, up_o (by omega)]
/-- a table ahead of the first card -/
theorem TB.zero {σ τ : zt_S} {t : Nat} {w w' : Int → Int} (h : TB σ t w) (hw : RI w) (h12 : w 12 = 0) (e : ∀ i, i ≠ 4 → i ≠ 10 → i ≠ 11 → w' i = w i) (e1 : ∀ c j, t + 2 ≤ c → c ≤ t + 9 → τ.1 c j = σ.1 c j) (e2 : ∀ c j, τ.2.1 c j = σ.2.1 c j) (e3 : ∀ j, 0 ≤ j → j < 7 → τ.1 (t + 1) j = σ.1 (t + 1) j) (e4 : τ.1 (t + 1) 7 = w' 10 ∧ τ.1 (t + 1) 8 = w' 11) (e5 : ∀ j, j ≠ 14 → τ.1 t j = σ.1 t j) (e6 : τ.1 t 14 = w' 4) : TB τ t w' := by
  have a := hw.n
  have b := hw.pl
  have m := hw.m13
  have h13 : w 13 = 0 := by
    rcases Int.lt_or_le 0 (w 13) with z | z
    · have : 1 * w 1 ≤ w 13 * w 1 := Int.mul_le_mul_of_nonneg_right (by omega) (by omega)
      omega
    · omega
  have pl : wPl w = 0 := by unfold wPl; rw [h12, h13]; omega
  have pl' : wPl w' = 0 := by unfold wPl; rw [e 12 (by omega) (by omega) (by omega), e 13 (by omega) (by omega) (by omega), h12, h13]; omega
  have f1 : ∀ c, t + 2 ≤ c → c ≤ t + 9 → τ.1 c = σ.1 c := fun c h1 h2 => funext fun j => e1 c j h1 h2
  obtain ⟨⟨⟨k0, k1, k2, k3⟩, ⟨k4, k5, k6⟩, k7, k8⟩, t1, t2, t3, t4, t5, t6⟩ := h
  rw [if_pos pl] at k4 k5 k6
  refine ⟨⟨⟨?_, ?_, ?_, ?_⟩, ⟨?_, ?_, ?_⟩, e4.1, e4.2⟩, fun p x h0 h1 h2 h3 => ?_, fun p h0 h1 => ?_, fun k h0 h1 => ?_, fun k h0 h1 => ?_, fun c h0 h1 => ?_, ?_⟩
  · rw [e3 0 (by omega) (by omega), e 9 (by omega) (by omega) (by omega)]; exact k0
  · rw [e3 1 (by omega) (by omega), e 9 (by omega) (by omega) (by omega), e 1 (by omega) (by omega) (by omega), pl', ← pl]; exact k1
  · rw [e3 2 (by omega) (by omega), pl', ← pl]; exact k2
  · rw [e3 3 (by omega) (by omega), k3]; unfold wLd; rw [if_pos pl, if_pos pl']
  · rw [e3 4 (by omega) (by omega), if_pos pl']; exact k4
  · rw [e3 5 (by omega) (by omega), if_pos pl']; exact k5
  · rw [e3 6 (by omega) (by omega), if_pos pl']; exact k6
  · rw [e2, t1 p x h0 h1 h2 h3, e 0 (by omega) (by omega) (by omega)]
    unfold wHd
    rw [e _ (by omega) (by omega) (by omega)]
  · have g := t2 p h0 h1
    have tk : wTk w' p = wTk w p := by
      unfold wTk
      rw [e 13 (by omega) (by omega) (by omega), h13]
      rfl
    rw [f1 (t + 3) (by omega) (by omega), f1 (t + 4) (by omega) (by omega), f1 (t + 5) (by omega) (by omega), f1 (t + 6) (by omega) (by omega), tk, lk_lo (fun i i0 i1 => e i (by omega) (by omega) (by omega)) ⟨h0, h1⟩, e _ (by omega) (by omega) (by omega), e _ (by omega) (by omega) (by omega)]
    exact g
  · rw [e 12 (by omega) (by omega) (by omega), h12] at h1
    omega
  · rw [e 13 (by omega) (by omega) (by omega), h13] at h1
    omega
  · rw [e2, t5 c h0 h1]
    unfold wPy
    rw [e 12 (by omega) (by omega) (by omega), h12]
    rfl
  · rw [e5 11 (by omega), e5 12 (by omega), e5 13 (by omega), e5 15 (by omega), e5 16 (by omega), e5 17 (by omega), e5 18 (by omega), e6, e 3 (by omega) (by omega) (by omega), e 6 (by omega) (by omega) (by omega), e 7 (by omega) (by omega) (by omega), e 8 (by omega) (by omega) (by omega), e 12 (by omega) (by omega) (by omega), e 13 (by omega) (by omega) (by omega), e 14 (by omega) (by omega) (by omega)]
    exact ⟨t6.1, t6.2.1, t6.2.2.1, rfl, t6.2.2.2.2⟩
theorem RI.light {w : Int → Int} {v g : Int} (h : RI w) (hv : -1 ≤ v ∧ v ≤ 3) (hg : 0 ≤ g ∧ g ≤ 30) : RI (ru (ru (ru w 4 v) 10 v) 11 g) := by
  have e : ∀ i, i ≠ 4 → i ≠ 10 → i ≠ 11 → ru (ru (ru w 4 v) 10 v) 11 g i = w i := fun i h1 h2 h3 => by rw [ru_o h3, ru_o h2, ru_o h1]
  obtain ⟨w', hw'⟩ : ∃ w', w' = ru (ru (ru w 4 v) 10 v) 11 g := ⟨_, rfl⟩
  have e4 : w' 4 = v ∧ w' 10 = v ∧ w' 11 = g := by
    rw [hw']
    simp (disch := omega) only [ru_o, ru_s]
    exact ⟨trivial, trivial, trivial⟩
  rw [← hw'] at e ⊢
  obtain ⟨a1, a2, a3, a4, a5, a6, a7, a8, a9, a10, a11⟩ := id h
  refine ⟨?_, ?_, ?_, ?_, ?_, ?_, ?_, ?_, ?_, ?_, ?_⟩
  · rw [e 0 (by omega) (by omega) (by omega), e 1 (by omega) (by omega) (by omega), e 2 (by omega) (by omega) (by omega), e 3 (by omega) (by omega) (by omega), e 5 (by omega) (by omega) (by omega), e 6 (by omega) (by omega) (by omega), e 7 (by omega) (by omega) (by omega), e 8 (by omega) (by omega) (by omega), e 9 (by omega) (by omega) (by omega), e4.1, e4.2.1, e4.2.2]
    exact ⟨a1.1, a1.2.1, a1.2.2.1, a1.2.2.2.1, a1.2.2.2.2.1, hv, a1.2.2.2.2.2.2.1, a1.2.2.2.2.2.2.2.1, a1.2.2.2.2.2.2.2.2.1, a1.2.2.2.2.2.2.2.2.2.1, a1.2.2.2.2.2.2.2.2.2.2.1, hv, hg⟩
  · rw [e 12 (by omega) (by omega) (by omega), e 1 (by omega) (by omega) (by omega), e 2 (by omega) (by omega) (by omega), e 13 (by omega) (by omega) (by omega)]
    exact a2
  · rw [e 14 (by omega) (by omega) (by omega)]
    exact a3
  · intro p h0 h1
    rw [e _ (by omega) (by omega) (by omega)]
    exact a4 p h0 h1
  · intro p h0 h1
    rw [e _ (by omega) (by omega) (by omega)]
    exact a5 p h0 h1
  · intro p h0 h1
    rw [e _ (by omega) (by omega) (by omega)]
    exact a6 p h0 h1
  · intro x h0 h1
    rw [e _ (by omega) (by omega) (by omega), e 0 (by omega) (by omega) (by omega), e 1 (by omega) (by omega) (by omega)]
    exact a7 x h0 h1
  · intro k h0 h1
    rw [e 12 (by omega) (by omega) (by omega)] at h1
    have g := a8 k h0 h1
    rw [e (92 + k) (by omega) (by omega) (by omega), e (144 + k) (by omega) (by omega) (by omega), e 0 (by omega) (by omega) (by omega), e 1 (by omega) (by omega) (by omega), e (40 + w (92 + k)) (by omega) (by omega) (by omega)]
    exact g
  · intro j k h0 h1 h2
    rw [e 12 (by omega) (by omega) (by omega)] at h2
    rw [e (92 + j) (by omega) (by omega) (by omega), e (92 + k) (by omega) (by omega) (by omega)]
    exact a9 j k h0 h1 h2
  · intro t h0 h1
    rw [e 13 (by omega) (by omega) (by omega)] at h1
    rw [e (196 + 6 * t) (by omega) (by omega) (by omega), e (196 + 6 * t + 1) (by omega) (by omega) (by omega), e (196 + 6 * t + 2) (by omega) (by omega) (by omega), e (196 + 6 * t + 3) (by omega) (by omega) (by omega), e (196 + 6 * t + 4) (by omega) (by omega) (by omega), e (196 + 6 * t + 5) (by omega) (by omega) (by omega), e 0 (by omega) (by omega) (by omega), e 1 (by omega) (by omega) (by omega)]
    exact a10 t h0 h1
  · intro p h0 h1
    rw [e 1 (by omega) (by omega) (by omega)] at h1
    have eh : wHc w' p = wHc w p := by
      unfold wHc wHd
      exact cn_congr _ _ (fun x y0 y1 => by rw [e _ (by omega) (by omega) (by omega)])
    have ep : wPl w' = wPl w := by unfold wPl; rw [e 12 (by omega) (by omega) (by omega), e 13 (by omega) (by omega) (by omega), e 1 (by omega) (by omega) (by omega)]
    rw [eh, ep, e 2 (by omega) (by omega) (by omega), e 13 (by omega) (by omega) (by omega), e 1 (by omega) (by omega) (by omega), e 9 (by omega) (by omega) (by omega)]
    exact a11 p h0 h1
theorem op_setTrump {v : Int} (h : Inv n σ) (hi : zt_in v) : OP (n + 1) (F_L_setTrump v) (F_M_setTrump v) σ := by
  have hc := h.1
  have a := hc.1.n
  have b := hc.1.pl
  have p12 := hc.1.p12
  have e16 : σ.1 6 16 = σ.1 164 12 := hc.2.1.2.2.2.2.2.2.2.2.2.2.2.1
  by_cases hv : -1 ≤ v ∧ v ≤ 3
  · by_cases h12 : 0 < σ.1 164 12
    · refine AK.op (ak_ok (v := -2) ?_ ?_) h
      · unfold F_L_setTrump F_C_setTrump
        rw [ec_needRange hi (by decide) (by decide), if_pos hv, zt_bxS, e16, zt_ckI (by unfold zt_in; omega), if_pos h12, zt_bxS, zt_letS]
      · have er : (zt_up (zt_uL σ 184 0 (zt_l (-2))) 163 0 0).1 164 = σ.1 164 := up_f (by decide)
        unfold F_M_setTrump
        rw [zt_letS, eb_inI zl_m1 zl_3 hi (by decide) (by decide) hv, eb_fails1 (up_s _ _ _ _), zt_ckI zt_in0, if_pos rfl, er, zt_ckI (by unfold zt_in; omega), if_pos h12]
    · obtain ⟨s, k1, k2⟩ := ec_keep hc h.2.2.1
      have ts := k2.tb hc h.2.2.1
      have ss := k2.su hc h.2.2.1
      have tt := ts.2.2.2.2.2.2
      have g0 : 0 ≤ (if v = -1 then (0 : Int) else σ.1 164 5) ∧ (if v = -1 then (0 : Int) else σ.1 164 5) ≤ 30 := by split <;> omega
      generalize hg : (if v = -1 then (0 : Int) else σ.1 164 5) = g at g0
      have e : ∀ i, i ≠ 4 → i ≠ 10 → i ≠ 11 → ru (ru (ru (σ.1 164) 4 v) 10 v) 11 g i = σ.1 164 i := fun i h1 h2 h3 => by rw [ru_o h3, ru_o h2, ru_o h1]
      refine op_done h (σc := zt_up (zt_up (zt_up s 6 14 v) 7 7 v) 7 8 g) (v := σ.1 164 4 + 1) (w' := ru (ru (ru (σ.1 164) 4 v) 10 v) 11 g) ?_ (k2.kd h.2.2.1 (fun c j hc => by rw [up_o (Or.inl (by omega)), up_o (Or.inl (by omega)), up_o (Or.inl (by omega))]) (fun c j hc => rfl) rfl (ts.zero hc.1 (by omega) e (fun c j a b => by rw [up_o (Or.inl (by omega)), up_o (Or.inl (by omega)), up_o (Or.inl (by omega))]) (fun c j => rfl) (fun j h0 h1 => by rw [up_o (by omega), up_o (by omega), up_o (by omega)]) ?_ (fun j hj => by rw [up_o (by omega), up_o (by omega), up_o (by omega)]) ?_)) (fun τ e => ?_) (hc.1.light hv g0) ?_ (fun j hj => e j (by omega) (by omega) (by omega))
      · have e14 : (zt_up s 6 14 v).1 6 14 = v := up_s _ _ _ _
        have e33 : (zt_up s 6 14 v).1 3 3 = σ.1 164 5 := by rw [up_o (by omega)]; exact ss.2.2.2
        unfold F_L_setTrump F_C_setTrump
        rw [ec_needRange hi (by decide) (by decide), if_pos hv, zt_bxS, e16, zt_ckI (by unfold zt_in; omega), if_neg h12, k1, zt_bdS, zt_letS, ec_lightTrump (by decide) (by rw [e14]; exact hi), zt_bdS, zt_bxS, zt_letS, e14, show zt_su 6 = 3 from rfl, e33, hg, show s.1 6 14 = σ.1 164 4 from tt.2.2.2.1]
      · simp (disch := omega) only [up_s, up_o, ru_s, ru_o]
        exact ⟨trivial, trivial⟩
      · simp (disch := omega) only [up_s, up_o, ru_s, ru_o]
      · obtain ⟨u1, u2⟩ := h.u5 e
        obtain ⟨s', g1, g2⟩ := em_kept u1
        have er : (zt_up τ 163 0 0).1 164 = σ.1 164 := by rw [up_f (by decide), u2]
        have e4 : (zt_up s' 164 4 v).1 164 4 = v := up_s _ _ _ _
        have e5 : (zt_up s' 164 4 v).1 164 5 = σ.1 164 5 := by rw [up_o (by omega), g2.row, u2]
        refine ⟨zt_up (zt_up (zt_up s' 164 4 v) 164 10 v) 164 11 g, ?_, g2.ke (fun c j' a _ => by rw [up_o (Or.inl a), up_o (Or.inl a), up_o (Or.inl a)]) rfl (by rw [row_up, row_up, row_up, g2.row, u2])⟩
        unfold F_M_setTrump
        rw [zt_letS, eb_inI zl_m1 zl_3 hi (by decide) (by decide) hv, eb_fails1 (up_s _ _ _ _), zt_ckI zt_in0, if_pos rfl, er, zt_ckI (by unfold zt_in; omega), if_neg h12, g1, zt_bdS, zt_letS, em_lights e4 hi, zt_bdS, e5, hg, g2.row, u2]
      · refine RB.up (n := n) ⟨?_, fun p h0 h1 => ?_⟩ (by omega)
        · rw [e 14 (by omega) (by omega) (by omega)]; exact h.2.1.1
        · rw [e _ (by omega) (by omega) (by omega)]; exact h.2.1.2 p h0 h1
  · refine op_no h (e := 1) (u := 0) (Or.inl rfl) ?_ ?_
    · unfold F_L_setTrump F_C_setTrump
      rw [ec_needRange hi (by decide) (by decide), if_neg hv]
      rfl
    · unfold F_M_setTrump
      rw [zt_letS, eb_inO zl_m1 zl_3 hi (by decide) (by decide) hv, eb_fails0 (Or.inl rfl) (up_s _ _ _ _), zt_ckI (by decide), if_neg (by decide), up_up]
end ST
