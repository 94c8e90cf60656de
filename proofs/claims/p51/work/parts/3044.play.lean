/-! play -/
section PL
variable {w : Int → Int} {c : Int}
theorem ov_pl (h : RI w) (hp : wPl w ≠ 0) : wOv w = false := by
  have a := h.p13
  unfold wOv
  rw [decide_eq_false_iff_not]
  intro z
  have e := a.2.mpr z
  unfold wPl at hp
  rw [z, e, Int.mul_comm] at hp
  omega
theorem tn_pl (ho : wOv w = false) : wTn w = (w 9 + wPl w) % w 1 := by
  unfold wTn
  rw [ho]
  rfl
theorem rPlays_s (h : RI w) (ho : wOv w = false) (hc : 0 ≤ c ∧ c < 4 * w 0) {i : Int} (hi : (0 ≤ i ∧ i ≤ 8) ∨ i = 14 ∨ (16 ≤ i ∧ i < 24)) : rPlays w c i = w i := by
  have a := rLack_ag (c := c) h ho
  have b := h.n
  have o := wOv_lt h ho
  have p := h.pl
  have e12 : rLack w c 12 = w 12 := a 12 (by omega)
  have e13 : rLack w c 13 = w 13 := a 13 (by omega)
  have u13 : rCard (rLack w c) c (wTn w) 13 = w 13 := by rw [rCard_o ⟨by omega, by omega, by omega, by omega⟩, e13]
  have u : rCard (rLack w c) c (wTn w) i = w i := by rw [rCard_o ⟨by omega, by omega, by omega, by omega⟩, a i (by omega)]
  unfold rPlays
  split
  · rw [rEnd_o ⟨by omega, by omega, by omega, by omega⟩ (by rw [u13]; omega), u]
  · exact u
theorem rPlays_t (h : RI w) (ho : wOv w = false) (hc : 0 ≤ c ∧ c < 4 * w 0) : (wPl w + 1 = w 1 ∧ rPlays w c 13 = w 13 + 1 ∧ wPl (rPlays w c) = 0) ∨ (¬ wPl w + 1 = w 1 ∧ rPlays w c 13 = w 13 ∧ wPl (rPlays w c) = wPl w + 1) := by
  have a := rLack_ag (c := c) h ho
  have ai := rLack_i (c := c) h ho
  have b := h.n
  have o := wOv_lt h ho
  have p := h.pl
  have e12 : rLack w c 12 = w 12 := a 12 (by omega)
  have e13 : rLack w c 13 = w 13 := a 13 (by omega)
  have e1 : rLack w c 1 = w 1 := a 1 (by omega)
  have u13 : rCard (rLack w c) c (wTn w) 13 = w 13 := by rw [rCard_o ⟨by omega, by omega, by omega, by omega⟩, e13]
  have u1 : rCard (rLack w c) c (wTn w) 1 = w 1 := by rw [rCard_o ⟨by omega, by omega, by omega, by omega⟩, e1]
  have u12 : rCard (rLack w c) c (wTn w) 12 = w 12 + 1 := by rw [(rCard_c (w := rLack w c) (c := c) (p := wTn w) ⟨hc.1, by omega⟩ ⟨by omega, by omega⟩).2.2.2, e12]
  have up : wPl (rCard (rLack w c) c (wTn w)) = wPl w + 1 := by
    unfold wPl
    rw [u12, u13, u1]
    omega
  unfold rPlays
  by_cases hf : wPl w + 1 = w 1
  · left
    have v13 : rEnd (rCard (rLack w c) c (wTn w)) 13 = w 13 + 1 := by unfold rEnd; rw [rFade_o ⟨by omega, by omega⟩, rTrick_13, u13]
    have v1 : rEnd (rCard (rLack w c) c (wTn w)) 1 = w 1 := by rw [rEnd_o ⟨by omega, by omega, by omega, by omega⟩ (by rw [u13]; omega), u1]
    have v12 : rEnd (rCard (rLack w c) c (wTn w)) 12 = w 12 + 1 := by rw [rEnd_o ⟨by omega, by omega, by omega, by omega⟩ (by rw [u13]; omega), u12]
    rw [if_pos hf]
    refine ⟨hf, v13, ?_⟩
    unfold wPl at hf ⊢
    rw [v12, v13, v1, Int.add_mul, Int.one_mul]
    omega
  · right
    rw [if_neg hf]
    exact ⟨hf, u13, up⟩
theorem rCount_pl (h : RI w) : wPl (rCount w) = wPl w := by
  unfold wPl
  rw [rCount_o h (by omega), rCount_o h (by omega), rCount_o h (by omega)]
variable {σ : zt_S} {n : Int}
theorem OK6 : OK 6 := Or.inl (by decide)
theorem op_play (h : Inv n σ) (hn : 0 ≤ n ∧ n ≤ 1000) (hi : zt_in c) : OP (n + 1) (F_L_play c) (F_M_play c) σ := by
  have hc := h.1
  have a := hc.1.n
  have b := hc.1.wpl
  have tl := wTn_lt hc.1
  have k1 : σ.1 7 1 = (σ.1 164 9 + wPl (σ.1 164)) % σ.1 164 1 := hc.2.1.1.1.2.1
  by_cases h1 : 0 ≤ c ∧ c < 4 * σ.1 164 0
  · have hd := hc.1.hd h1.1 (by omega)
    by_cases ho : wOv (σ.1 164) = true
    · refine AK.op (ak_ok (v := -2) ?_ ?_) h
      · unfold F_L_play F_C_play
        rw [ec_needCard hc hi, if_pos h1, zt_bxS, ed_isOver_t hc.hu hc.1 hc.2.1 ho, zt_ckI (by decide), if_neg (by decide), zt_bxS, zt_letS]
      · have er : (zt_up (zt_uL σ 184 0 (zt_l (-2))) 163 0 0).1 164 = σ.1 164 := up_f (by decide)
        unfold F_M_play
        rw [zt_letS, eb_card (by rw [er]; exact hc.1) (by rw [er]; exact h1), eb_fails1 (up_s _ _ _ _), zt_ckI zt_in0, if_pos rfl, eb_isOver_t (by rw [er]; exact hc.1) (by rw [er]; exact ho), zt_ckI (by decide), if_neg (by decide)]
    · have ho' : wOv (σ.1 164) = false := Bool.eq_false_iff.mpr ho
      have tp := tn_pl ho'
      rw [← tp] at k1
      by_cases hh : wHd (σ.1 164) c = wTn (σ.1 164)
      · obtain ⟨al, g1, g2⟩ := ec_allowedCards hc.hu hc.1 hc.2.1
        have g3 := wLg_card h1 (g2 c h1.1 (by omega))
        by_cases hl : wLg (σ.1 164) c = true
        · obtain ⟨s, q1, q2⟩ := ec_keep hc h.2.2.1
          have ts := q2.tb hc h.2.2.1
          have ss := q2.su hc h.2.2.1
          obtain ⟨σc, p1, p2, p3⟩ := ec_putDown OK6 ss hc.1 ts ho' h1 hh
          have ri := RI_plays hc.1 ho' h1 hh
          have rc := RI_count ri (n := n) ⟨by rw [rPlays_s hc.1 ho' h1 (by omega)]; exact h.2.1.1, fun p h0 h1' => by rw [rPlays_s hc.1 ho' h1 (by omega)]; exact h.2.1.2 p h0 h1'⟩ hn
          have pt := rPlays_t hc.1 ho' h1
          have pc := rCount_pl ri
          have c13 : rCount (rPlays (σ.1 164) c) 13 = rPlays (σ.1 164) c 13 := rCount_o ri (by omega)
          have c1 : rCount (rPlays (σ.1 164) c) 1 = σ.1 164 1 := by rw [rCount_o ri (by omega), rPlays_s hc.1 ho' h1 (by omega)]
          have ppl := rc.1.wpl
          have ptn := wTn_lt rc.1
          have pn := rc.1.n
          obtain ⟨w', hw'⟩ : ∃ w', w' = rCount (rPlays (σ.1 164) c) := ⟨_, rfl⟩
          rw [← hw'] at p2 rc pc c13 c1 ppl ptn pn
          refine op_done h (σc := σc) (v := if wPl w' = 0 then w' 9 else σ.1 164 1 + (w' 9 + wPl w') % w' 1) (w' := w') ?_ (q2.kd h.2.2.1 (fun c j hc => (p3.1 c j (by omega)).1) (fun c j hc => (p3.1 c j (by omega)).2) p3.2 p2) (fun τ e => ?_) rc.1 rc.2 (fun j hj => by rw [hw', rCount_o ri (by omega), rPlays_s hc.1 ho' h1 (by omega)])
          · have t2 : σc.1 7 2 = wPl w' := p2.1.1.2.2.1
            have t0 : σc.1 7 0 = w' 9 := p2.1.1.1
            have t1 : σc.1 7 1 = (w' 9 + wPl w') % w' 1 := p2.1.1.2.1
            have t3 : σc.1 3 1 = σ.1 164 1 := by rw [(p3.1 3 1 (by omega)).1]; exact ss.2.1
            unfold F_L_play F_C_play F_C_play_122
            rw [ec_needCard hc hi, if_pos h1, zt_bxS, ed_isOver_f hc.hu hc.1 hc.2.1 ho, zt_ckI zt_in0, if_pos rfl, ed_holderOf hc.hu hc.1 hc.2.1 h1, k1, zt_ckI ⟨by unfold zt_in; omega, by unfold zt_in; omega⟩, if_pos hh, g1, zt_bdS, e_has ⟨h1.1, by omega⟩, zt_bdS, g3, if_pos hl, zt_ckI (by decide), if_neg (by decide), q1, zt_bdS, p1, zt_bdS, t2, zt_ckI (by unfold zt_in; omega)]
            by_cases hz : wPl w' = 0
            · rw [if_pos hz, if_pos hz, zt_bxS, zt_letS, t0]
            · rw [if_neg hz, if_neg hz, zt_bxS, zt_letS, t1, t3]
          · obtain ⟨u1, u2⟩ := h.u5 e
            obtain ⟨s', y1, y2⟩ := em_kept u1
            have er : (zt_up τ 163 0 0).1 164 = σ.1 164 := by rw [up_f (by decide), u2]
            have sr : s'.1 164 = σ.1 164 := by rw [y2.row, u2]
            have z1 := em_plays (σ := s') (c := c) (by rw [sr]; exact hc.1) (by rw [sr]; exact ho') (by rw [sr]; exact h1)
            have z2 := em_counts (σ := rs s' (rPlays (σ.1 164) c)) (n := n) (by rw [rs_r]; exact ri) (by rw [rs_r]; exact ⟨by rw [rPlays_s hc.1 ho' h1 (by omega)]; exact h.2.1.1, fun p h0 h1' => by rw [rPlays_s hc.1 ho' h1 (by omega)]; exact h.2.1.2 p h0 h1'⟩) hn
            rw [rs_r, rs_rs, ← hw'] at z2
            rw [sr] at z1
            have rr : (rs s' w').1 164 = w' := rs_r _ _
            refine ⟨rs s' w', ?_, y2.ke (fun c j a _ => congrFun (rs_o a) j) rfl rr⟩
            unfold F_M_play F_M_play_109
            rw [zt_letS, eb_card (by rw [er]; exact hc.1) (by rw [er]; exact h1), eb_fails1 (up_s _ _ _ _), zt_ckI zt_in0, if_pos rfl, eb_isOver_f (by rw [er]; exact hc.1) (by rw [er]; exact ho), zt_ckI zt_in0, if_pos rfl, eb_holderOf ⟨h1.1, by omega⟩, eb_turn (by rw [er]; exact hc.1), er, zt_ckI ⟨by unfold zt_in; omega, by unfold zt_in; omega⟩, if_pos hh, em_isLegalNow (by rw [er]; exact hc.1) (by rw [er]; exact h1), zt_bdS, er, if_pos hl, zt_ckI (by decide), if_neg (by decide), y1, zt_bdS, z1, zt_bdS, z2, zt_bdS, rr, sr]
            have p13 := hc.1.p13
            have q13 := rc.1.p13
            have pl0 := hc.1.pl
            have ql0 := rc.1.pl
            rw [zt_ckI ⟨by unfold zt_in; omega, by unfold zt_in; omega⟩]
            rcases pt with ⟨_, t13, tpl⟩ | ⟨_, t13, tpl⟩
            · rw [if_pos (show σ.1 164 13 < w' 13 by omega), if_pos (by omega)]
            · have hz : ¬ wPl w' = 0 := by omega
              rw [if_neg (show ¬ σ.1 164 13 < w' 13 by omega), if_neg hz, eb_turn (by rw [rr]; exact rc.1), rr, tn_pl (ov_pl rc.1 hz), c1]
        · refine AK.op (ak_ok (v := -4) ?_ ?_) h
          · unfold F_L_play F_C_play
            rw [ec_needCard hc hi, if_pos h1, zt_bxS, ed_isOver_f hc.hu hc.1 hc.2.1 ho, zt_ckI zt_in0, if_pos rfl, ed_holderOf hc.hu hc.1 hc.2.1 h1, k1, zt_ckI ⟨by unfold zt_in; omega, by unfold zt_in; omega⟩, if_pos hh, g1, zt_bdS, e_has ⟨h1.1, by omega⟩, zt_bdS, g3, if_neg hl, zt_ckI (by decide), if_pos rfl, zt_bxS, zt_letS]
          · have er : (zt_up (zt_uL σ 184 0 (zt_l (-4))) 163 0 0).1 164 = σ.1 164 := up_f (by decide)
            unfold F_M_play
            rw [zt_letS, eb_card (by rw [er]; exact hc.1) (by rw [er]; exact h1), eb_fails1 (up_s _ _ _ _), zt_ckI zt_in0, if_pos rfl, eb_isOver_f (by rw [er]; exact hc.1) (by rw [er]; exact ho), zt_ckI zt_in0, if_pos rfl, eb_holderOf ⟨h1.1, by omega⟩, eb_turn (by rw [er]; exact hc.1), er, zt_ckI ⟨by unfold zt_in; omega, by unfold zt_in; omega⟩, if_pos hh, em_isLegalNow (by rw [er]; exact hc.1) (by rw [er]; exact h1), zt_bdS, er, if_neg hl, zt_ckI (by decide), if_pos rfl]
      · refine AK.op (ak_ok (v := -3) ?_ ?_) h
        · unfold F_L_play F_C_play
          rw [ec_needCard hc hi, if_pos h1, zt_bxS, ed_isOver_f hc.hu hc.1 hc.2.1 ho, zt_ckI zt_in0, if_pos rfl, ed_holderOf hc.hu hc.1 hc.2.1 h1, k1, zt_ckI ⟨by unfold zt_in; omega, by unfold zt_in; omega⟩, if_neg hh, zt_bxS, zt_letS]
        · have er : (zt_up (zt_uL σ 184 0 (zt_l (-3))) 163 0 0).1 164 = σ.1 164 := up_f (by decide)
          unfold F_M_play
          rw [zt_letS, eb_card (by rw [er]; exact hc.1) (by rw [er]; exact h1), eb_fails1 (up_s _ _ _ _), zt_ckI zt_in0, if_pos rfl, eb_isOver_f (by rw [er]; exact hc.1) (by rw [er]; exact ho), zt_ckI zt_in0, if_pos rfl, eb_holderOf ⟨h1.1, by omega⟩, eb_turn (by rw [er]; exact hc.1), er, zt_ckI ⟨by unfold zt_in; omega, by unfold zt_in; omega⟩, if_neg hh]
  · refine op_no h (e := 1) (u := 0) (Or.inl rfl) ?_ ?_
    · unfold F_L_play F_C_play
      rw [ec_needCard hc hi, if_neg h1]
      rfl
    · have er : (zt_up (zt_nx σ) 163 0 0).1 164 = σ.1 164 := up_f (by decide)
      unfold F_M_play
      rw [zt_letS, eb_nocard (by rw [er]; exact hc.1) hi (by rw [er]; exact h1), eb_fails0 (Or.inl rfl) (up_s _ _ _ _), zt_ckI (by decide), if_neg (by decide), up_up]
end PL
