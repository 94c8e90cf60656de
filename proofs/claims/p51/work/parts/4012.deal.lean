section PQ
variable {σ : zt_S} {w : Int → Int} {n : Int}
theorem po_deal_no {v : Int} (h : PG n σ w) (hv : 0 ≤ v ∧ v ≤ 99999) (ho : wOv w = false) : F_C_deal v σ = some (.inl (-2), σ) := by
  have hc := h.1
  unfold F_C_deal
  rw [ec_needRange (by unfold zt_in; omega) (by decide) (by decide), if_pos hv, zt_bxS, ed_isOver_f hc.hu hc.1 hc.2.1 (by rw [ho]; decide), zt_ckI (by decide), if_pos rfl]
theorem po_deal {v : Int} (h : PG n σ w) (hv : 0 ≤ v ∧ v ≤ 99999) (ho : wOv w = true) : PO n σ w (rDeal v (ru w 8 ((w 8 + 1) % w 1))) (F_C_deal v) ((w 8 + 1) % w 1) := by
  have hc := h.1
  have a := hc.1.n
  obtain ⟨s, q1, q2⟩ := pk_keep h
  have ts := q2.tb h
  have ss := q2.su h
  have tt := ts.2.2.2.2.2.2
  have mm : 0 ≤ w 1 * w 2 := Int.mul_nonneg (by omega) (by omega)
  -- the row
  have e0 := Int.emod_nonneg (w 8 + 1) (show w 1 ≠ 0 by omega)
  have e1 := Int.emod_lt_of_pos (w 8 + 1) (show 0 < w 1 by omega)
  have ri8 := hc.1.r8 ⟨e0, e1⟩
  have ri := ri8.deal (v := v)
  obtain ⟨u, hu⟩ : ∃ u, u = ru w 8 ((w 8 + 1) % w 1) := ⟨_, rfl⟩
  rw [← hu] at ri8 ri
  have u8 : u 8 = (w 8 + 1) % w 1 := by rw [hu, ru_s]
  have ue : ∀ i, i ≠ 8 → u i = w i := fun i hi => by rw [hu, ru_o hi]
  have u0 := ue 0 (by omega)
  have u1 := ue 1 (by omega)
  have u2 := ue 2 (by omega)
  have ds := fun i hi => rDeal_s (v := v) (i := i) ri8 hi
  have df := fun i hi => rStart_f (w := u) (i := i) hi
  have dv := rStart_v (w := u)
  have hP := wMx_pm (n := 4 * u 0) (seed := v) (by omega)
  -- the class
  obtain ⟨r, m1, m2⟩ := e_mix (σ := s) (v := v) (n := 4 * w 0) (by omega) (by omega)
  obtain ⟨s2, c1, c2⟩ := ec_clearHand (σ := rz 5 s r) (t := 6)
  obtain ⟨d1, d2, d3, d4, d5, d6, d7⟩ := c2
  have z1 : ∀ c j, c ≠ 5 → c ≠ 9 → c ≠ 10 → c ≠ 11 → (c ≠ 6 ∨ (j ≠ 16 ∧ j ≠ 17)) → s2.1 c j = s.1 c j := fun c j b1 b2 b3 b4 b5 => by rw [d5 c j b2 b3 b4 b5, rz_o b1]
  obtain ⟨s3, hs3⟩ : ∃ x, x = zt_up s2 6 15 (u 8) := ⟨_, rfl⟩
  have su3 : SUw s3 (zt_su 6) u := by
    obtain ⟨y0, y1, y2, y3⟩ := ss
    rw [hs3]
    refine ⟨?_, ?_, ?_, ?_⟩
    · rw [up_o (Or.inl (by decide)), z1 _ _ (by decide) (by decide) (by decide) (by decide) (by decide), u0]; exact y0
    · rw [up_o (Or.inl (by decide)), z1 _ _ (by decide) (by decide) (by decide) (by decide) (by decide), u1]; exact y1
    · rw [up_o (Or.inl (by decide)), z1 _ _ (by decide) (by decide) (by decide) (by decide) (by decide), u2]; exact y2
    · rw [up_o (Or.inl (by decide)), z1 _ _ (by decide) (by decide) (by decide) (by decide) (by decide), ue 5 (by omega)]; exact y3
  have hh0 : ∀ q d, 0 ≤ q → q < 4 → 0 ≤ d → d < 64 → hb (s3.2.1 (6 + 2) q) d = decide (d < 4 * u 0 ∧ dlr (wMx (4 * u 0) v) (u 1) 0 (rStart u) (40 + d) = q) := by
    intro q d h0 h1 h2 h3
    rw [hs3, up_2, (d1 q h0 h1).1, hb_0, dlr]
    by_cases hd : d < 4 * u 0
    · rw [rStart_h (by omega)]
      exact (decide_eq_false (by omega)).symm
    · exact (decide_eq_false (by omega)).symm
  obtain ⟨s4, f1, f2, f3, f4, f5⟩ := ec_handOut_4 (σ := s3) (t := 6) (w := u) (u := rStart u) su3 ⟨by omega, by omega, by omega, by rw [u0, u1, u2]; exact a.2.2.2.1, by rw [ue 5 (by omega)]; omega⟩ hP (fun c h0 h1 => rStart_h (by omega)) (u 1 * u 2).toNat zt_N 0 s3 su3 (by rw [u1, u2]; omega) (zN (by rw [u1, u2]; omega)) (fun j h0 h1 => by
    rw [hs3, up_o (Or.inl (by decide)), d5 _ _ (by omega) (by omega) (by omega) (by omega), rz_r, m2 j h0 (by rw [← u0]; exact h1), u0]) hh0
  rw [Nat.zero_add] at f5
  have s43 : ∀ c j, s4.1 c j = s3.1 c j := fun c j => by rw [f2]
  have o14 : s4.1 6 14 = u 4 := by
    rw [s43, hs3, up_o (by omega), z1 _ _ (by decide) (by decide) (by decide) (by decide) (by decide), ue 4 (by omega)]
    exact tt.2.2.2.1
  have o15 : s4.1 6 15 = u 8 := by rw [s43, hs3, up_s]
  obtain ⟨s5, g1, g2, g3, g4, g5, g6, g7, g8, g9, g10, g11, g12⟩ := ec_openHand (σ := s4) (t := 6) (by decide) (by rw [o14, ue 4 (by omega)]; unfold zt_in; omega)
  have w5 : ∀ c j, c ≠ 5 → c ≠ 7 → c ≠ 9 → c ≠ 10 → c ≠ 11 → (c ≠ 6 ∨ (j ≠ 15 ∧ j ≠ 16 ∧ j ≠ 17)) → s5.1 c j = s.1 c j := fun c j b1 b2 b3 b4 b5 b6 => by
    rw [g3 c j b2, s43, hs3, up_o (by omega), z1 c j b1 b3 b4 b5 (by omega)]
  have tb5 : TB s5 6 (rDeal v u) := by
    have p1 : ∀ {c : Nat} {j : Int}, c ≠ 7 → (c ≠ 6 ∨ j ≠ 15) → s5.1 c j = s2.1 c j := fun {c j} b1 b2 => by rw [g3 c j b1, s43, hs3, up_o (by omega)]
    refine TB.of0 ?_ ?_ ?_ ?_ (fun q d h0 h1 h2 h3 => ?_) (fun q h0 h1 => ?_) ?_ ?_
    · rw [ds 12 (by omega), dv.2.1]
    · rw [ds 13 (by omega), dv.2.2.1]
    · rw [ds 9 (by omega), ds 1 (by omega), df 1 (by omega), dv.1, u8, u1]
      exact ⟨e0, e1⟩
    · rw [ds 9 (by omega), ds 10 (by omega), ds 11 (by omega), dv.1, dv.2.2.2.1, dv.2.2.2.2, g4, g5, g6, g7, g8, g9, g10, g11, g12, o14, o15]
      refine ⟨rfl, rfl, rfl, rfl, rfl, rfl, rfl, rfl, ?_⟩
      have y : s4.1 (zt_su 6) 3 = u 5 := by rw [s43]; exact su3.2.2.2
      rw [y]
    · rw [g2, f5 q d h0 h1 h2 h3, ds 0 (by omega), df 0 (by omega)]
      rfl
    · have dq := d1 q h0 h1
      have tq := ts.2.2.1 q h0 h1
      refine ⟨?_, ?_, ?_, ?_⟩
      · rw [p1 (by omega) (by omega), dq.2.1, ds _ (by omega), rStart_t (by omega)]
      · rw [p1 (by omega) (by omega), dq.2.2.1]
      · rw [p1 (by omega) (by omega), dq.2.2.2]
        unfold wLk
        rw [ds _ (by omega), ds _ (by omega), ds _ (by omega), ds _ (by omega), rStart_l (by omega), rStart_l (by omega), rStart_l (by omega), rStart_l (by omega)]
        rfl
      · rw [w5 _ _ (by omega) (by omega) (by omega) (by omega) (by omega) (by omega), ds _ (by omega), df _ (by omega), ue _ (by omega)]
        exact tq.2.2.2
    · rw [g2, f4 6 10 (by decide), hs3, up_2]
      exact d2
    · rw [ds 3 (by omega), ds 6 (by omega), ds 7 (by omega), ds 4 (by omega), ds 8 (by omega), ds 14 (by omega), df 3 (by omega), df 6 (by omega), df 7 (by omega), df 4 (by omega), df 8 (by omega), df 14 (by omega), ue 3 (by omega), ue 6 (by omega), ue 7 (by omega), ue 4 (by omega), ue 14 (by omega)]
      refine ⟨?_, ?_, ?_, ?_, ?_, ?_, ?_, ?_⟩
      · rw [w5 _ _ (by omega) (by omega) (by omega) (by omega) (by omega) (by omega)]; exact tt.1
      · rw [w5 _ _ (by omega) (by omega) (by omega) (by omega) (by omega) (by omega)]; exact tt.2.1
      · rw [w5 _ _ (by omega) (by omega) (by omega) (by omega) (by omega) (by omega)]; exact tt.2.2.1
      · rw [w5 _ _ (by omega) (by omega) (by omega) (by omega) (by omega) (by omega)]; exact tt.2.2.2.1
      · rw [g3 _ _ (by decide), o15]
      · rw [p1 (by omega) (by omega)]; exact d3
      · rw [p1 (by omega) (by omega)]; exact d4
      · rw [w5 _ _ (by omega) (by omega) (by omega) (by omega) (by omega) (by omega)]; exact tt.2.2.2.2.2.2.2
  rw [← hu, ← u8]
  refine ⟨s5, ?_, q2.pd h (fun c j hc => w5 c j (by omega) (by omega) (by omega) (by omega) (by omega) (by omega)) (fun c j hc => by rw [g2, f4 c j (by omega), hs3, up_2, d6 c j (by omega) (by omega)]; rfl) (by rw [g2, f3, hs3, up_2, d7]; rfl) tb5, ri, ?_, (fun j hj => by rw [ds j (by omega), df j (by omega), ue j (by omega)])⟩
  · unfold F_C_deal
    have e15 : s2.1 6 15 = w 8 := by rw [z1 _ _ (by decide) (by decide) (by decide) (by decide) (by decide)]; exact tt.2.2.2.2.1
    have su2 : SUw s2 3 w := by
      obtain ⟨y0, y1, y2, y3⟩ := ss
      refine ⟨?_, ?_, ?_, ?_⟩
      · rw [z1 _ _ (by decide) (by decide) (by decide) (by decide) (by decide)]; exact y0
      · rw [z1 _ _ (by decide) (by decide) (by decide) (by decide) (by decide)]; exact y1
      · rw [z1 _ _ (by decide) (by decide) (by decide) (by decide) (by decide)]; exact y2
      · rw [z1 _ _ (by decide) (by decide) (by decide) (by decide) (by decide)]; exact y3
    rw [ec_needRange (by unfold zt_in; omega) (by decide) (by decide), if_pos hv, zt_bxS, ed_isOver_t hc.hu hc.1 hc.2.1 ho, zt_ckI (by decide), if_neg (by decide), q1, zt_bdS, ed_cardCount ss, m1, zt_bdS, c1, zt_bdS, e15, ed_behind su2 hc.1 ⟨by omega, by omega⟩, zt_letS, ← u8, ← hs3]
    unfold F_Tb_handOutInTurn
    have f1' : F_Tb_handOutInTurn_4 6 zt_N 0 0 s3 = some ((), s4) := by
      have := f1
      rw [show ((0 : Nat) : Int) % u 1 = 0 from Int.zero_emod _] at this
      exact this
    rw [f1', zt_bdS, g1, zt_bdS, show s5.1 7 0 = u 8 from by rw [g4, o15]]
  · refine RB.up (n := n) ⟨?_, fun p h0 h1 => ?_⟩ (by omega)
    · rw [ds 14 (by omega), df 14 (by omega), ue 14 (by omega)]; exact h.2.1.1
    · rw [ds _ (by omega), df _ (by omega), ue _ (by omega)]; exact h.2.1.2 p h0 h1
end PQ
