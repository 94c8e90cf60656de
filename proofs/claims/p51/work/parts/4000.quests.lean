/-! WHAT THE CLASS ANSWERS of a row w for which its table stands: questions -/
section PX
variable {σ : zt_S} {w : Int → Int}
/-- the class' table stands for the row w -/
def CW (σ : zt_S) (w : Int → Int) : Prop := RI w ∧ TB σ 6 w ∧ SUw σ 3 w
theorem CW.hu (h : CW σ w) : SUw σ (zt_su 6) w := h.2.2
theorem CO.cw (h : CO σ) : CW σ (σ.1 164) := h
theorem px_needCard {c : Int} (h : CW σ w) (h1 : 0 ≤ c ∧ c < 4 * w 0) : F_C_needCard c σ = some (.inl (), σ) := by
  have a := h.1.n
  unfold F_C_needCard F_C_needCard_15
  simp (disch := first | omega | (unfold zt_in; omega)) only [↓zt_ckI, ↓if_pos, ↓if_neg, if_true, if_false, zt_letS, zt_ckI, if_pos, if_neg, up_s, up_o, up_2, ↓ed_cardCount h.2.2]
theorem px_needPlayer {p : Int} (h : CW σ w) (h1 : 0 ≤ p ∧ p < w 1) : F_C_needPlayer p σ = some (.inl (), σ) := by
  have a := h.1.n
  have b := h.2.2.2.1
  unfold F_C_needPlayer F_C_needPlayer_15
  simp (disch := first | omega | (unfold zt_in; omega)) only [↓zt_ckI, ↓if_pos, ↓if_neg, if_true, if_false, zt_letS, zt_ckI, if_pos, if_neg, up_s, up_o, up_2, b]
theorem px_suit {c : Int} (h : CW σ w) (h1 : 0 ≤ c ∧ c < 4 * w 0) : F_C_suit c σ = some (.inl (wS w c), σ) := by
  have a := h.1.n
  unfold F_C_suit
  rw [px_needCard h h1, zt_bxS, ed_suitOf h.2.2 h.1 ⟨h1.1, by omega⟩]
theorem px_rank {c : Int} (h : CW σ w) (h1 : 0 ≤ c ∧ c < 4 * w 0) : F_C_rank c σ = some (.inl (wR w c), σ) := by
  have a := h.1.n
  unfold F_C_rank
  rw [px_needCard h h1, zt_bxS, ed_rankOf h.2.2 h.1 ⟨h1.1, by omega⟩]
theorem px_holder {c : Int} (h : CW σ w) (h1 : 0 ≤ c ∧ c < 4 * w 0) : F_C_holder c σ = some (.inl (wHd w c), σ) := by
  have a := h.1.n
  unfold F_C_holder
  rw [px_needCard h h1, zt_bxS, ed_holderOf h.hu h.1 h.2.1 h1]
theorem px_power {c : Int} (h : CW σ w) (h1 : 0 ≤ c ∧ c < 4 * w 0) : F_C_power c σ = some (.inl (wPn w c), σ) := by
  have a := h.1.n
  unfold F_C_power
  rw [px_needCard h h1, zt_bxS, ed_powerOf h.2.1.1 h.2.2 h.1 h1]
theorem px_isLegal {c : Int} (h : CW σ w) (h1 : 0 ≤ c ∧ c < 4 * w 0) : F_C_isLegal c σ = some (.inl (if wLg w c = true then 1 else 0), σ) := by
  have a := h.1.n
  obtain ⟨v, g1, g2⟩ := ec_allowedCards h.hu h.1 h.2.1
  have g3 := wLg_card h1 (g2 c h1.1 (by omega))
  unfold F_C_isLegal
  rw [px_needCard h h1, zt_bxS, g1, zt_bdS, e_has ⟨h1.1, by omega⟩, zt_bdS, g3]
  cases wLg w c
  · rfl
  · rfl
theorem px_wouldLead {c : Int} (h : CW σ w) (h1 : 0 ≤ c ∧ c < 4 * w 0) : F_C_wouldLead c σ = some (.inl (if wBt w c = true then 1 else 0), σ) := by
  have a := h.1.n
  unfold F_C_wouldLead
  rw [px_needCard h h1, zt_bxS, ec_wouldBeBest h.2.1.1 h.2.2 h.1 h1, zt_bdS]
  cases wBt w c
  · rfl
  · rfl
theorem px_held {p : Int} (h : CW σ w) (h1 : 0 ≤ p ∧ p < w 1) : F_C_held p σ = some (.inl (wHc w p), σ) := by
  have a := h.1.n
  unfold F_C_held
  rw [px_needPlayer h h1, zt_bxS, be_handOf ⟨h1.1, by omega⟩, be_bitCount, hand_count h.1 h1.1 (fun c h0 h3 => h.2.1.2.1 p c h1.1 (by omega) h0 h3)]
theorem px_tricks {p : Int} (h : CW σ w) (h1 : 0 ≤ p ∧ p < w 1) : F_C_tricks p σ = some (.inl (wTk w p), σ) := by
  have a := h.1.n
  unfold F_C_tricks
  rw [px_needPlayer h h1, zt_bxS, e_at ⟨h1.1, by omega⟩ (by decide), zt_bdS, show σ.1 10 p = wTk w p from (h.2.1.2.2.1 p h1.1 (by omega)).2.1]
theorem px_ofSuit {p s : Int} (h : CW σ w) (h1 : 0 ≤ p ∧ p < w 1) (h2 : 0 ≤ s ∧ s ≤ 3) : F_C_ofSuit p s σ = some (.inl (wSc w p s), σ) := by
  have a := h.1.n
  obtain ⟨L, g1, g2⟩ := ec_cardsOf (s := 3) (σ := σ) (u := s) h.2.2 h.1 ⟨by omega, by omega⟩
  unfold F_C_ofSuit
  rw [px_needPlayer h h1, zt_bxS, ec_needSuit (by unfold zt_in; omega), if_pos h2, zt_bxS, be_handOf ⟨h1.1, by omega⟩, g1, zt_bdS, be_bitCount, suit_count h.1 h1.1 ⟨h2.1, by omega⟩ (fun c h0 h3 => h.2.1.2.1 p c h1.1 (by omega) h0 h3) g2]
theorem px_led (h : CW σ w) : F_C_led σ = some (wLd w, σ) := by
  unfold F_C_led
  rw [show σ.1 7 3 = wLd w from h.2.1.1.1.2.2.2]
theorem px_winning (h : CW σ w) : F_C_winning σ = some (if wPl w = 0 then -1 else (w 9 + wBp w) % w 1, σ) := by
  unfold F_C_winning
  rw [show σ.1 7 6 = (if wPl w = 0 then -1 else (w 9 + wBp w) % w 1) from h.2.1.1.2.1.2.2]
theorem px_legal (h : CW σ w) : F_C_legal σ = some (wLe w, σ) := by
  have a := h.1.n
  obtain ⟨v, g1, g2⟩ := ec_allowedCards h.hu h.1 h.2.1
  unfold F_C_legal
  rw [g1, zt_bdS, be_bitCount]
  have e1 : cn (hb v) 0 64 = cn (hb v) 0 (4 * w 0).toNat + cn (hb v) (0 + ((4 * w 0).toNat : Int)) (64 - (4 * w 0).toNat) := by
    rw [← cn_app]
    congr 1
    omega
  have z : cn (hb v) (0 + ((4 * w 0).toNat : Int)) (64 - (4 * w 0).toNat) = 0 := cn_none _ _ (fun c h0 h1 => by
    rw [g2 c (by omega) (by omega), decide_eq_false (by omega), Bool.false_and])
  have e2 : cn (hb v) 0 (4 * w 0).toNat = wLe w := cn_congr _ _ (fun c h0 h1 => by
    rw [g2 c (by omega) (by omega), decide_eq_true (by omega), Bool.true_and])
  rw [e1, z, e2, Int.add_zero]
theorem px_played {k j : Int} (h : CW σ w) (h1 : 0 ≤ k ∧ k < w 12) (h2 : 0 ≤ j ∧ j ≤ 2) : F_C_played k j σ = some (.inl (wPd w k j), σ) := by
  have a := h.1.n
  have b := h.1.p12
  have c := h.1.pl
  have e : σ.1 6 16 = w 12 := h.2.1.2.2.2.2.2.2.2.2.2.2.2.1
  have q := h.2.1.2.2.2.1 k h1.1 h1.2
  have q1 : σ.1 13 k = w (92 + k) := q.1
  have q2 : σ.1 14 k = w (144 + k) := q.2
  unfold F_C_played F_C_played_15
  rcases (show j = 0 ∨ j = 1 ∨ j = 2 by omega) with rfl | rfl | rfl
  · rw [show wPd w k 0 = w (92 + k) from rfl]
    simp (disch := first | omega | (unfold zt_in; omega)) only [↓zt_ckI, ↓if_pos, ↓if_neg, if_true, if_false, zt_letS, zt_ckI, if_pos, if_neg, up_s, up_o, up_2, e, ↓be_at, q1, zt_bxS]
  · rw [show wPd w k 1 = w (144 + k) from rfl]
    simp (disch := first | omega | (unfold zt_in; omega)) only [↓zt_ckI, ↓if_pos, ↓if_neg, if_true, if_false, zt_letS, zt_ckI, if_pos, if_neg, up_s, up_o, up_2, e, ↓be_at, q2, zt_bxS]
  · rw [show wPd w k 2 = k / w 1 from rfl]
    simp (disch := first | omega | (unfold zt_in; omega)) only [↓zt_ckI, ↓if_pos, ↓if_neg, if_true, if_false, zt_letS, zt_ckI, if_pos, if_neg, up_s, up_o, up_2, e, ↓be_trickOf (h.2.2.su h.1), zt_bxS]
    rw [h.2.2.2.1]
theorem px_trick {k j : Int} (h : CW σ w) (h1 : 0 ≤ k ∧ k < w 13) (h2 : 0 ≤ j ∧ j ≤ 5) : F_C_trick k j σ = some (.inl (w (196 + 6 * k + j)), σ) := by
  have a := h.1.n
  have b := h.1.p13
  have c := h.1.pl
  have e : σ.1 6 17 = w 13 := h.2.1.2.2.2.2.2.2.2.2.2.2.2.2.1
  have q : σ.1 15 (k * 6 + j) = w (196 + 6 * k + j) := by
    have := h.2.1.2.2.2.2.1 (6 * k + j) (by omega) (by omega)
    rw [show k * 6 + j = 6 * k + j by omega, show 196 + 6 * k + j = 196 + (6 * k + j) by omega]
    exact this
  unfold F_C_trick F_C_trick_25
  simp (disch := first | omega | (unfold zt_in; omega)) only [↓zt_ckI, ↓if_pos, ↓if_neg, if_true, if_false, zt_letS, zt_ckI, if_pos, if_neg, up_s, up_o, up_2, e, ↓be_at, q, zt_bxS]
theorem px_inHand {p i : Int} (h : CW σ w) (h1 : 0 ≤ p ∧ p < w 1) (h3 : 0 ≤ i ∧ i < wHc w p) : F_C_inHand p i σ = some (.inl (wFi (fun c => decide (wHd w c = p)) i 0 52), σ) := by
  have a := h.1.n
  unfold F_C_inHand F_C_inHand_26
  have hc := hand_count h.1 h1.1 (fun c h0 h3 => h.2.1.2.1 p c h1.1 (by omega) h0 h3)
  have hl : 0 ≤ wHc w p ∧ wHc w p ≤ 52 := cn_le _ 52 0
  have hj : zt_in i := by unfold zt_in; omega
  rw [px_needPlayer h h1, zt_bxS, be_handOf ⟨h1.1, by omega⟩, zt_ckI hj, if_neg (by omega), be_bitCount, hc, zt_ckI ⟨hj, by unfold zt_in; omega⟩, if_pos h3.2, ec_inHand_40 52 _ 0 0 (by omega) (zN (by omega)) (by omega) (by omega) (by omega) (by omega), Int.sub_zero, wFi_congr (Q := fun c => decide (wHd w c = p)) 52 i 0 (fun c k0 k1 => by
      rw [h.2.1.2.1 p c h1.1 (by omega) k0 (by omega)]
      have b1 := h.1.2.2.2.2.2.2.1 c k0 (by omega)
      unfold wHd
      by_cases k2 : c < 4 * w 0
      · simp [k2]
      · have b2 := b1.2.2 (by omega)
        rw [decide_eq_false (by omega), decide_eq_false (by omega)])]
theorem px_share {p : Int} (h : CW σ w) (hp : 0 ≤ p ∧ p < w 1) : F_C_share p σ = some (.inl (wSh w p), σ) := by
  have a := h.1.n
  have b := h.1.p13
  have pl := h.1.pl
  have ok := wSh_ok h.1 (p := p)
  have e17 : σ.1 6 17 = w 13 := h.2.1.2.2.2.2.2.2.2.2.2.2.2.2.1
  unfold F_C_share F_C_share_40
  rw [px_needPlayer h hp, zt_bxS, e17, zt_ckI (by unfold zt_in; omega)]
  unfold wSh
  by_cases h0 : w 13 = 0
  · rw [if_pos h0, if_neg (by omega)]
  · rw [if_neg h0, if_pos (by omega), be_at ⟨hp.1, by omega⟩ (by decide), e17, show σ.1 10 p = wTk w p from (h.2.1.2.2.1 p hp.1 (by omega)).2.1, zt_ckI (ok.1 h0)]
theorem px_size0 (h : CW σ w) : F_C_size 0 σ = some (.inl (w 0), σ) := by
  unfold F_C_size
  have e : σ.1 3 0 = w 0 := h.2.2.1
  simp (disch := first | omega | (unfold zt_in; omega)) only [↓zt_ckI, ↓if_pos, ↓if_neg, if_true, if_false, zt_letS, zt_ckI, if_pos, if_neg, e]
theorem px_size1 (h : CW σ w) : F_C_size 1 σ = some (.inl (w 1), σ) := by
  unfold F_C_size
  have e : σ.1 3 1 = w 1 := h.2.2.2.1
  simp (disch := first | omega | (unfold zt_in; omega)) only [↓zt_ckI, ↓if_pos, ↓if_neg, if_true, if_false, zt_letS, zt_ckI, if_pos, if_neg, e]
theorem px_size2 (h : CW σ w) : F_C_size 2 σ = some (.inl (w 2), σ) := by
  unfold F_C_size
  have e : σ.1 3 2 = w 2 := h.2.2.2.2.1
  simp (disch := first | omega | (unfold zt_in; omega)) only [↓zt_ckI, ↓if_pos, ↓if_neg, if_true, if_false, zt_letS, zt_ckI, if_pos, if_neg, e]
theorem px_size3 (h : CW σ w) : F_C_size 3 σ = some (.inl (w 3), σ) := by
  unfold F_C_size
  have e : σ.1 6 11 = w 3 := h.2.1.2.2.2.2.2.2.1
  simp (disch := first | omega | (unfold zt_in; omega)) only [↓zt_ckI, ↓if_pos, ↓if_neg, if_true, if_false, zt_letS, zt_ckI, if_pos, if_neg, e]
theorem px_size4 (h : CW σ w) : F_C_size 4 σ = some (.inl (w 10), σ) := by
  unfold F_C_size
  have e : σ.1 7 7 = w 10 := h.2.1.1.2.2.1
  simp (disch := first | omega | (unfold zt_in; omega)) only [↓zt_ckI, ↓if_pos, ↓if_neg, if_true, if_false, zt_letS, zt_ckI, if_pos, if_neg, e]
theorem px_size5 (h : CW σ w) : F_C_size 5 σ = some (.inl (w 11), σ) := by
  unfold F_C_size
  have e : σ.1 7 8 = w 11 := h.2.1.1.2.2.2
  simp (disch := first | omega | (unfold zt_in; omega)) only [↓zt_ckI, ↓if_pos, ↓if_neg, if_true, if_false, zt_letS, zt_ckI, if_pos, if_neg, e]
theorem px_size6 (h : CW σ w) : F_C_size 6 σ = some (.inl (w 5), σ) := by
  unfold F_C_size
  have e : σ.1 3 3 = w 5 := h.2.2.2.2.2
  simp (disch := first | omega | (unfold zt_in; omega)) only [↓zt_ckI, ↓if_pos, ↓if_neg, if_true, if_false, zt_letS, zt_ckI, if_pos, if_neg, e]
theorem px_size7 (h : CW σ w) : F_C_size 7 σ = some (.inl (w 6), σ) := by
  unfold F_C_size
  have e : σ.1 6 12 = w 6 := h.2.1.2.2.2.2.2.2.2.1
  simp (disch := first | omega | (unfold zt_in; omega)) only [↓zt_ckI, ↓if_pos, ↓if_neg, if_true, if_false, zt_letS, zt_ckI, if_pos, if_neg, e]
theorem px_size8 (h : CW σ w) : F_C_size 8 σ = some (.inl (w 7), σ) := by
  have a := h.1.n
  have e : σ.1 6 13 = w 7 := h.2.1.2.2.2.2.2.2.2.2.1
  unfold F_C_size F_C_size_157
  by_cases h1 : w 7 = 0
  · simp (disch := first | omega | (unfold zt_in; omega)) only [↓zt_ckI, ↓if_pos, ↓if_neg, if_true, if_false, zt_letS, zt_ckI, if_pos, if_neg, e, h1]
  · have h2 : w 7 = 1 := by omega
    simp (disch := first | omega | (unfold zt_in; omega)) only [↓zt_ckI, ↓if_pos, ↓if_neg, if_true, if_false, zt_letS, zt_ckI, if_pos, if_neg, e, h2]
theorem px_size9 (h : CW σ w) : F_C_size 9 σ = some (.inl (wTn w), σ) := by
  have a := h.1.n
  unfold F_C_size F_C_size_182
  have e : σ.1 7 1 = (w 9 + wPl w) % w 1 := h.2.1.1.1.2.1
  by_cases h1 : wOv w = true
  · unfold wTn
    simp (disch := first | omega | (unfold zt_in; omega)) only [↓zt_ckI, ↓if_pos, ↓if_neg, if_true, if_false, zt_letS, zt_ckI, if_pos, if_neg, ↓ed_isOver_t h.hu h.1 h.2.1 h1, h1]
  · unfold wTn
    simp (disch := first | omega | (unfold zt_in; omega)) only [↓zt_ckI, ↓if_pos, ↓if_neg, if_true, if_false, zt_letS, zt_ckI, if_pos, if_neg, ↓ed_isOver_f h.hu h.1 h.2.1 h1, h1, e]
theorem px_size10 (h : CW σ w) : F_C_size 10 σ = some (.inl (w 9), σ) := by
  unfold F_C_size
  have e : σ.1 7 0 = w 9 := h.2.1.1.1.1
  simp (disch := first | omega | (unfold zt_in; omega)) only [↓zt_ckI, ↓if_pos, ↓if_neg, if_true, if_false, zt_letS, zt_ckI, if_pos, if_neg, e]
theorem px_size11 (h : CW σ w) : F_C_size 11 σ = some (.inl (w 13), σ) := by
  unfold F_C_size
  have e : σ.1 6 17 = w 13 := h.2.1.2.2.2.2.2.2.2.2.2.2.2.2.1
  simp (disch := first | omega | (unfold zt_in; omega)) only [↓zt_ckI, ↓if_pos, ↓if_neg, if_true, if_false, zt_letS, zt_ckI, if_pos, if_neg, e]
theorem px_size12 (h : CW σ w) : F_C_size 12 σ = some (.inl (w 12), σ) := by
  unfold F_C_size
  have e : σ.1 6 16 = w 12 := h.2.1.2.2.2.2.2.2.2.2.2.2.2.1
  simp (disch := first | omega | (unfold zt_in; omega)) only [↓zt_ckI, ↓if_pos, ↓if_neg, if_true, if_false, zt_letS, zt_ckI, if_pos, if_neg, e]
theorem px_size13 (h : CW σ w) : F_C_size 13 σ = some (.inl (w 14), σ) := by
  unfold F_C_size
  have e : σ.1 6 18 = w 14 := h.2.1.2.2.2.2.2.2.2.2.2.2.2.2.2
  simp (disch := first | omega | (unfold zt_in; omega)) only [↓zt_ckI, ↓if_pos, ↓if_neg, if_true, if_false, zt_letS, zt_ckI, if_pos, if_neg, e]
end PX
