/-! MASTERS in the class, both sides alike -/
section QN
variable {σ : zt_S}
theorem ec_best_80 (h : CO σ) {c : Int} {V : Int64} (hV : ∀ d, 0 ≤ d → d < 4 * σ.1 164 0 → (hb V d && decide (wPw (σ.1 164) c (wS (σ.1 164) c) ≤ wPw (σ.1 164) d (wS (σ.1 164) d))) = wBd (σ.1 164) c d) : ∀ (m n : Nat) (k : Int), k + m = 4 * σ.1 164 0 → m < n → 0 ≤ k → F_Tb_isBestOfHands_80 6 n (wPw (σ.1 164) c (wS (σ.1 164) c)) V k σ = some (if 0 < cn (wBd (σ.1 164) c) k m then 0 else 1, σ)
  | m, 0, _, _, h1, _ => absurd h1 (Nat.not_lt_zero m)
  | 0, n + 1, k, h0, h1, h2 => by
    have a := h.1.n
    rw [cn, if_neg (by decide)]
    unfold F_Tb_isBestOfHands_80
    rw [ed_cardCount h.hu]
    simp (disch := first | omega | (unfold zt_in; omega)) only [↓zt_ckI, ↓if_pos, ↓if_neg, if_true, if_false, zt_letS, zt_ckI, if_pos, if_neg, up_s, up_o, up_2, h0]
  | m + 1, n + 1, k, h0, h1, h2 => by
    have a := h.1.n
    have p1 := wPw_lt h.1 (c := c) (u := wS (σ.1 164) c)
    have p2 := wPw_lt h.1 (c := k) (u := wS (σ.1 164) k)
    have l := cn_le (wBd (σ.1 164) c) m (k + 1)
    have v := hV k h2 (by omega)
    have ih := ec_best_80 h hV m n (k + 1) (by omega) (by omega) (by omega)
    have tk : TK σ (6 + 1) (σ.1 164) := h.2.1.1
    rw [cn]
    unfold F_Tb_isBestOfHands_80 F_Tb_isBestOfHands_121
    rw [ed_cardCount h.hu]
    by_cases c1 : hb V k = true
    · by_cases c2 : wPw (σ.1 164) c (wS (σ.1 164) c) ≤ wPw (σ.1 164) k (wS (σ.1 164) k)
      · rw [c1, decide_eq_true c2] at v
        rw [if_pos (show wBd (σ.1 164) c k = true from v.symm), if_pos (show 0 < 1 + cn (wBd (σ.1 164) c) (k + 1) m by omega)]
        simp (disch := first | omega | (unfold zt_in; omega)) only [↓zt_ckI, ↓if_pos, ↓if_neg, if_true, if_false, zt_letS, zt_ckI, if_pos, if_neg, up_s, up_o, up_2, ↓be_has_t (c := k) ⟨h2, by omega⟩ c1, ↓ed_powerIfItLed (c := k) tk h.hu h.1 ⟨h2, by omega⟩]
      · rw [c1, decide_eq_false c2] at v
        rw [if_neg (show ¬ wBd (σ.1 164) c k = true by rw [← v]; decide), Int.zero_add]
        simp (disch := first | omega | (unfold zt_in; omega)) only [↓zt_ckI, ↓if_pos, ↓if_neg, if_true, if_false, zt_letS, zt_ckI, if_pos, if_neg, up_s, up_o, up_2, ↓be_has_t (c := k) ⟨h2, by omega⟩ c1, ↓ed_powerIfItLed (c := k) tk h.hu h.1 ⟨h2, by omega⟩, ih]
    · rw [Bool.eq_false_iff.mpr c1, Bool.false_and] at v
      rw [if_neg (show ¬ wBd (σ.1 164) c k = true by rw [← v]; decide), Int.zero_add]
      simp (disch := first | omega | (unfold zt_in; omega)) only [↓zt_ckI, ↓if_pos, ↓if_neg, if_true, if_false, zt_letS, zt_ckI, if_pos, if_neg, up_s, up_o, up_2, ↓be_has_f (c := k) ⟨h2, by omega⟩ c1, ih]
theorem ec_isBest (h : CO σ) {c : Int} (hc : 0 ≤ c ∧ c < 4 * σ.1 164 0) : F_Tb_isBestOfHands 6 c σ = some (if wMs (σ.1 164) c = true then 1 else 0, σ) := by
  have a := h.1.n
  have sl := wS_lt h.1 hc.1 hc.2
  have hd := h.1.hd hc.1 (show c < 52 by omega)
  have tk : TK σ (6 + 1) (σ.1 164) := h.2.1.1
  have e7 : σ.1 (6 + 1) 7 = σ.1 164 10 := h.2.1.1.2.2.1
  unfold F_Tb_isBestOfHands wMs
  rw [ed_holderOf h.hu h.1 h.2.1 hc, zt_ckI (show zt_in _ from ⟨by omega, by omega⟩)]
  by_cases hh : wHd (σ.1 164) c = -1
  · rw [if_pos hh, if_neg (by rw [decide_eq_true_eq]; exact fun z => z.1 hh)]
  · obtain ⟨C1, g1, g2⟩ := ec_cardsOf (s := zt_su 6) (σ := σ) (u := wS (σ.1 164) c) h.hu h.1 ⟨by omega, by omega⟩
    obtain ⟨C2, g3, g4⟩ := ec_cardsOf (s := zt_su 6) (σ := σ) (u := σ.1 164 10) h.hu h.1 ⟨by omega, by omega⟩
    obtain ⟨A, g5, g6⟩ := ec_allHands h.1 h.2.1
    have gH := h.2.1.2.1 (wHd (σ.1 164) c)
    rw [if_neg hh, ed_powerIfItLed tk h.hu h.1 hc, ed_suitOf h.hu h.1 ⟨hc.1, by omega⟩, g1, zt_bdS, e7, g3, zt_bdS, g5, zt_bdS, be_handOf ⟨by omega, by omega⟩]
    have hV : ∀ d, 0 ≤ d → d < 4 * σ.1 164 0 → (hb ((A &&& (σ.2.1 (6 + 2) (wHd (σ.1 164) c) ^^^ (-1 : Int64))) &&& (C1 ||| C2)) d && decide (wPw (σ.1 164) c (wS (σ.1 164) c) ≤ wPw (σ.1 164) d (wS (σ.1 164) d))) = wBd (σ.1 164) c d := fun d d0 d1 => by
      have dd := h.1.hd d0 (show d < 52 by omega)
      have r1 := wR_lt h.1 (c := c)
      rw [hb_and, hb_and, hb_xor, hb_or, g6 d d0 (by omega), gH d (by omega) (by omega) d0 (by omega), hb_m1 d0 (by omega), g2 d d0 (by omega), g4 d d0 (by omega)]
      unfold wBd
      rw [Bool.eq_iff_iff]
      simp only [Bool.and_eq_true, Bool.or_eq_true, decide_eq_true_eq, Bool.xor_true, Bool.not_eq_true', decide_eq_false_iff_not]
      by_cases x : wS (σ.1 164) d = wS (σ.1 164) c ∨ wS (σ.1 164) d = σ.1 164 10
      · have pw : wPw (σ.1 164) d (wS (σ.1 164) d) = wPw (σ.1 164) d (wS (σ.1 164) c) := by
          unfold wPw
          by_cases y : wS (σ.1 164) d = σ.1 164 10
          · rw [if_pos y, if_pos y]
          · rw [if_neg y, if_neg y, if_pos rfl, if_pos (by omega)]
        have ds := wS_lt h.1 d0 d1
        rw [pw]
        omega
      · have pw : wPw (σ.1 164) d (wS (σ.1 164) c) < wPw (σ.1 164) c (wS (σ.1 164) c) := by
          unfold wPw
          rw [if_neg (show ¬ wS (σ.1 164) d = σ.1 164 10 by omega), if_neg (show ¬ wS (σ.1 164) d = wS (σ.1 164) c by omega)]
          by_cases y : wS (σ.1 164) c = σ.1 164 10
          · rw [if_pos y]; omega
          · rw [if_neg y, if_pos rfl]; omega
        omega
    rw [ec_best_80 h hV (4 * σ.1 164 0).toNat zt_N 0 (by omega) (zN (by omega)) (by decide)]
    by_cases g : 0 < cn (wBd (σ.1 164) c) 0 (4 * σ.1 164 0).toNat
    · rw [if_pos g, if_neg (by rw [decide_eq_true_eq]; exact fun z => z.2 g)]
    · rw [if_neg g, if_pos (decide_eq_true ⟨hh, g⟩)]
theorem el_isMaster {c : Int} (h : CO σ) (hi : zt_in c) : F_L_isMaster c σ = if 0 ≤ c ∧ c < 4 * σ.1 164 0 then some (0, zt_uL σ 184 0 (zt_l (if wMs (σ.1 164) c = true then 1 else 0))) else some (1, zt_nx σ) := by
  have a := h.1.n
  unfold F_L_isMaster F_C_isMaster
  rw [ec_needCard h hi]
  by_cases h1 : 0 ≤ c ∧ c < 4 * σ.1 164 0
  · rw [if_pos h1, if_pos h1, zt_bxS, ec_isBest h h1, zt_bdS]
    cases wMs (σ.1 164) c
    · rfl
    · rfl
  · rw [if_neg h1, if_neg h1]
    rfl
theorem em_isMaster {τ : zt_S} {c : Int} (h : RI (τ.1 164)) (hi : zt_in c) : F_M_isMaster c τ = if 0 ≤ c ∧ c < 4 * τ.1 164 0 then some (if wMs (τ.1 164) c = true then 1 else 0, zt_up τ 163 0 0) else some (0, zt_up τ 163 0 1) := by
  have a := h.n
  have e : (zt_up τ 163 0 0).1 164 = τ.1 164 := up_f (by decide)
  have g : RI ((zt_up τ 163 0 0).1 164) := by rw [e]; exact h
  have z : (zt_up τ 163 0 0).1 163 0 = 0 := up_s _ _ _ _
  unfold F_M_isMaster F_M_isMaster_30 F_M_isMaster_31
  by_cases h1 : 0 ≤ c ∧ c < 4 * τ.1 164 0
  · have h2 : 0 ≤ c ∧ c < 4 * (zt_up τ 163 0 0).1 164 0 := by rw [e]; exact h1
    rw [if_pos h1, zt_letS, eb_card g h2, eb_fails1 z, zt_ckI zt_in0, if_pos rfl, em_isMasterOf g h2, zt_bdS, e]
    cases wMs (τ.1 164) c
    · rfl
    · rfl
  · have h2 : ¬ (0 ≤ c ∧ c < 4 * (zt_up τ 163 0 0).1 164 0) := by rw [e]; exact h1
    rw [if_neg h1, zt_letS, eb_nocard g hi h2, eb_fails0 (Or.inl rfl) z, zt_ckI (show zt_in 1 by decide), if_neg (by decide), up_up]
    rfl
theorem ak_isMaster {c : Int} (h : CO σ) (hi : zt_in c) : AK (F_L_isMaster c) (F_M_isMaster c) σ :=
  ak_if (el_isMaster h hi) (fun τ e => ⟨0, by rw [em_isMaster (by rw [e]; exact h.1) hi, e]⟩)
end QN
