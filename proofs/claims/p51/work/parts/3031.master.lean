/-! MASTERS: a card that no other hand can beat -/
section QM
variable {σ : zt_S}
theorem ec_allHands_4 {t : Nat} {w : Int → Int} (hw : RI w) (h : TB σ t w) : ∀ (m n : Nat) (v : Int64) (k : Int), k + m = 4 → m < n → 0 ≤ k → ∃ u, F_Tb_allHands_4 t n v k σ = some (u, σ) ∧ ∀ c, 0 ≤ c → c < 64 → hb u c = (hb v c || decide (c < 4 * w 0 ∧ k ≤ wHd w c))
  | m, 0, _, _, _, h1, _ => absurd h1 (Nat.not_lt_zero m)
  | 0, n + 1, v, k, h0, h1, h2 => by
    have a := hw.n
    refine ⟨v, ?_, fun c g0 g1 => ?_⟩
    · unfold F_Tb_allHands_4
      simp (disch := first | omega | (unfold zt_in; omega)) only [↓zt_ckI, ↓if_pos, ↓if_neg, if_true, if_false, zt_letS, zt_ckI, if_pos, if_neg, up_s, up_o, up_2, h0]
    · by_cases g2 : c < 4 * w 0
      · have := hw.hd g0 (show c < 52 by omega)
        rw [decide_eq_false (by omega), Bool.or_false]
      · rw [decide_eq_false (by omega), Bool.or_false]
  | m + 1, n + 1, v, k, h0, h1, h2 => by
    have a := hw.n
    obtain ⟨u, g1, g2⟩ := ec_allHands_4 hw h m n (v ||| σ.2.1 (t + 2) k) (k + 1) (by omega) (by omega) (by omega)
    refine ⟨u, ?_, fun c e0 e1 => ?_⟩
    · unfold F_Tb_allHands_4
      rw [g1]
      simp (disch := first | omega | (unfold zt_in; omega)) only [↓zt_ckI, ↓if_pos, ↓if_neg, if_true, if_false, zt_letS, zt_ckI, if_pos, if_neg, up_s, up_o, up_2, h0]
    · rw [g2 c e0 e1, hb_or, h.2.1 k c h2 (by omega) e0 e1, Bool.or_assoc, ← Bool.decide_or]
      congr 1
      rw [decide_eq_decide]
      omega
theorem ec_allHands {t : Nat} {w : Int → Int} (hw : RI w) (h : TB σ t w) : ∃ u, F_Tb_allHands t σ = some (u, σ) ∧ ∀ c, 0 ≤ c → c < 64 → hb u c = decide (c < 4 * w 0 ∧ 0 ≤ wHd w c) := by
  obtain ⟨u, g1, g2⟩ := ec_allHands_4 hw h 4 zt_N 0 0 (by decide) (zN (by decide)) (by decide)
  exact ⟨u, g1, fun c e0 e1 => by rw [g2 c e0 e1, hb_0, Bool.false_or]⟩
/-- d beats c from another hand -/
def wBd (w : Int → Int) (c d : Int) : Bool := decide (¬ wHd w d = -1 ∧ ¬ wHd w d = wHd w c ∧ wPw w c (wS w c) ≤ wPw w d (wS w c))
def wMs (w : Int → Int) (c : Int) : Bool := decide (¬ wHd w c = -1 ∧ ¬ 0 < cn (wBd w c) 0 (4 * w 0).toNat)
theorem em_isMasterOf_20 (h : RI (σ.1 164)) {c : Int} (hc : 0 ≤ c ∧ c < 4 * σ.1 164 0) (hh : ¬ wHd (σ.1 164) c = -1) : ∀ (m n : Nat) (k : Int), k + m = 4 * σ.1 164 0 → m < n → 0 ≤ k → F_M_isMasterOf_20 n c (wHd (σ.1 164) c) (wPw (σ.1 164) c (wS (σ.1 164) c)) k σ = some (if 0 < cn (wBd (σ.1 164) c) k m then 0 else 1, σ)
  | m, 0, _, _, h1, _ => absurd h1 (Nat.not_lt_zero m)
  | 0, n + 1, k, h0, h1, h2 => by
    have a := h.n
    rw [cn, if_neg (by decide)]
    unfold F_M_isMasterOf_20
    rw [em_cards, zt_bdS]
    simp (disch := first | omega | (unfold zt_in; omega)) only [↓zt_ckI, ↓if_pos, ↓if_neg, if_true, if_false, zt_letS, zt_ckI, if_pos, if_neg, up_s, up_o, up_2, h0]
  | m + 1, n + 1, k, h0, h1, h2 => by
    have a := h.n
    have hd := h.hd hc.1 (show c < 52 by omega)
    have kd := h.hd h2 (show k < 52 by omega)
    have sl := wS_lt h hc.1 hc.2
    have p1 := wPw_lt h (c := c) (u := wS (σ.1 164) c)
    have p2 := wPw_lt h (c := k) (u := wS (σ.1 164) c)
    have l := cn_le (wBd (σ.1 164) c) m (k + 1)
    rw [cn]
    unfold F_M_isMasterOf_20 F_M_isMasterOf_69 F_M_isMasterOf_71
    have ih := em_isMasterOf_20 h hc hh m n (k + 1) (by omega) (by omega) (by omega)
    rw [em_cards, zt_bdS]
    by_cases c1 : wHd (σ.1 164) k = -1
    · rw [if_neg (show ¬ wBd (σ.1 164) c k = true by unfold wBd; rw [decide_eq_true_eq]; omega), Int.zero_add]
      simp (disch := first | omega | (unfold zt_in; omega)) only [↓zt_ckI, ↓if_pos, ↓if_neg, if_true, if_false, zt_letS, zt_ckI, if_pos, if_neg, up_s, up_o, up_2, ↓eb_holderOf, c1, hh, ih]
    · by_cases c2 : wHd (σ.1 164) k = wHd (σ.1 164) c
      · rw [if_neg (show ¬ wBd (σ.1 164) c k = true by unfold wBd; rw [decide_eq_true_eq]; omega), Int.zero_add]
        simp (disch := first | omega | (unfold zt_in; omega)) only [↓zt_ckI, ↓if_pos, ↓if_neg, if_true, if_false, zt_letS, zt_ckI, if_pos, if_neg, up_s, up_o, up_2, ↓eb_holderOf, c2, hh, ih]
      · by_cases c3 : wPw (σ.1 164) k (wS (σ.1 164) c) < wPw (σ.1 164) c (wS (σ.1 164) c)
        · rw [if_neg (show ¬ wBd (σ.1 164) c k = true by unfold wBd; rw [decide_eq_true_eq]; omega), Int.zero_add]
          simp (disch := first | omega | (unfold zt_in; omega)) only [↓zt_ckI, ↓if_pos, ↓if_neg, if_true, if_false, zt_letS, zt_ckI, if_pos, if_neg, up_s, up_o, up_2, ↓eb_holderOf, ↓eb_suitOf h, ↓eb_powerWith h, c1, c2, c3, hh, ih]
        · rw [if_pos (show wBd (σ.1 164) c k = true by unfold wBd; rw [decide_eq_true_eq]; omega), if_pos (show 0 < 1 + cn (wBd (σ.1 164) c) (k + 1) m by omega)]
          simp (disch := first | omega | (unfold zt_in; omega)) only [↓zt_ckI, ↓if_pos, ↓if_neg, if_true, if_false, zt_letS, zt_ckI, if_pos, if_neg, up_s, up_o, up_2, ↓eb_holderOf, ↓eb_suitOf h, ↓eb_powerWith h, c1, c2, c3, hh]
theorem em_isMasterOf (h : RI (σ.1 164)) {c : Int} (hc : 0 ≤ c ∧ c < 4 * σ.1 164 0) : F_M_isMasterOf c σ = some (if wMs (σ.1 164) c = true then 1 else 0, σ) := by
  have a := h.n
  have sl := wS_lt h hc.1 hc.2
  unfold F_M_isMasterOf wMs
  rw [eb_holderOf ⟨hc.1, by omega⟩, eb_suitOf h ⟨hc.1, by omega⟩, eb_powerWith h hc ⟨by omega, by omega⟩]
  by_cases hh : wHd (σ.1 164) c = -1
  · rw [if_neg (by rw [decide_eq_true_eq]; exact fun z => z.1 hh), show zt_N = (zt_N - 1) + 1 by unfold zt_N; rfl, hh]
    unfold F_M_isMasterOf_20 F_M_isMasterOf_69
    rw [em_cards, zt_bdS]
    simp (disch := first | omega | (unfold zt_in; omega)) only [↓zt_ckI, ↓if_pos, ↓if_neg, if_true, if_false, zt_letS, zt_ckI, if_pos, if_neg, up_s, up_o, up_2, a]
  · rw [em_isMasterOf_20 h hc hh (4 * σ.1 164 0).toNat zt_N 0 (by omega) (zN (by omega)) (by decide)]
    by_cases g : 0 < cn (wBd (σ.1 164) c) 0 (4 * σ.1 164 0).toNat
    · rw [if_pos g, if_neg (by rw [decide_eq_true_eq]; exact fun z => z.2 g)]
    · rw [if_neg g, if_pos (decide_eq_true ⟨hh, g⟩)]
end QM
