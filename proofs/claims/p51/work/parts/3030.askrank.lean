/-! THE RANKING -/
section QR
variable {σ : zt_S}
def wA (w : Int → Int) (p q : Int) : Bool := decide (w (20 + p) < w (20 + q) ∨ (w (20 + q) = w (20 + p) ∧ q < p))
def wAh (w : Int → Int) (p : Int) : Int := cn (wA w p) 0 (w 1).toNat
def wRk (w : Int → Int) (v : Int) : Int → Nat → Int
  | _, 0 => -1
  | k, m + 1 => if wAh w k = v then k else wRk w v (k + 1) m
theorem ec_ahead_14 (h : CO σ) {p : Int} (hp : 0 ≤ p ∧ p < σ.1 164 1) : ∀ (m n : Nat) (acc k : Int), k + m = σ.1 164 1 → m < n → 0 ≤ k → 0 ≤ acc → acc ≤ k → F_Tb_playersAhead_14 6 n p (σ.1 164 (20 + p)) acc k σ = some (acc + cn (wA (σ.1 164) p) k m, σ)
  | m, 0, _, _, _, h1, _, _, _ => absurd h1 (Nat.not_lt_zero m)
  | 0, n + 1, acc, k, h0, h1, h2, h3, h4 => by
    have a := h.1.n
    have e : σ.1 (zt_su 6) 1 = σ.1 164 1 := h.2.2.2.1
    rw [cn, Int.add_zero]
    unfold F_Tb_playersAhead_14
    simp (disch := first | omega | (unfold zt_in; omega)) only [↓zt_ckI, ↓if_pos, ↓if_neg, if_true, if_false, zt_letS, zt_ckI, if_pos, if_neg, up_s, up_o, up_2, e]
  | m + 1, n + 1, acc, k, h0, h1, h2, h3, h4 => by
    have a := h.1.n
    have e : σ.1 (zt_su 6) 1 = σ.1 164 1 := h.2.2.2.1
    have q : σ.1 (6 + 6) k = σ.1 164 (20 + k) := (h.2.1.2.2.1 k h2 (by omega)).2.2.2
    have r1 := h.1.2.2.2.2.1 k h2 (by omega)
    have r2 := h.1.2.2.2.2.1 p hp.1 (by omega)
    rw [cn]
    unfold F_Tb_playersAhead_14 F_Tb_playersAhead_55 F_Tb_playersAhead_58
    by_cases c1 : σ.1 164 (20 + p) < σ.1 164 (20 + k)
    · rw [if_pos (show wA (σ.1 164) p k = true from decide_eq_true (Or.inl c1))]
      simp (disch := first | omega | (unfold zt_in; omega)) only [↓zt_ckI, ↓if_pos, ↓if_neg, if_true, if_false, zt_letS, zt_ckI, if_pos, if_neg, up_s, up_o, up_2, e, ↓be_at, q]
      rw [ec_ahead_14 h hp m n (acc + 1) (k + 1) (by omega) (by omega) (by omega) (by omega) (by omega), Int.add_assoc]
    · by_cases c2 : σ.1 164 (20 + k) = σ.1 164 (20 + p)
      · by_cases c3 : k < p
        · rw [if_pos (show wA (σ.1 164) p k = true from decide_eq_true (Or.inr ⟨c2, c3⟩))]
          simp (disch := first | omega | (unfold zt_in; omega)) only [↓zt_ckI, ↓if_pos, ↓if_neg, if_true, if_false, zt_letS, zt_ckI, if_pos, if_neg, up_s, up_o, up_2, e, ↓be_at, q]
          rw [ec_ahead_14 h hp m n (acc + 1) (k + 1) (by omega) (by omega) (by omega) (by omega) (by omega), Int.add_assoc]
        · rw [if_neg (show ¬ wA (σ.1 164) p k = true by unfold wA; rw [decide_eq_true_eq]; omega), Int.zero_add]
          simp (disch := first | omega | (unfold zt_in; omega)) only [↓zt_ckI, ↓if_pos, ↓if_neg, if_true, if_false, zt_letS, zt_ckI, if_pos, if_neg, up_s, up_o, up_2, e, ↓be_at, q]
          rw [ec_ahead_14 h hp m n acc (k + 1) (by omega) (by omega) (by omega) (by omega) (by omega)]
      · rw [if_neg (show ¬ wA (σ.1 164) p k = true by unfold wA; rw [decide_eq_true_eq]; omega), Int.zero_add]
        simp (disch := first | omega | (unfold zt_in; omega)) only [↓zt_ckI, ↓if_pos, ↓if_neg, if_true, if_false, zt_letS, zt_ckI, if_pos, if_neg, up_s, up_o, up_2, e, ↓be_at, q]
        rw [ec_ahead_14 h hp m n acc (k + 1) (by omega) (by omega) (by omega) (by omega) (by omega)]
theorem ec_ahead (h : CO σ) {p : Int} (hp : 0 ≤ p ∧ p < σ.1 164 1) : F_Tb_playersAhead 6 p σ = some (wAh (σ.1 164) p, σ) := by
  have a := h.1.n
  have q : σ.1 (6 + 6) p = σ.1 164 (20 + p) := (h.2.1.2.2.1 p hp.1 (by omega)).2.2.2
  unfold F_Tb_playersAhead
  rw [e_at ⟨hp.1, by omega⟩ (by decide), zt_bdS, q, ec_ahead_14 h hp (σ.1 164 1).toNat zt_N 0 0 (by omega) (zN (by omega)) (by decide) (by decide) (by decide), Int.zero_add]
  rfl
theorem wAh_lt (h : RI (σ.1 164)) {p : Int} : 0 ≤ wAh (σ.1 164) p ∧ wAh (σ.1 164) p ≤ 4 := by
  have a := h.n
  have l := cn_le (wA (σ.1 164) p) (σ.1 164 1).toNat 0
  unfold wAh
  omega
theorem ec_ranking_7 (h : CO σ) {v : Int} (hv : zt_in v) : ∀ (m n : Nat) (k : Int), k + m = σ.1 164 1 → m < n → 0 ≤ k → F_C_ranking_7 n v k σ = some (.inl (wRk (σ.1 164) v k m), σ)
  | m, 0, _, _, h1, _ => absurd h1 (Nat.not_lt_zero m)
  | 0, n + 1, k, h0, h1, h2 => by
    have a := h.1.n
    have e : σ.1 3 1 = σ.1 164 1 := h.2.2.2.1
    rw [wRk]
    unfold F_C_ranking_7
    simp (disch := first | omega | (unfold zt_in; omega)) only [↓zt_ckI, ↓if_pos, ↓if_neg, if_true, if_false, zt_letS, zt_ckI, if_pos, if_neg, up_s, up_o, up_2, e]
  | m + 1, n + 1, k, h0, h1, h2 => by
    have a := h.1.n
    have e : σ.1 3 1 = σ.1 164 1 := h.2.2.2.1
    have l := wAh_lt h.1 (p := k)
    rw [wRk]
    unfold F_C_ranking_7
    rw [ec_ahead h ⟨h2, by omega⟩, zt_bdS, ec_ranking_7 h hv m n (k + 1) (by omega) (by omega) (by omega)]
    by_cases c1 : wAh (σ.1 164) k = v
    · rw [if_pos c1]
      simp (disch := first | omega | (unfold zt_in; omega)) only [↓zt_ckI, ↓if_pos, ↓if_neg, if_true, if_false, zt_letS, zt_ckI, if_pos, if_neg, up_s, up_o, up_2, e, c1]
    · rw [if_neg c1]
      simp (disch := first | omega | (unfold zt_in; omega)) only [↓zt_ckI, ↓if_pos, ↓if_neg, if_true, if_false, zt_letS, zt_ckI, if_pos, if_neg, up_s, up_o, up_2, e, c1]
theorem em_ranking_37 (h : RI (σ.1 164)) {v p : Int} {r : Int → Int → zt_S → Option (Int × zt_S)} (hp : 0 ≤ p ∧ p < σ.1 164 1) : ∀ (m n : Nat) (acc k : Int), k + m = σ.1 164 1 → m < n → 0 ≤ k → 0 ≤ acc → acc ≤ k → F_M_ranking_37 r n v p acc k σ = F_M_ranking_112 r v p (acc + cn (wA (σ.1 164) p) k m) σ
  | m, 0, _, _, _, h1, _, _, _ => absurd h1 (Nat.not_lt_zero m)
  | 0, n + 1, acc, k, h0, h1, h2, h3, h4 => by
    have a := h.n
    rw [cn, Int.add_zero]
    unfold F_M_ranking_37
    simp (disch := first | omega | (unfold zt_in; omega)) only [↓zt_ckI, ↓if_pos, ↓if_neg, if_true, if_false, zt_letS, zt_ckI, if_pos, if_neg, up_s, up_o, up_2, h0]
  | m + 1, n + 1, acc, k, h0, h1, h2, h3, h4 => by
    have a := h.n
    have r1 := h.2.2.2.2.1 k h2 (by omega)
    have r2 := h.2.2.2.2.1 p hp.1 (by omega)
    rw [cn]
    unfold F_M_ranking_37 F_M_ranking_99 F_M_ranking_103 F_M_ranking_104
    by_cases c1 : σ.1 164 (20 + p) < σ.1 164 (20 + k)
    · rw [if_pos (show wA (σ.1 164) p k = true from decide_eq_true (Or.inl c1)), em_ranking_37 h hp m n (acc + 1) (k + 1) (by omega) (by omega) (by omega) (by omega) (by omega), Int.add_assoc]
      simp (disch := first | omega | (unfold zt_in; omega)) only [↓zt_ckI, ↓if_pos, ↓if_neg, if_true, if_false, zt_letS, zt_ckI, if_pos, if_neg, up_s, up_o, up_2, c1]
    · by_cases c2 : σ.1 164 (20 + k) = σ.1 164 (20 + p)
      · by_cases c3 : k < p
        · rw [if_pos (show wA (σ.1 164) p k = true from decide_eq_true (Or.inr ⟨c2, c3⟩)), em_ranking_37 h hp m n (acc + 1) (k + 1) (by omega) (by omega) (by omega) (by omega) (by omega), Int.add_assoc]
          simp (disch := first | omega | (unfold zt_in; omega)) only [↓zt_ckI, ↓if_pos, ↓if_neg, if_true, if_false, zt_letS, zt_ckI, if_pos, if_neg, up_s, up_o, up_2, c2]
        · rw [if_neg (show ¬ wA (σ.1 164) p k = true by unfold wA; rw [decide_eq_true_eq]; omega), Int.zero_add, em_ranking_37 h hp m n (acc + 0) (k + 1) (by omega) (by omega) (by omega) (by omega) (by omega), Int.add_zero]
          simp (disch := first | omega | (unfold zt_in; omega)) only [↓zt_ckI, ↓if_pos, ↓if_neg, if_true, if_false, zt_letS, zt_ckI, if_pos, if_neg, up_s, up_o, up_2, c2]
      · rw [if_neg (show ¬ wA (σ.1 164) p k = true by unfold wA; rw [decide_eq_true_eq]; omega), Int.zero_add, em_ranking_37 h hp m n (acc + 0) (k + 1) (by omega) (by omega) (by omega) (by omega) (by omega), Int.add_zero]
        simp (disch := first | omega | (unfold zt_in; omega)) only [↓zt_ckI, ↓if_pos, ↓if_neg, if_true, if_false, zt_letS, zt_ckI, if_pos, if_neg, up_s, up_o, up_2, c2]
theorem em_ranking_22 (h : RI (σ.1 164)) {v : Int} (hv : zt_in v) : ∀ (m n : Nat) (k : Int), k + m = σ.1 164 1 → m < n → 0 ≤ k → F_M_ranking_22 n v k σ = some (wRk (σ.1 164) v k m, σ)
  | m, 0, _, _, h1, _ => absurd h1 (Nat.not_lt_zero m)
  | 0, n + 1, k, h0, h1, h2 => by
    have a := h.n
    rw [wRk]
    unfold F_M_ranking_22
    simp (disch := first | omega | (unfold zt_in; omega)) only [↓zt_ckI, ↓if_pos, ↓if_neg, if_true, if_false, zt_letS, zt_ckI, if_pos, if_neg, up_s, up_o, up_2, h0]
  | m + 1, n + 1, k, h0, h1, h2 => by
    have a := h.n
    have l := wAh_lt h (p := k)
    have e := em_ranking_37 h (v := v) (p := k) (r := F_M_ranking_22 n) ⟨h2, by omega⟩ (σ.1 164 1).toNat zt_N 0 0 (by omega) (zN (by omega)) (by decide) (by decide) (by decide)
    rw [Int.zero_add] at e
    have e2 : cn (wA (σ.1 164) k) 0 (σ.1 164 1).toNat = wAh (σ.1 164) k := rfl
    rw [e2] at e
    rw [wRk]
    unfold F_M_ranking_22
    rw [e]
    unfold F_M_ranking_112
    rw [em_ranking_22 h hv m n (k + 1) (by omega) (by omega) (by omega)]
    by_cases c1 : wAh (σ.1 164) k = v
    · rw [if_pos c1]
      simp (disch := first | omega | (unfold zt_in; omega)) only [↓zt_ckI, ↓if_pos, ↓if_neg, if_true, if_false, zt_letS, zt_ckI, if_pos, if_neg, up_s, up_o, up_2, c1]
    · rw [if_neg c1]
      simp (disch := first | omega | (unfold zt_in; omega)) only [↓zt_ckI, ↓if_pos, ↓if_neg, if_true, if_false, zt_letS, zt_ckI, if_pos, if_neg, up_s, up_o, up_2, c1]
theorem el_ranking {p : Int} (h : CO σ) (hi : zt_in p) : F_L_ranking p σ = if 0 ≤ p ∧ p < σ.1 164 1 then some (0, zt_uL σ 184 0 (zt_l (wRk (σ.1 164) p 0 (σ.1 164 1).toNat))) else some (1, zt_nx σ) := by
  have a := h.1.n
  unfold F_L_ranking F_C_ranking
  rw [ec_needPlayer h hi]
  by_cases h1 : 0 ≤ p ∧ p < σ.1 164 1
  · rw [if_pos h1, if_pos h1, zt_bxS, ec_ranking_7 h hi (σ.1 164 1).toNat zt_N 0 (by omega) (zN (by omega)) (by decide)]
    rfl
  · rw [if_neg h1, if_neg h1]
    rfl
theorem em_ranking {τ : zt_S} {p : Int} (h : RI (τ.1 164)) (hi : zt_in p) : F_M_ranking p τ = if 0 ≤ p ∧ p < τ.1 164 1 then some (wRk (τ.1 164) p 0 (τ.1 164 1).toNat, zt_up τ 163 0 0) else some (0, zt_up τ 163 0 1) := by
  have a := h.n
  have e : (zt_up τ 163 0 0).1 164 = τ.1 164 := up_f (by decide)
  have g : RI ((zt_up τ 163 0 0).1 164) := by rw [e]; exact h
  have z : (zt_up τ 163 0 0).1 163 0 = 0 := up_s _ _ _ _
  unfold F_M_ranking
  by_cases h1 : 0 ≤ p ∧ p < τ.1 164 1
  · have h2 : 0 ≤ p ∧ p < (zt_up τ 163 0 0).1 164 1 := by rw [e]; exact h1
    rw [if_pos h1, zt_letS, eb_player g h2, eb_fails1 z, zt_ckI zt_in0, if_pos rfl, em_ranking_22 g hi (τ.1 164 1).toNat zt_N 0 (by rw [e]; omega) (zN (by omega)) (by decide), e]
  · have h2 : ¬ (0 ≤ p ∧ p < (zt_up τ 163 0 0).1 164 1) := by rw [e]; exact h1
    rw [if_neg h1, zt_letS, eb_noplayer g hi h2, eb_fails0 (Or.inl rfl) z, zt_ckI (show zt_in 1 by decide), if_neg (by decide), up_up]
theorem ak_ranking {p : Int} (h : CO σ) (hi : zt_in p) : AK (F_L_ranking p) (F_M_ranking p) σ :=
  ak_if (el_ranking h hi) (fun τ e => ⟨0, by rw [em_ranking (by rw [e]; exact h.1) hi, e]⟩)
end QR
