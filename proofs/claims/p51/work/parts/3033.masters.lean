/-! HOW MANY masters a hand has -/
section QL
variable {σ : zt_S}
def wMa (w : Int → Int) (p d : Int) : Bool := decide (wHd w d = p) && wMs w d
theorem ec_masters_9 (h : CO σ) {p : Int} (hp : 0 ≤ p ∧ p < 4) : ∀ (m n : Nat) (acc k : Int), k + m = 4 * σ.1 164 0 → m < n → 0 ≤ k → F_C_masters_9 n p acc k σ = some (.inl (acc + cn (wMa (σ.1 164) p) k m), σ)
  | m, 0, _, _, _, h1, _ => absurd h1 (Nat.not_lt_zero m)
  | 0, n + 1, acc, k, h0, h1, h2 => by
    have a := h.1.n
    rw [cn, Int.add_zero]
    unfold F_C_masters_9
    rw [ed_cardCount h.2.2]
    simp (disch := first | omega | (unfold zt_in; omega)) only [↓zt_ckI, ↓if_pos, ↓if_neg, if_true, if_false, zt_letS, zt_ckI, if_pos, if_neg, up_s, up_o, up_2, h0]
  | m + 1, n + 1, acc, k, h0, h1, h2 => by
    have a := h.1.n
    have kd := h.1.hd h2 (show k < 52 by omega)
    rw [cn]
    unfold F_C_masters_9 F_C_masters_46
    rw [ed_cardCount h.2.2, zt_ckI (show _ ∧ _ from ⟨⟨by omega, by omega⟩, ⟨by omega, by omega⟩⟩), if_pos (show k < 4 * σ.1 164 0 by omega), ed_holderOf h.hu h.1 h.2.1 ⟨h2, by omega⟩, zt_ckI (show _ ∧ _ from ⟨⟨by omega, by omega⟩, ⟨by omega, by omega⟩⟩)]
    unfold wMa
    by_cases c1 : wHd (σ.1 164) k = p
    · rw [if_pos c1, decide_eq_true c1, Bool.true_and, ec_isBest h ⟨h2, by omega⟩, zt_bdS]
      cases wMs (σ.1 164) k
      · rw [if_neg (show ¬ false = true by decide), zt_ckI zt_in0, if_pos rfl, ec_masters_9 h hp m n acc (k + 1) (by omega) (by omega) (by omega), Int.zero_add]
        rfl
      · rw [if_pos (show true = true from rfl), zt_ckI (show zt_in 1 by decide), if_neg (show ¬ (1 : Int) = 0 by decide), ec_masters_9 h hp m n (acc + 1) (k + 1) (by omega) (by omega) (by omega), Int.add_assoc]
        rfl
    · rw [if_neg c1, decide_eq_false c1, Bool.false_and, if_neg (show ¬ false = true by decide), ec_masters_9 h hp m n acc (k + 1) (by omega) (by omega) (by omega), Int.zero_add]
      rfl
theorem em_masters_24 (h : RI (σ.1 164)) {p : Int} (hp : 0 ≤ p ∧ p < 4) : ∀ (m n : Nat) (acc k : Int), k + m = 4 * σ.1 164 0 → m < n → 0 ≤ k → F_M_masters_24 n p acc k σ = some (acc + cn (wMa (σ.1 164) p) k m, σ)
  | m, 0, _, _, _, h1, _ => absurd h1 (Nat.not_lt_zero m)
  | 0, n + 1, acc, k, h0, h1, h2 => by
    have a := h.n
    rw [cn, Int.add_zero]
    unfold F_M_masters_24
    rw [em_cards, zt_bdS]
    simp (disch := first | omega | (unfold zt_in; omega)) only [↓zt_ckI, ↓if_pos, ↓if_neg, if_true, if_false, zt_letS, zt_ckI, if_pos, if_neg, up_s, up_o, up_2, h0]
  | m + 1, n + 1, acc, k, h0, h1, h2 => by
    have a := h.n
    have kd := h.hd h2 (show k < 52 by omega)
    rw [cn]
    unfold F_M_masters_24 F_M_masters_54 F_M_masters_55
    rw [em_cards, zt_bdS, zt_ckI (show _ ∧ _ from ⟨⟨by omega, by omega⟩, ⟨by omega, by omega⟩⟩), if_pos (show k < 4 * σ.1 164 0 by omega), eb_holderOf ⟨h2, by omega⟩, zt_ckI (show _ ∧ _ from ⟨⟨by omega, by omega⟩, ⟨by omega, by omega⟩⟩)]
    unfold wMa
    by_cases c1 : wHd (σ.1 164) k = p
    · rw [if_pos c1, decide_eq_true c1, Bool.true_and, em_isMasterOf h ⟨h2, by omega⟩, zt_bdS]
      cases wMs (σ.1 164) k
      · rw [if_neg (show ¬ false = true by decide), zt_ckI zt_in0, if_pos rfl, em_masters_24 h hp m n (acc + 0) (k + 1) (by omega) (by omega) (by omega), Int.zero_add, Int.add_zero]
        rfl
      · rw [if_pos (show true = true from rfl), zt_ckI (show zt_in 1 by decide), if_neg (show ¬ (1 : Int) = 0 by decide), em_masters_24 h hp m n (acc + 1) (k + 1) (by omega) (by omega) (by omega), Int.add_assoc]
        rfl
    · rw [if_neg c1, decide_eq_false c1, Bool.false_and, if_neg (show ¬ false = true by decide), em_masters_24 h hp m n (acc + 0) (k + 1) (by omega) (by omega) (by omega), Int.zero_add, Int.add_zero]
      rfl
theorem el_masters {p : Int} (h : CO σ) (hi : zt_in p) : F_L_masters p σ = if 0 ≤ p ∧ p < σ.1 164 1 then some (0, zt_uL σ 184 0 (zt_l (cn (wMa (σ.1 164) p) 0 (4 * σ.1 164 0).toNat))) else some (1, zt_nx σ) := by
  have a := h.1.n
  unfold F_L_masters F_C_masters
  rw [ec_needPlayer h hi]
  by_cases h1 : 0 ≤ p ∧ p < σ.1 164 1
  · rw [if_pos h1, if_pos h1, zt_bxS, ec_masters_9 h ⟨h1.1, by omega⟩ (4 * σ.1 164 0).toNat zt_N 0 0 (by omega) (zN (by omega)) (by decide), Int.zero_add]
    rfl
  · rw [if_neg h1, if_neg h1]
    rfl
theorem em_masters {τ : zt_S} {p : Int} (h : RI (τ.1 164)) (hi : zt_in p) : F_M_masters p τ = if 0 ≤ p ∧ p < τ.1 164 1 then some (cn (wMa (τ.1 164) p) 0 (4 * τ.1 164 0).toNat, zt_up τ 163 0 0) else some (0, zt_up τ 163 0 1) := by
  have a := h.n
  have e : (zt_up τ 163 0 0).1 164 = τ.1 164 := up_f (by decide)
  have g : RI ((zt_up τ 163 0 0).1 164) := by rw [e]; exact h
  have z : (zt_up τ 163 0 0).1 163 0 = 0 := up_s _ _ _ _
  unfold F_M_masters
  by_cases h1 : 0 ≤ p ∧ p < τ.1 164 1
  · have h2 : 0 ≤ p ∧ p < (zt_up τ 163 0 0).1 164 1 := by rw [e]; exact h1
    rw [if_pos h1, zt_letS, eb_player g h2, eb_fails1 z, zt_ckI zt_in0, if_pos rfl, em_masters_24 g ⟨h1.1, by omega⟩ (4 * τ.1 164 0).toNat zt_N 0 0 (by rw [e]; omega) (zN (by omega)) (by decide), Int.zero_add, e]
  · have h2 : ¬ (0 ≤ p ∧ p < (zt_up τ 163 0 0).1 164 1) := by rw [e]; exact h1
    rw [if_neg h1, zt_letS, eb_noplayer g hi h2, eb_fails0 (Or.inl rfl) z, zt_ckI (show zt_in 1 by decide), if_neg (by decide), up_up]
theorem ak_masters {p : Int} (h : CO σ) (hi : zt_in p) : AK (F_L_masters p) (F_M_masters p) σ :=
  ak_if (el_masters h hi) (fun τ e => ⟨0, by rw [em_masters (by rw [e]; exact h.1) hi, e]⟩)
end QL
