/-! inHand: a card of a hand by its place -/
/-- the number at place i among those from k on that hold; -1 -/
def wFi (P : Int → Bool) : Int → Int → Nat → Int
  | _, _, 0 => -1
  | i, k, m + 1 => if P k = true then (if i = 0 then k else wFi P (i - 1) (k + 1) m) else wFi P i (k + 1) m
theorem wFi_congr {P Q : Int → Bool} : ∀ (m : Nat) (i k : Int), (∀ c, k ≤ c → c < k + m → P c = Q c) → wFi P i k m = wFi Q i k m
  | 0, _, _, _ => rfl
  | m + 1, i, k, h => by
    rw [wFi, wFi, h k (by omega) (by omega), wFi_congr m (i - 1) (k + 1) (fun c h1 h2 => h c (by omega) (by omega)), wFi_congr m i (k + 1) (fun c h1 h2 => h c (by omega) (by omega))]
theorem wFi_app {P : Int → Bool} (n : Nat) : ∀ (m : Nat) (i k : Int), 0 ≤ i → i < cn P k m → wFi P i k (m + n) = wFi P i k m
  | 0, i, k, h0, h1 => by rw [cn] at h1; omega
  | m + 1, i, k, h0, h1 => by
    rw [show m + 1 + n = (m + n) + 1 by omega, wFi, wFi]
    rw [cn] at h1
    by_cases hk : P k = true
    · rw [if_pos hk, if_pos hk]
      rw [if_pos hk] at h1
      by_cases hi : i = 0
      · rw [if_pos hi, if_pos hi]
      · rw [if_neg hi, if_neg hi, wFi_app n m (i - 1) (k + 1) (by omega) (by omega)]
    · rw [if_neg hk, if_neg hk]
      rw [if_neg hk] at h1
      exact wFi_app n m i (k + 1) h0 (by omega)
theorem wHc_cut {w : Int → Int} {p : Int} (h : RI w) (hp : 0 ≤ p) : cn (fun c => decide (wHd w c = p)) 0 (4 * w 0).toNat = wHc w p := by
  have a := h.n
  have b := h.2.2.2.2.2.2.1
  unfold wHc
  have e : 52 = (4 * w 0).toNat + (52 - (4 * w 0).toNat) := by omega
  rw [e, cn_app _ _ _ 0, cn_none (52 - (4 * w 0).toNat) _ (fun c h0 h1 => by
    have b1 := (b c (by omega) (by omega)).2.2 (by omega)
    unfold wHd
    exact decide_eq_false (by omega)), Int.add_zero]
section IH
variable {σ : zt_S}
theorem ec_inHand_40 {v : Int64} {i : Int} : ∀ (m n : Nat) (b k : Int), k + m = 52 → m < n → 0 ≤ k → 0 ≤ b → b ≤ i → i < 1000 → F_C_inHand_40 n i v b k σ = some (.inl (wFi (hb v) (i - b) k m), σ)
  | m, 0, _, _, _, h1, _, _, _, _ => absurd h1 (Nat.not_lt_zero m)
  | 0, n + 1, b, k, h0, h1, h2, h3, h4, h5 => by
    rw [F_C_inHand_40, zt_ckI (by unfold zt_in; omega), if_neg (by omega), wFi]
  | m + 1, n + 1, b, k, h0, h1, h2, h3, h4, h5 => by
    have ih := ec_inHand_40 (v := v) (i := i) m n
    rw [F_C_inHand_40, zt_ckI (by unfold zt_in; omega), if_pos (by omega), wFi]
    by_cases hk : hb v k = true
    · rw [be_has_t ⟨by omega, by omega⟩ hk, zt_ckI (show zt_in 1 by decide), if_neg (by decide), zt_ckI ⟨by unfold zt_in; omega, by unfold zt_in; omega⟩, if_pos hk]
      by_cases hi : b = i
      · rw [if_pos hi, if_pos (by omega)]
      · rw [if_neg hi, if_neg (by omega)]
        unfold F_C_inHand_68
        rw [ih (b + 1) (k + 1) (by omega) (by omega) (by omega) (by omega) (by omega) (by omega), show i - (b + 1) = i - b - 1 by omega]
    · rw [be_has_f ⟨by omega, by omega⟩ hk, zt_ckI (show zt_in 0 by decide), if_pos rfl, if_neg hk]
      unfold F_C_inHand_68
      rw [ih b (k + 1) (by omega) (by omega) (by omega) (by omega) (by omega) (by omega)]
theorem el_inHand {p i : Int} (h : CO σ) (hi : zt_in p) (hj : zt_in i) : F_L_inHand p i σ = if (0 ≤ p ∧ p < σ.1 164 1) ∧ 0 ≤ i ∧ i < wHc (σ.1 164) p then some (0, zt_uL σ 184 0 (zt_l (wFi (fun c => decide (wHd (σ.1 164) c = p)) i 0 52))) else some (1, zt_nx σ) := by
  have a := h.1.n
  unfold F_L_inHand F_C_inHand F_C_inHand_26
  rw [ec_needPlayer h hi]
  by_cases h1 : 0 ≤ p ∧ p < σ.1 164 1
  · rw [if_pos h1, zt_bxS, be_handOf ⟨h1.1, by omega⟩]
    have hc := hand_count h.1 h1.1 (fun c h0 h3 => h.2.1.2.1 p c h1.1 (by omega) h0 h3)
    have hl : 0 ≤ wHc (σ.1 164) p ∧ wHc (σ.1 164) p ≤ 52 := cn_le _ 52 0
    by_cases h2 : i < 0
    · rw [zt_ckI hj, if_pos h2, if_neg (fun z => by omega)]
      rfl
    · rw [zt_ckI hj, if_neg h2, be_bitCount, hc, zt_ckI ⟨hj, by unfold zt_in; omega⟩]
      by_cases h3 : i < wHc (σ.1 164) p
      · rw [if_pos h3, if_pos ⟨h1, by omega, h3⟩, ec_inHand_40 52 _ 0 0 (by omega) (zN (by omega)) (by omega) (by omega) (by omega) (by omega), Int.sub_zero, wFi_congr (Q := fun c => decide (wHd (σ.1 164) c = p)) 52 i 0 (fun c k0 k1 => by
          rw [h.2.1.2.1 p c h1.1 (by omega) k0 (by omega)]
          have b1 := h.1.2.2.2.2.2.2.1 c k0 (by omega)
          unfold wHd
          by_cases k2 : c < 4 * σ.1 164 0
          · simp [k2]
          · have b2 := b1.2.2 (by omega)
            rw [decide_eq_false (by omega), decide_eq_false (by omega)])]
        rfl
      · rw [if_neg h3, if_neg (fun z => h3 z.2.2)]
        rfl
  · rw [if_neg h1, if_neg (fun z => h1 z.1)]
    rfl
theorem zt_w_in {x : Int} (h : zt_in x) : zt_w x = x := zt_ti h
theorem zt_w_dec {x : Int} (h : zt_in x) : zt_in (zt_w (x + -1)) ∧ (x ≠ -2147483648 → zt_w (x + -1) = x - 1) ∧ (x = -2147483648 → zt_w (x + -1) = 2147483647) := by
  have h2 : -2147483648 ≤ x ∧ x < 2147483648 := h
  by_cases hx : x = -2147483648
  · subst hx
    have e : zt_w (-2147483648 + -1) = 2147483647 := by decide +kernel
    rw [e]
    exact ⟨by decide, fun z => absurd rfl z, fun _ => rfl⟩
  · have e : zt_w (x + -1) = x - 1 := by rw [zt_w_in (show zt_in (x + -1) by unfold zt_in; omega)]; omega
    rw [e]
    exact ⟨by unfold zt_in; omega, fun _ => rfl, fun z => absurd z hx⟩
theorem em_inHand_25 {p : Int} (h : RI (σ.1 164)) (hp : 0 ≤ p ∧ p < 4) : ∀ (m n : Nat) (v k : Int), k + m = 4 * σ.1 164 0 → m < n → 0 ≤ k → zt_in v → ((0 ≤ v ∧ v < cn (fun c => decide (wHd (σ.1 164) c = p)) k m) → F_M_inHand_25 n p v k σ = some (wFi (fun c => decide (wHd (σ.1 164) c = p)) v k m, σ)) ∧ ((v < 0 ∨ cn (fun c => decide (wHd (σ.1 164) c = p)) k m ≤ v) → F_M_inHand_25 n p v k σ = some (0, zt_up σ 163 0 1))
  | m, 0, _, _, _, h1, _, _ => absurd h1 (Nat.not_lt_zero m)
  | 0, n + 1, v, k, h0, h1, h2, h3 => by
    have a := h.n
    refine ⟨fun z => by rw [cn] at z; omega, fun _ => ?_⟩
    rw [F_M_inHand_25, em_cards, zt_bdS, zt_ckI ⟨by unfold zt_in; omega, by unfold zt_in; omega⟩, if_neg (by omega)]
    rfl
  | m + 1, n + 1, v, k, h0, h1, h2, h3 => by
    have a := h.n
    have hd := h.hd h2 (c := k) (by omega)
    have ih := em_inHand_25 h hp m n
    have dec := zt_w_dec h3
    have cl := cn_le (fun c => decide (wHd (σ.1 164) c = p)) m (k + 1)
    have h3' : -2147483648 ≤ v ∧ v < 2147483648 := h3
    rw [F_M_inHand_25, em_cards, zt_bdS, zt_ckI ⟨by unfold zt_in; omega, by unfold zt_in; omega⟩, if_pos (by omega), em_holderOf ⟨by omega, by omega⟩, zt_bdS, zt_ckI ⟨by unfold zt_in; omega, by unfold zt_in; omega⟩, cn, wFi]
    unfold F_M_inHand_57
    by_cases hk : wHd (σ.1 164) k = p
    · rw [if_pos hk, if_pos (decide_eq_true hk), if_pos (decide_eq_true hk), zt_ckI h3]
      by_cases hv : v = 0
      · rw [if_pos hv, if_pos hv]
        exact ⟨fun _ => rfl, fun z => by omega⟩
      · rw [if_neg hv, if_neg hv]
        have g := ih (zt_w (v + -1)) (k + 1) (by omega) (by omega) (by omega) dec.1
        by_cases hm : v = -2147483648
        · have e := dec.2.2 hm
          refine ⟨fun z => by omega, fun _ => ?_⟩
          rw [g.2 (Or.inr (by omega))]
        · have e := dec.2.1 hm
          rw [e] at g ⊢
          exact ⟨fun z => g.1 ⟨by omega, by omega⟩, fun z => g.2 (by omega)⟩
    · rw [if_neg hk, decide_eq_false hk, if_neg (by decide), if_neg (by decide)]
      have g := ih v (k + 1) (by omega) (by omega) (by omega) h3
      exact ⟨fun z => g.1 ⟨z.1, by omega⟩, fun z => g.2 (by omega)⟩
theorem em_inHand {τ : zt_S} {p i : Int} (h : RI (τ.1 164)) (hi : zt_in p) (hj : zt_in i) : F_M_inHand p i τ = if (0 ≤ p ∧ p < τ.1 164 1) ∧ 0 ≤ i ∧ i < wHc (τ.1 164) p then some (wFi (fun c => decide (wHd (τ.1 164) c = p)) i 0 52, zt_up τ 163 0 0) else some (0, zt_up τ 163 0 1) := by
  have a := h.n
  have e : (zt_up τ 163 0 0).1 164 = τ.1 164 := up_f (by decide)
  have g : RI ((zt_up τ 163 0 0).1 164) := by rw [e]; exact h
  have z : (zt_up τ 163 0 0).1 163 0 = 0 := up_s _ _ _ _
  unfold F_M_inHand
  by_cases h1 : 0 ≤ p ∧ p < τ.1 164 1
  · have h2 : 0 ≤ p ∧ p < (zt_up τ 163 0 0).1 164 1 := by rw [e]; exact h1
    have q := em_inHand_25 (p := p) g ⟨by omega, by omega⟩ (4 * τ.1 164 0).toNat zt_N i 0 (by rw [e]; omega) (zN (by omega)) (by omega) hj
    rw [e, wHc_cut h h1.1] at q
    rw [zt_letS, eb_player g h2, eb_fails1 z, zt_ckI zt_in0, if_pos rfl]
    by_cases h3 : 0 ≤ i ∧ i < wHc (τ.1 164) p
    · have e52 : 52 = (4 * τ.1 164 0).toNat + (52 - (4 * τ.1 164 0).toNat) := by omega
      rw [if_pos ⟨h1, h3⟩, q.1 h3, e52, wFi_app _ _ _ _ h3.1 (by rw [wHc_cut h h1.1]; exact h3.2)]
    · rw [if_neg (fun x => h3 x.2), q.2 (by omega), up_up]
  · have h2 : ¬ (0 ≤ p ∧ p < (zt_up τ 163 0 0).1 164 1) := by rw [e]; exact h1
    rw [if_neg (fun x => h1 x.1), zt_letS, eb_noplayer g hi h2, eb_fails0 (Or.inl rfl) z, zt_ckI (show zt_in 1 by decide), if_neg (by decide), up_up]
theorem ak_inHand {p i : Int} (h : CO σ) (hi : zt_in p) (hj : zt_in i) : AK (F_L_inHand p i) (F_M_inHand p i) σ :=
  ak_if (el_inHand h hi hj) (fun τ e => ⟨0, by rw [em_inHand (by rw [e]; exact h.1) hi hj, e]⟩)
end IH
