/-! QUESTIONS about a player and a suit, or a card; cards played, hands played -/
section QT
variable {σ : zt_S}
theorem el_unseen {p : Int} (h : CO σ) (hi : zt_in p) : F_L_unseen p σ = if 0 ≤ p ∧ p < σ.1 164 1 then some (0, zt_uL σ 184 0 (zt_l (4 * σ.1 164 0 - σ.1 164 12 - wHc (σ.1 164) p))) else some (1, zt_nx σ) := by
  have a := h.1.n
  unfold F_L_unseen F_C_unseen
  rw [ec_needPlayer h hi]
  by_cases h1 : 0 ≤ p ∧ p < σ.1 164 1
  · rw [if_pos h1, if_pos h1, zt_bxS, ed_cardCount h.2.2, be_handOf ⟨h1.1, by omega⟩, be_bitCount, hand_count h.1 h1.1 (fun c h0 h3 => h.2.1.2.1 p c h1.1 (by omega) h0 h3), show σ.1 6 16 = σ.1 164 12 from h.2.1.2.2.2.2.2.2.2.2.2.2.2.1]
    rfl
  · rw [if_neg h1, if_neg h1]
    rfl
theorem em_unseen {τ : zt_S} {p : Int} (h : RI (τ.1 164)) (hi : zt_in p) : F_M_unseen p τ = if 0 ≤ p ∧ p < τ.1 164 1 then some (4 * τ.1 164 0 - τ.1 164 12 - wHc (τ.1 164) p, zt_up τ 163 0 0) else some (0, zt_up τ 163 0 1) := by
  have a := h.n
  have e : (zt_up τ 163 0 0).1 164 = τ.1 164 := up_f (by decide)
  have g : RI ((zt_up τ 163 0 0).1 164) := by rw [e]; exact h
  have z : (zt_up τ 163 0 0).1 163 0 = 0 := up_s _ _ _ _
  unfold F_M_unseen F_M_unseen_44
  by_cases h1 : 0 ≤ p ∧ p < τ.1 164 1
  · have h2 : 0 ≤ p ∧ p < (zt_up τ 163 0 0).1 164 1 := by rw [e]; exact h1
    rw [if_pos h1, zt_letS, eb_player g h2, eb_fails1 z, zt_ckI zt_in0, if_pos rfl, em_cards, zt_bdS, eb_heldBy (c1 := 164) ⟨by omega, by omega⟩ (fun c h0 h3 => by have := g.2.2.2.2.2.2.1 c h0 h3; have := g.n; omega), e]
  · have h2 : ¬ (0 ≤ p ∧ p < (zt_up τ 163 0 0).1 164 1) := by rw [e]; exact h1
    rw [if_neg h1, zt_letS, eb_noplayer g hi h2, eb_fails0 (Or.inl rfl) z, zt_ckI (show zt_in 1 by decide), if_neg (by decide), up_up]
theorem ak_unseen {p : Int} (h : CO σ) (hi : zt_in p) : AK (F_L_unseen p) (F_M_unseen p) σ :=
  ak_if (el_unseen h hi) (fun τ e => ⟨0, by rw [em_unseen (by rw [e]; exact h.1) hi, e]⟩)
/-- the suits -/
theorem ec_needSuit {s : Int} (hs : zt_in s) : F_C_needSuit s σ = if 0 ≤ s ∧ s ≤ 3 then some (.inl (), σ) else some (.inr 0, zt_nx σ) := by
  unfold F_C_needSuit F_C_needSuit_9
  by_cases h1 : s < 0
  · rw [if_neg (show ¬ (0 ≤ s ∧ s ≤ 3) by omega)]
    simp (disch := first | omega | (unfold zt_in; omega)) only [↓zt_ckI, ↓if_pos, ↓if_neg, if_true, if_false, zt_letS, zt_ckI, if_pos, if_neg, up_s, up_o, up_2, h1]
  · by_cases h2 : s < 4
    · rw [if_pos (show (0 ≤ s ∧ s ≤ 3) by omega)]
      simp (disch := first | omega | (unfold zt_in; omega)) only [↓zt_ckI, ↓if_pos, ↓if_neg, if_true, if_false, zt_letS, zt_ckI, if_pos, if_neg, up_s, up_o, up_2, h2]
    · rw [if_neg (show ¬ (0 ≤ s ∧ s ≤ 3) by omega)]
      simp (disch := first | omega | (unfold zt_in; omega)) only [↓zt_ckI, ↓if_pos, ↓if_neg, if_true, if_false, zt_letS, zt_ckI, if_pos, if_neg, up_s, up_o, up_2, h2]
theorem suit_count {w : Int → Int} {v L : Int64} {p s : Int} (hw : RI w) (hp : 0 ≤ p) (hs : 0 ≤ s ∧ s < 4) (h : ∀ c, 0 ≤ c → c < 64 → hb v c = decide (c < 4 * w 0 ∧ wHd w c = p)) (hL : ∀ c, 0 ≤ c → c < 64 → hb L c = decide (0 ≤ s ∧ wS w c = s)) : cn (hb (v &&& L)) 0 64 = wSc w p s := by
  have a := hw.mu hs
  obtain ⟨m, hm⟩ := Int.eq_ofNat_of_zero_le a.1
  obtain ⟨n, hn⟩ := Int.eq_ofNat_of_zero_le (show 0 ≤ w 0 by omega)
  have e1 : cn (hb (v &&& L)) 0 64 = cn (hb (v &&& L)) 0 m + cn (hb (v &&& L)) (0 + (m : Int)) (n + (64 - m - n)) := by
    rw [← cn_app]
    congr 1
    omega
  have e2 := cn_app (hb (v &&& L)) (64 - m - n) n (0 + (m : Int))
  have z1 : cn (hb (v &&& L)) 0 m = 0 := cn_none _ _ (fun c h0 h1 => by
    rw [hb_and, hL c (by omega) (by omega), decide_eq_false (fun x => by have := (wS_iff hw).mp x.2; omega), Bool.and_false])
  have z2 : cn (hb (v &&& L)) (0 + (m : Int) + (n : Int)) (64 - m - n) = 0 := cn_none _ _ (fun c h0 h1 => by
    rw [hb_and, hL c (by omega) (by omega), decide_eq_false (fun x => by have := (wS_iff hw).mp x.2; omega), Bool.and_false])
  rw [e1, e2, z1, z2, Int.zero_add, Int.add_zero, Int.zero_add]
  unfold wSc
  rw [hm, hn, Int.toNat_natCast]
  refine cn_congr _ _ (fun c h0 h1 => ?_)
  rw [hb_and, hL c (by omega) (by omega), h c (by omega) (by omega), decide_eq_true (⟨hs.1, (wS_iff hw).mpr (by omega)⟩ : 0 ≤ s ∧ wS w c = s), Bool.and_true, decide_eq_decide]
  exact ⟨fun x => x.2, fun x => ⟨by omega, x⟩⟩
theorem el_ofSuit {p s : Int} (h : CO σ) (hi : zt_in p) (hj : zt_in s) : F_L_ofSuit p s σ = if (0 ≤ p ∧ p < σ.1 164 1) ∧ (0 ≤ s ∧ s ≤ 3) then some (0, zt_uL σ 184 0 (zt_l (wSc (σ.1 164) p s))) else some (1, zt_nx σ) := by
  have a := h.1.n
  unfold F_L_ofSuit F_C_ofSuit
  rw [ec_needPlayer h hi]
  by_cases h1 : 0 ≤ p ∧ p < σ.1 164 1
  · rw [if_pos h1, zt_bxS, ec_needSuit hj]
    by_cases h2 : 0 ≤ s ∧ s ≤ 3
    · obtain ⟨L, g1, g2⟩ := ec_cardsOf (s := 3) (σ := σ) (u := s) h.2.2 h.1 ⟨by omega, by omega⟩
      rw [if_pos h2, if_pos ⟨h1, h2⟩, zt_bxS, be_handOf ⟨h1.1, by omega⟩, g1, zt_bdS, be_bitCount, suit_count h.1 h1.1 ⟨h2.1, by omega⟩ (fun c h0 h3 => h.2.1.2.1 p c h1.1 (by omega) h0 h3) g2]
      rfl
    · rw [if_neg h2, if_neg (fun z => h2 z.2)]
      rfl
  · rw [if_neg h1, if_neg (fun z => h1 z.1)]
    rfl
theorem eb_suit {β : Type} {s : Int} (hs : 0 ≤ s ∧ s ≤ 3) {K : Int → zt_S → Option β} : zt_bd (F_M_isSuit s σ) K = K 1 σ := by
  rw [em_isSuit ⟨by omega, by omega⟩, if_pos hs]; rfl
theorem eb_nosuit {β : Type} {s : Int} (hi : zt_in s) (hs : ¬ (0 ≤ s ∧ s ≤ 3)) {K : Int → zt_S → Option β} : zt_bd (F_M_isSuit s σ) K = K 0 σ := by
  rw [em_isSuit hi, if_neg hs]; rfl
theorem em_ofSuit {τ : zt_S} {p s : Int} (h : RI (τ.1 164)) (hi : zt_in p) (hj : zt_in s) : F_M_ofSuit p s τ = if (0 ≤ p ∧ p < τ.1 164 1) ∧ (0 ≤ s ∧ s ≤ 3) then some (wSc (τ.1 164) p s, zt_up τ 163 0 0) else some (0, zt_up τ 163 0 1) := by
  have a := h.n
  have e : (zt_up τ 163 0 0).1 164 = τ.1 164 := up_f (by decide)
  have g : RI ((zt_up τ 163 0 0).1 164) := by rw [e]; exact h
  have z : (zt_up τ 163 0 0).1 163 0 = 0 := up_s _ _ _ _
  unfold F_M_ofSuit F_M_ofSuit_25 F_M_ofSuit_26 F_M_ofSuit_43
  by_cases h1 : 0 ≤ p ∧ p < τ.1 164 1
  · have h2 : 0 ≤ p ∧ p < (zt_up τ 163 0 0).1 164 1 := by rw [e]; exact h1
    rw [zt_letS, eb_player g h2, zt_ckI (show zt_in 1 by decide), if_neg (show ¬ (1 : Int) = 0 by decide)]
    by_cases h3 : 0 ≤ s ∧ s ≤ 3
    · rw [if_pos ⟨h1, h3⟩, eb_suit h3, zt_ckI (show zt_in 1 by decide), if_neg (show ¬ (1 : Int) = 0 by decide), eb_fails1 z, zt_ckI zt_in0, if_pos rfl, eb_suitOfPlayer g ⟨h3.1, by omega⟩ ⟨by omega, by omega⟩, e]
    · rw [if_neg (fun z => h3 z.2), eb_nosuit hj h3, zt_ckI zt_in0, if_pos rfl, eb_fails0 (Or.inl rfl) z, zt_ckI (show zt_in 1 by decide), if_neg (by decide), up_up]
  · have h2 : ¬ (0 ≤ p ∧ p < (zt_up τ 163 0 0).1 164 1) := by rw [e]; exact h1
    rw [if_neg (fun z => h1 z.1), zt_letS, eb_noplayer g hi h2, zt_ckI zt_in0, if_pos rfl, eb_fails0 (Or.inl rfl) z, zt_ckI (show zt_in 1 by decide), if_neg (by decide), up_up]
theorem ak_ofSuit {p s : Int} (h : CO σ) (hi : zt_in p) (hj : zt_in s) : AK (F_L_ofSuit p s) (F_M_ofSuit p s) σ :=
  ak_if (el_ofSuit h hi hj) (fun τ e => ⟨0, by rw [em_ofSuit (by rw [e]; exact h.1) hi hj, e]⟩)
theorem el_lacks {p s : Int} (h : CO σ) (hi : zt_in p) (hj : zt_in s) : F_L_lacks p s σ = if (0 ≤ p ∧ p < σ.1 164 1) ∧ (0 ≤ s ∧ s ≤ 3) then some (0, zt_uL σ 184 0 (zt_l (σ.1 164 (24 + 4 * p + s)))) else some (1, zt_nx σ) := by
  have a := h.1.n
  unfold F_L_lacks F_C_lacks
  rw [ec_needPlayer h hi]
  by_cases h1 : 0 ≤ p ∧ p < σ.1 164 1
  · rw [if_pos h1, zt_bxS, ec_needSuit hj]
    by_cases h2 : 0 ≤ s ∧ s ≤ 3
    · have q := h.1.2.2.2.2.2.1 (4 * p + s) (by omega) (by omega)
      rw [show (24 : Int) + (4 * p + s) = 24 + 4 * p + s by omega] at q
      rw [if_pos h2, if_pos ⟨h1, h2⟩, zt_bxS, ec_isKnownToLack h.1 h.2.1 ⟨h1.1, by omega⟩ ⟨h2.1, by omega⟩, zt_bdS]
      rcases (show σ.1 164 (24 + 4 * p + s) = 0 ∨ σ.1 164 (24 + 4 * p + s) = 1 by omega) with e | e
      · rw [e]
        rfl
      · rw [e]
        rfl
    · rw [if_neg h2, if_neg (fun z => h2 z.2)]
      rfl
  · rw [if_neg h1, if_neg (fun z => h1 z.1)]
    rfl
theorem em_lacks {τ : zt_S} {p s : Int} (h : RI (τ.1 164)) (hi : zt_in p) (hj : zt_in s) : F_M_lacks p s τ = if (0 ≤ p ∧ p < τ.1 164 1) ∧ (0 ≤ s ∧ s ≤ 3) then some (τ.1 164 (24 + 4 * p + s), zt_up τ 163 0 0) else some (0, zt_up τ 163 0 1) := by
  have a := h.n
  have e : (zt_up τ 163 0 0).1 164 = τ.1 164 := up_f (by decide)
  have g : RI ((zt_up τ 163 0 0).1 164) := by rw [e]; exact h
  have z : (zt_up τ 163 0 0).1 163 0 = 0 := up_s _ _ _ _
  unfold F_M_lacks F_M_lacks_25 F_M_lacks_26 F_M_lacks_54 F_M_lacks_55
  by_cases h1 : 0 ≤ p ∧ p < τ.1 164 1
  · have h2 : 0 ≤ p ∧ p < (zt_up τ 163 0 0).1 164 1 := by rw [e]; exact h1
    rw [zt_letS, eb_player g h2, zt_ckI (show zt_in 1 by decide), if_neg (show ¬ (1 : Int) = 0 by decide)]
    by_cases h3 : 0 ≤ s ∧ s ≤ 3
    · have q := h.2.2.2.2.2.1 (4 * p + s) (by omega) (by omega)
      rw [show (24 : Int) + (4 * p + s) = 24 + 4 * p + s by omega] at q
      rw [if_pos ⟨h1, h3⟩, eb_suit h3, zt_ckI (show zt_in 1 by decide), if_neg (show ¬ (1 : Int) = 0 by decide), eb_fails1 z, zt_ckI zt_in0, if_pos rfl, zt_ckI (show _ ∧ _ by omega), e]
      rcases (show τ.1 164 (24 + 4 * p + s) = 0 ∨ τ.1 164 (24 + 4 * p + s) = 1 by omega) with e | e
      · rw [e]
        rfl
      · rw [e]
        rfl
    · rw [if_neg (fun z => h3 z.2), eb_nosuit hj h3, zt_ckI zt_in0, if_pos rfl, eb_fails0 (Or.inl rfl) z, zt_ckI (show zt_in 1 by decide), if_neg (by decide), up_up]
      rfl
  · have h2 : ¬ (0 ≤ p ∧ p < (zt_up τ 163 0 0).1 164 1) := by rw [e]; exact h1
    rw [if_neg (fun z => h1 z.1), zt_letS, eb_noplayer g hi h2, zt_ckI zt_in0, if_pos rfl, eb_fails0 (Or.inl rfl) z, zt_ckI (show zt_in 1 by decide), if_neg (by decide), up_up]
    rfl
theorem ak_lacks {p s : Int} (h : CO σ) (hi : zt_in p) (hj : zt_in s) : AK (F_L_lacks p s) (F_M_lacks p s) σ :=
  ak_if (el_lacks h hi hj) (fun τ e => ⟨0, by rw [em_lacks (by rw [e]; exact h.1) hi hj, e]⟩)
end QT
