/-! THE REFERENCE plays a card: what becomes of its row -/
theorem qm_fades {σ : zt_S} {s : Int} (h : QI (σ.1 164)) (hs : -1 ≤ s ∧ s < 4) : F_M_fades s σ = some ((), rs σ (rFade (σ.1 164) s)) := em_fades h hs
theorem RI.q {w : Int → Int} (h : RI w) : QI w := ⟨h.n, h.m13, ⟨h.wpl.1, by have := h.wpl; omega⟩, fun k h0 h1 => ⟨(h.cd h0 h1).1, (h.cd h0 h1).2.1⟩⟩
section LO
variable {w w' : Int → Int}
theorem lo_pl (h : QI w) (e : ∀ i, 0 ≤ i → i < 196 → w' i = w i) : wPl w' = wPl w := by
  unfold wPl
  rw [e 12 (by omega) (by omega), e 13 (by omega) (by omega), e 1 (by omega) (by omega)]
theorem lo_cd (h : QI w) (e : ∀ i, 0 ≤ i → i < 196 → w' i = w i) {k : Int} (h0 : 0 ≤ k) (h1 : k < 40) : wCd w' k = wCd w k := by
  have a := h.m13
  unfold wCd
  rw [e 13 (by omega) (by omega), e 1 (by omega) (by omega), e _ (by omega) (by omega)]
theorem lo_s (e : ∀ i, 0 ≤ i → i < 196 → w' i = w i) (c : Int) : wS w' c = wS w c := by
  unfold wS
  rw [e 0 (by omega) (by omega)]
theorem lo_ld (h : QI w) (e : ∀ i, 0 ≤ i → i < 196 → w' i = w i) : wLd w' = wLd w := by
  unfold wLd
  rw [lo_pl h e, lo_cd h e (by omega) (by omega), lo_s e]
theorem QI.lo (h : QI w) (e : ∀ i, 0 ≤ i → i < 196 → w' i = w i) : QI w' := by
  have a := h.n
  refine ⟨?_, ?_, ?_, fun k h0 h1 => ?_⟩
  · rw [e 0 (by omega) (by omega), e 1 (by omega) (by omega), e 2 (by omega) (by omega), e 3 (by omega) (by omega), e 4 (by omega) (by omega), e 5 (by omega) (by omega), e 6 (by omega) (by omega), e 7 (by omega) (by omega), e 8 (by omega) (by omega), e 9 (by omega) (by omega), e 10 (by omega) (by omega), e 11 (by omega) (by omega)]
    exact h.n
  · rw [e 13 (by omega) (by omega), e 1 (by omega) (by omega)]
    exact h.m13
  · rw [lo_pl h e, e 1 (by omega) (by omega)]
    exact h.wpl
  · rw [lo_pl h e] at h1
    have b := h.wpl
    rw [lo_cd h e h0 (by omega), e 0 (by omega) (by omega)]
    exact h.2.2.2 k h0 h1
theorem rTrick_q (h : QI w) (hp : wPl w = w 1) (h13 : 0 ≤ w 13 ∧ w 13 ≤ 12) (h12 : w 12 ≤ 52) : QI (rTrick w) := by
  have a := h.n
  have b := h.m13
  have e : ∀ i, 0 ≤ i → i < 196 → i ≠ 13 → i ≠ 9 → rTrick w i = w i := by
    intro i h0 h1 h2 h3
    unfold rTrick
    simp (disch := omega) only [ru_o]
  have e13 : rTrick w 13 = w 13 + 1 := by unfold rTrick; rw [ru_o (by omega), ru_s]
  have e9 : rTrick w 9 = (w 9 + wBp w) % w 1 := by unfold rTrick; rw [ru_s]
  have c0 := Int.emod_nonneg (w 9 + wBp w) (show w 1 ≠ 0 by omega)
  have c1 := Int.emod_lt_of_pos (w 9 + wBp w) (show 0 < w 1 by omega)
  have pl : wPl (rTrick w) = 0 := by
    unfold wPl at hp ⊢
    rw [e13, e 12 (by omega) (by omega) (by omega) (by omega), e 1 (by omega) (by omega) (by omega) (by omega), Int.add_mul]
    omega
  refine ⟨?_, ?_, ?_, fun k h0 h1 => ?_⟩
  · rw [e9, e 0 (by omega) (by omega) (by omega) (by omega), e 1 (by omega) (by omega) (by omega) (by omega), e 2 (by omega) (by omega) (by omega) (by omega), e 3 (by omega) (by omega) (by omega) (by omega), e 4 (by omega) (by omega) (by omega) (by omega), e 5 (by omega) (by omega) (by omega) (by omega), e 6 (by omega) (by omega) (by omega) (by omega), e 7 (by omega) (by omega) (by omega) (by omega), e 8 (by omega) (by omega) (by omega) (by omega), e 10 (by omega) (by omega) (by omega) (by omega), e 11 (by omega) (by omega) (by omega) (by omega)]
    omega
  · rw [e13, e 1 (by omega) (by omega) (by omega) (by omega), Int.add_mul]
    unfold wPl at hp
    omega
  · rw [pl, e 1 (by omega) (by omega) (by omega) (by omega)]
    omega
  · rw [pl] at h1
    omega
end LO
section EM
variable {σ : zt_S}
theorem qm_endsTrick (h : QI (σ.1 164)) (hp : wPl (σ.1 164) = σ.1 164 1) (h13 : 0 ≤ σ.1 164 13 ∧ σ.1 164 13 ≤ 12) (h12 : σ.1 164 12 ≤ 52) : F_M_endsTrick σ = some ((), rs σ (rEnd (σ.1 164))) := by
  have a := h.n
  have bp := (wBp_ltq h).2.2.1 (by omega)
  have cb := h.cd bp.1 bp.2
  have sb := wS_ltq h cb.1 cb.2.1
  have hq := rTrick_q h hp h13 h12
  have c0 := Int.emod_nonneg (σ.1 164 9 + wBp (σ.1 164)) (show σ.1 164 1 ≠ 0 by omega)
  have c1 := Int.emod_lt_of_pos (σ.1 164 9 + wBp (σ.1 164)) (show 0 < σ.1 164 1 by omega)
  unfold F_M_endsTrick rEnd
  generalize hw : σ.1 164 = w at *
  have hl : ∀ {β : Type} (K : Int → zt_S → Option β), zt_bd (F_M_ledSuit (rs σ (ru (ru (ru w (196 + 6 * w 13) (w 9)) (196 + 6 * w 13 + 1) ((w 9 + wBp w) % w 1)) (196 + 6 * w 13 + 2) (wCd w (wBp w))))) K = K (wLd w) (rs σ (ru (ru (ru w (196 + 6 * w 13) (w 9)) (196 + 6 * w 13 + 1) ((w 9 + wBp w) % w 1)) (196 + 6 * w 13 + 2) (wCd w (wBp w)))) := by
    intro β K
    have e : ∀ i, 0 ≤ i → i < 196 → (ru (ru (ru w (196 + 6 * w 13) (w 9)) (196 + 6 * w 13 + 1) ((w 9 + wBp w) % w 1)) (196 + 6 * w 13 + 2) (wCd w (wBp w))) i = w i := fun i h0 h1 => by
      simp (disch := omega) only [ru_o]
    rw [qb_ledSuit (by rw [rs_r]; exact h.lo e), rs_r, lo_ld h e]
  have h1 : QI (σ.1 164) := by rw [hw]; exact h
  have b1 : ∀ {β : Type} (K : Int → zt_S → Option β), zt_bd (F_M_bestPlace σ) K = K (wBp w) σ := fun K => by rw [qb_bestPlace h1, hw]
  have b2 : ∀ {β : Type} (K : Int → zt_S → Option β), zt_bd (F_M_cardInTrick (wBp w) σ) K = K (wCd w (wBp w)) σ := fun K => by rw [qb_cardInTrick h1 ⟨bp.1, by omega⟩, hw]
  have b3 : ∀ {β : Type} (K : Int → zt_S → Option β), zt_bd (F_M_suitOf (wCd w (wBp w)) (rs σ (rTrick w))) K = K (wS w (wCd w (wBp w))) (rs σ (rTrick w)) := fun K => by
    rw [qb_suitOf (by rw [rs_r]; exact hq) ⟨cb.1, by omega⟩, rs_r]
    unfold wS rTrick
    simp (disch := omega) only [ru_o]
  have b4 : F_M_fades (wS w (wCd w (wBp w))) (rs σ (rTrick w)) = some ((), rs σ (rFade (rTrick w) (wS w (wCd w (wBp w))))) := by
    rw [em_fades (by rw [rs_r]; exact hq) ⟨by omega, by omega⟩, rs_r, rs_rs]
  rw [b1, b2]
  simp (disch := first | omega | (unfold zt_in; omega)) only [↓zt_ckI, ↓if_pos, ↓if_neg, if_true, if_false, zt_letS, zt_ckI, if_pos, if_neg, up_rs, rs_rs, rs_r, ru_s, ru_o, Int.add_zero, hw, ↓eb_trickCell, ↓hl]
  rw [show (ru (ru (ru (ru (ru (ru (ru (ru w (196 + 6 * w 13) (w 9)) (196 + 6 * w 13 + 1) ((w 9 + wBp w) % w 1)) (196 + 6 * w 13 + 2) (wCd w (wBp w))) (196 + 6 * w 13 + 3) (wLd w)) (196 + 6 * w 13 + 4) (w 10)) (196 + 6 * w 13 + 5) (w 11)) 13 (w 13 + 1)) 9 ((w 9 + wBp w) % w 1)) = rTrick w from rfl, b3, b4]
  rfl
end EM
