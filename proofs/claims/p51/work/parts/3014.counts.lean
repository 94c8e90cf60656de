/-! THE HAND IS OVER: the reference counts -/
section RP
variable {w w' : Int → Int}
theorem RI_ag2 (h : RI w) (e : ∀ i, (i < 14 ∨ (14 < i ∧ i < 20) ∨ 24 ≤ i) → w' i = w i) (e14 : 0 ≤ w' 14 ∧ w' 14 ≤ 1000000) (ep : ∀ p, 0 ≤ p → p < 4 → -1000000000 ≤ w' (20 + p) ∧ w' (20 + p) ≤ 1000000000) : RI w' := by
  have a := h.n
  have p12 := h.p12
  obtain ⟨a1, a2, a3, a4, a5, a6, a7, a8, a9, a10, a11⟩ := id h
  have hd : ∀ x, 0 ≤ x → wHd w' x = wHd w x := fun x h0 => e _ (by omega)
  have pl : wPl w' = wPl w := by unfold wPl; rw [e 12 (by omega), e 13 (by omega), e 1 (by omega)]
  refine ⟨?_, ?_, e14, ?_, ep, ?_, ?_, ?_, ?_, ?_, ?_⟩
  · rw [e 0 (by omega), e 1 (by omega), e 2 (by omega), e 3 (by omega), e 4 (by omega), e 5 (by omega), e 6 (by omega), e 7 (by omega), e 8 (by omega), e 9 (by omega), e 10 (by omega), e 11 (by omega)]
    exact a1
  · rw [e 12 (by omega), e 1 (by omega), e 2 (by omega), e 13 (by omega)]
    exact a2
  · intro p h0 h1
    rw [e _ (by omega)]
    exact a4 p h0 h1
  · intro k h0 h1
    rw [e _ (by omega)]
    exact a6 k h0 h1
  · intro x h0 h1
    rw [e _ (by omega), e 0 (by omega), e 1 (by omega)]
    exact a7 x h0 h1
  · intro k h0 h1
    rw [e 12 (by omega)] at h1
    have b := a8 k h0 h1
    rw [e (92 + k) (by omega), e (144 + k) (by omega), e 0 (by omega), e 1 (by omega), e (40 + w (92 + k)) (by omega)]
    exact b
  · intro j k h0 h1 h2
    rw [e 12 (by omega)] at h2
    rw [e (92 + j) (by omega), e (92 + k) (by omega)]
    exact a9 j k h0 h1 h2
  · intro t h0 h1
    rw [e 13 (by omega)] at h1
    rw [e (196 + 6 * t) (by omega), e (196 + 6 * t + 1) (by omega), e (196 + 6 * t + 2) (by omega), e (196 + 6 * t + 3) (by omega), e (196 + 6 * t + 4) (by omega), e (196 + 6 * t + 5) (by omega), e 0 (by omega), e 1 (by omega)]
    exact a10 t h0 h1
  · intro p h0 h1
    rw [e 1 (by omega)] at h1
    have eh : wHc w' p = wHc w p := by
      unfold wHc
      exact cn_congr _ _ (fun x y0 y1 => by rw [hd x y0])
    rw [eh, pl, e 2 (by omega), e 13 (by omega), e 1 (by omega), e 9 (by omega)]
    exact a11 p h0 h1
theorem wTk_ag (h13 : w' 13 = w 13) (e : ∀ i, 196 ≤ i → w' i = w i) (p : Int) : wTk w' p = wTk w p := by
  unfold wTk
  rw [h13]
  exact cn_congr _ _ (fun t h0 _ => by rw [e _ (by omega)])
theorem wRs_ag (h13 : w' 13 = w 13) (e : ∀ i, 196 ≤ i → w' i = w i) {p : Int} (ep : w' (16 + p) = w (16 + p)) : wRs w' p = wRs w p := by
  unfold wRs
  rw [wTk_ag h13 e, ep]
/-- the points of the first k players are counted -/
def rPts (w : Int → Int) (k : Int) : Int → Int := fun i => if 20 ≤ i ∧ i < 20 + k then w i + wRs w (i - 20) else w i
theorem rPts_o {k i : Int} (h : i < 20 ∨ 20 + k ≤ i) : rPts w k i = w i := if_neg (by omega)
theorem rPts_i {k : Int} (h : RI w) {n : Int} (hb : RB n w) (hn : 0 ≤ n ∧ n ≤ 1000) (hk : 0 ≤ k ∧ k ≤ 4) : RI (rPts w k) := by
  refine RI_ag2 h (fun i hi => rPts_o (by omega)) (by rw [rPts_o (by omega)]; exact h.2.2.1) (fun p h0 h1 => ?_)
  have r := wRs_lt h (p := p) ⟨h0, h1⟩
  have y := hb.2 p h0 h1
  unfold rPts
  split
  · rw [show 20 + p - 20 = p by omega]; omega
  · omega
theorem rPts_next {k : Int} (hk : 0 ≤ k) : ru (rPts w k) (20 + k) (w (20 + k) + wRs w k) = rPts w (k + 1) := by
  funext i
  unfold ru rPts
  by_cases h : i = 20 + k
  · subst h
    rw [if_pos rfl, if_pos (by omega), show 20 + k - 20 = k by omega]
  · rw [if_neg h]
    by_cases h2 : 20 ≤ i ∧ i < 20 + k
    · rw [if_pos h2, if_pos (by omega)]
    · rw [if_neg h2, if_neg (by omega)]
end RP
section EM
variable {σ : zt_S}
theorem em_counts_10 {n : Int} {w : Int → Int} (h : RI w) (hb : RB n w) (hn : 0 ≤ n ∧ n ≤ 1000) : ∀ (m f : Nat) (k : Int), k + m = w 1 → m < f → 0 ≤ k → F_M_counts_10 f k (rs σ (rPts w k)) = some ((), rs σ (ru (rPts w (w 1)) 14 (w 14 + 1)))
  | m, 0, _, _, h1, _ => absurd h1 (Nat.not_lt_zero m)
  | 0, f + 1, k, h0, h1, h2 => by
    have a := h.n
    rw [F_M_counts_10, F_M_counts_43, rs_r, rPts_o (i := 1) (by omega), zt_ckI (by unfold zt_in; omega), if_neg (by omega), zt_letS, rs_up, rPts_o (i := 14) (by omega)]
    rw [show k = w 1 by omega]
  | m + 1, f + 1, k, h0, h1, h2 => by
    have a := h.n
    have ih := em_counts_10 h hb hn m f (k + 1) (by omega) (by omega) (by omega)
    have hi := rPts_i h hb hn (k := k) ⟨h2, by omega⟩
    rw [F_M_counts_10, rs_r, rPts_o (i := 1) (by omega), zt_ckI (by unfold zt_in; omega), if_pos (by omega), zt_ckI (by omega), eb_resultOf (by rw [rs_r]; exact hi) ⟨h2, by omega⟩, zt_ckI (by omega), zt_letS, rs_r, rs_up, rPts_o (i := 20 + k) (by omega), wRs_ag (w := w) (rPts_o (by omega)) (fun i hi => rPts_o (by omega)) (rPts_o (by omega)), rPts_next h2]
    exact ih
theorem em_counts {n : Int} (h : RI (σ.1 164)) (hb : RB n (σ.1 164)) (hn : 0 ≤ n ∧ n ≤ 1000) : F_M_counts σ = some ((), rs σ (rCount (σ.1 164))) := by
  have a := h.n
  unfold F_M_counts rCount
  by_cases ho : wOv (σ.1 164) = true
  · rw [eb_isOver_t h ho, zt_ckI (by unfold zt_in; omega), if_neg (by omega), if_pos ho]
    have e : rs σ (rPts (σ.1 164) 0) = σ := by
      have : rPts (σ.1 164) 0 = σ.1 164 := funext fun i => rPts_o (by omega)
      rw [this, rs_id]
    have := em_counts_10 (σ := σ) h hb hn (σ.1 164 1).toNat zt_N 0 (by omega) (zN (by omega)) (by omega)
    rw [e] at this
    rw [this]
    congr 3
    funext i
    unfold ru rPts
    by_cases h1 : i = 14
    · subst h1
      rw [if_pos rfl, if_neg (by omega), if_pos rfl]
    · rw [if_neg h1]
      by_cases h2 : 20 ≤ i ∧ i < 20 + σ.1 164 1
      · rw [if_pos h2, if_pos h2]
      · rw [if_neg h2, if_neg h2, if_neg h1]
  · rw [eb_isOver_f h ho, zt_ckI (by unfold zt_in; omega), if_pos rfl, if_neg ho, rs_id]
end EM
