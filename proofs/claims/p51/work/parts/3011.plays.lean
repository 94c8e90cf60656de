/-! A CARD IS PLAYED: the row, and that it stays a row -/
def rLack (w : Int → Int) (c : Int) : Int → Int := if w 3 = 0 ∨ wPl w = 0 ∨ wS w c = wLd w then w else ru w (24 + 4 * wTn w + wLd w) 1
def rCard (w : Int → Int) (c p : Int) : Int → Int := ru (ru (ru (ru w (40 + c) (-1)) (92 + w 12) c) (144 + w 12) p) 12 (w 12 + 1)
def rPlays (w : Int → Int) (c : Int) : Int → Int := if wPl w + 1 = w 1 then rEnd (rCard (rLack w c) c (wTn w)) else rCard (rLack w c) c (wTn w)
section AG
variable {w w' : Int → Int}
/-- two rows that differ in what is lacked alone -/
def AG (w w' : Int → Int) : Prop := ∀ i, i < 24 ∨ 40 ≤ i → w' i = w i
theorem AG.pl (e : AG w w') : wPl w' = wPl w := by
  unfold wPl
  rw [e 12 (by omega), e 13 (by omega), e 1 (by omega)]
theorem AG.cd (e : AG w w') (h : QI w) {k : Int} (h0 : 0 ≤ k) : wCd w' k = wCd w k := by
  have a := h.m13
  unfold wCd
  rw [e 13 (by omega), e 1 (by omega), e _ (by omega)]
theorem AG.s (e : AG w w') (c : Int) : wS w' c = wS w c := by
  unfold wS
  rw [e 0 (by omega)]
theorem AG.ld (e : AG w w') (h : QI w) : wLd w' = wLd w := by
  unfold wLd
  rw [e.pl, e.cd h (by omega), e.s]
theorem AG.tn (e : AG w w') : wTn w' = wTn w := by
  unfold wTn wOv
  rw [e.pl, e 12 (by omega), e 1 (by omega), e 2 (by omega), e 9 (by omega)]
theorem AG.hd (e : AG w w') {c : Int} (h : 0 ≤ c) : wHd w' c = wHd w c := by
  unfold wHd
  rw [e _ (by omega)]
theorem AG.hc (e : AG w w') (p : Int) : wHc w' p = wHc w p := by
  unfold wHc
  exact cn_congr _ _ (fun c h0 _ => by rw [e.hd h0])
theorem AG.q (e : AG w w') (h : QI w) : QI w' := by
  have a := h.n
  refine ⟨?_, ?_, ?_, fun k h0 h1 => ?_⟩
  · rw [e 0 (by omega), e 1 (by omega), e 2 (by omega), e 3 (by omega), e 4 (by omega), e 5 (by omega), e 6 (by omega), e 7 (by omega), e 8 (by omega), e 9 (by omega), e 10 (by omega), e 11 (by omega)]
    exact h.n
  · rw [e 13 (by omega), e 1 (by omega)]
    exact h.m13
  · rw [e.pl, e 1 (by omega)]
    exact h.wpl
  · rw [e.pl] at h1
    rw [e.cd h h0, e 0 (by omega)]
    exact h.2.2.2 k h0 h1
theorem AG.i (e : AG w w') (h : RI w) (hl : ∀ k, 0 ≤ k → k < 16 → 0 ≤ w' (24 + k) ∧ w' (24 + k) ≤ 1) : RI w' := by
  obtain ⟨a1, a2, a3, a4, a5, a6, a7, a8, a9, a10, a11⟩ := h
  have c : w 12 ≤ 52 := RI.p12 ⟨a1, a2, a3, a4, a5, a6, a7, a8, a9, a10, a11⟩
  refine ⟨?_, ?_, ?_, ?_, ?_, hl, ?_, ?_, ?_, ?_, ?_⟩
  · rw [e 0 (by omega), e 1 (by omega), e 2 (by omega), e 3 (by omega), e 4 (by omega), e 5 (by omega), e 6 (by omega), e 7 (by omega), e 8 (by omega), e 9 (by omega), e 10 (by omega), e 11 (by omega)]
    exact a1
  · rw [e 12 (by omega), e 1 (by omega), e 2 (by omega), e 13 (by omega)]
    exact a2
  · rw [e 14 (by omega)]
    exact a3
  · intro p h0 h1
    rw [e _ (by omega)]
    exact a4 p h0 h1
  · intro p h0 h1
    rw [e _ (by omega)]
    exact a5 p h0 h1
  · intro x h0 h1
    rw [e _ (by omega), e 0 (by omega), e 1 (by omega)]
    exact a7 x h0 h1
  · intro k h0 h1
    rw [e 12 (by omega)] at h1
    have b := a8 k h0 h1
    rw [e (92 + k) (by omega), e (144 + k) (by omega), e 0 (by omega), e 1 (by omega), e (40 + w (92 + k)) (by omega)]
    exact b
  · intro j k h0 h1 h2
    rw [e 12 (by omega)] at h2
    rw [e (92 + j) (by omega), e (92 + k) (by omega)]
    exact a9 j k h0 h1 h2
  · intro t h0 h1
    rw [e 13 (by omega)] at h1
    rw [e (196 + 6 * t) (by omega), e (196 + 6 * t + 1) (by omega), e (196 + 6 * t + 2) (by omega), e (196 + 6 * t + 3) (by omega), e (196 + 6 * t + 4) (by omega), e (196 + 6 * t + 5) (by omega), e 0 (by omega), e 1 (by omega)]
    exact a10 t h0 h1
  · intro p h0 h1
    rw [e 1 (by omega)] at h1
    rw [e.hc, e.pl, e 2 (by omega), e 13 (by omega), e 1 (by omega), e 9 (by omega)]
    exact a11 p h0 h1
theorem rLack_ag {c : Int} (h : RI w) (ho : wOv w = false) : AG w (rLack w c) := by
  intro i hi
  have t := wTn_lt h
  have t2 := t.2.2 ho
  have a := h.n
  have l := wLd_lt h
  have b := h.wpl
  unfold rLack
  split
  · rfl
  · rename_i hn
    have := l.2.2 (by omega)
    rw [ru_o (by omega)]
theorem rLack_i {c : Int} (h : RI w) (ho : wOv w = false) : RI (rLack w c) := by
  refine (rLack_ag h ho).i h (fun k h0 h1 => ?_)
  have a := h.2.2.2.2.2.1 k h0 h1
  unfold rLack
  split
  · exact a
  · unfold ru
    split <;> omega
theorem wOv_lt (h : RI w) (ho : wOv w = false) : w 12 < w 1 * w 2 ∧ w 12 < 52 ∧ w 13 < w 2 := by
  have a := h.pl
  have b := h.n
  have c := h.p13
  have d : ¬ w 12 = w 1 * w 2 := of_decide_eq_false ho
  omega
theorem rCard_nx {c p : Int} (h : RI w) (ho : wOv w = false) (hc : 0 ≤ c ∧ c < 4 * w 0) : Nx w (rCard w c p) c := by
  have a := h.pl
  have b := h.n
  have o := wOv_lt h ho
  have m := h.m13
  unfold Nx rCard wCd
  refine ⟨?_, ?_, ?_, ?_, ?_, ?_, ?_, fun k h0 h1 => ?_, ?_⟩
  · simp (disch := omega) only [ru_o]
  · simp (disch := omega) only [ru_o]
  · simp (disch := omega) only [ru_o]
  · simp (disch := omega) only [ru_o]
  · simp (disch := omega) only [ru_o]
  · rw [ru_s]
  · simp (disch := omega) only [ru_o]
  · unfold wPl at h1
    simp (disch := omega) only [ru_o]
  · unfold wPl
    simp (disch := omega) only [ru_o]
    rw [show 92 + w 13 * w 1 + (w 12 - w 13 * w 1) = 92 + w 12 by omega, ru_s]
theorem rCard_q {c p : Int} (h : RI w) (ho : wOv w = false) (hc : 0 ≤ c ∧ c < 4 * w 0) : QI (rCard w c p) := by
  have n := rCard_nx (p := p) h ho hc
  have a := h.n
  have b := h.wpl
  have m := h.m13
  have o := wOv_lt h ho
  have pl := h.pl
  have e : ∀ i, 0 ≤ i → i < 12 → rCard w c p i = w i := fun i h0 h1 => by
    unfold rCard
    simp (disch := omega) only [ru_o]
  refine ⟨?_, ?_, ?_, fun k h0 h1 => ?_⟩
  · rw [e 0 (by omega) (by omega), e 1 (by omega) (by omega), e 2 (by omega) (by omega), e 3 (by omega) (by omega), e 4 (by omega) (by omega), e 5 (by omega) (by omega), e 6 (by omega) (by omega), e 7 (by omega) (by omega), e 8 (by omega) (by omega), e 9 (by omega) (by omega), e 10 (by omega) (by omega), e 11 (by omega) (by omega)]
    exact a
  · rw [n.2.2.2.2.2.2.1, n.2.1]
    exact m
  · rw [n.pl, n.2.1]
    omega
  · rw [n.pl] at h1
    rw [n.1]
    by_cases hk : k = wPl w
    · rw [hk, n.2.2.2.2.2.2.2.2]
      exact hc
    · rw [n.2.2.2.2.2.2.2.1 k h0 (by omega)]
      have := h.cd h0 (show k < wPl w by omega)
      exact ⟨this.1, this.2.1⟩
end AG
section EM
variable {σ : zt_S}
theorem em_plays {c : Int} (h : RI (σ.1 164)) (ho : wOv (σ.1 164) = false) (hc : 0 ≤ c ∧ c < 4 * σ.1 164 0) : F_M_plays c σ = some ((), rs σ (rPlays (σ.1 164) c)) := by
  have a := h.n
  have b := h.wpl
  have t := wTn_lt h
  have t2 := t.2.2 ho
  have l := wLd_lt h
  have d := wS_lt h hc.1 hc.2
  have o := wOv_lt h ho
  have key : ∀ (r : Int → Int), AG (σ.1 164) r → RI r → F_M_plays_50 c (wTn (σ.1 164)) (rs σ r) = some ((), rs σ (if wPl (σ.1 164) + 1 = σ.1 164 1 then rEnd (rCard r c (wTn (σ.1 164))) else rCard r c (wTn (σ.1 164)))) := by
    intro r e hr
    have ho' : wOv r = false := by unfold wOv at ho ⊢; rw [e 12 (by omega), e 1 (by omega), e 2 (by omega)]; exact ho
    have hc' : 0 ≤ c ∧ c < 4 * r 0 := by rw [e 0 (by omega)]; exact hc
    have n := rCard_nx (p := wTn (σ.1 164)) hr ho' hc'
    have q := rCard_q (p := wTn (σ.1 164)) hr ho' hc'
    have e12 : r 12 = σ.1 164 12 := e 12 (by omega)
    have e1 : r 1 = σ.1 164 1 := e 1 (by omega)
    have o' := wOv_lt hr ho'
    have b' := hr.wpl
    have p' := hr.pl
    have n' := hr.n
    have epl : wPl r = wPl (σ.1 164) := e.pl
    have st : zt_up (zt_up (zt_up (zt_up (rs σ r) 164 (40 + c) (-1)) 164 (92 + r 12) c) 164 (144 + r 12) (wTn (σ.1 164))) 164 12 (r 12 + 1) = rs σ (rCard r c (wTn (σ.1 164))) := by
      rw [rs_up, rs_up, rs_up, rs_up]
      rfl
    have it : ∀ {β : Type} (K : Int → zt_S → Option β), zt_bd (F_M_inTrick (rs σ (rCard r c (wTn (σ.1 164))))) K = K (wPl (σ.1 164) + 1) (rs σ (rCard r c (wTn (σ.1 164)))) := fun K => by
      rw [eb_inTrick, rs_r, n.pl, epl]
    unfold F_M_plays_50 F_M_plays_121
    have r1 : ∀ (x v : Int), x ≠ 12 → (zt_up (rs σ r) 164 x v).1 164 12 = r 12 := fun x v hx => by rw [rs_up, rs_r, ru_o (Ne.symm hx)]
    have r2 : ∀ (x v y u : Int), x ≠ 12 → y ≠ 12 → (zt_up (zt_up (rs σ r) 164 x v) 164 y u).1 164 12 = r 12 := fun x v y u hx hy => by rw [rs_up, rs_up, rs_r, ru_o (Ne.symm hy), ru_o (Ne.symm hx)]
    have r3 : ∀ (x v y u z s : Int), x ≠ 12 → y ≠ 12 → z ≠ 12 → (zt_up (zt_up (zt_up (rs σ r) 164 x v) 164 y u) 164 z s).1 164 12 = r 12 := fun x v y u z s hx hy hz => by rw [rs_up, rs_up, rs_up, rs_r, ru_o (Ne.symm hz), ru_o (Ne.symm hy), ru_o (Ne.symm hx)]
    rw [zt_ckI (by omega), zt_letS, r1 _ _ (by omega), zt_ckI (by omega), zt_letS, r2 _ _ _ _ (by omega) (by omega), zt_ckI (by omega), zt_letS, r3 _ _ _ _ _ _ (by omega) (by omega) (by omega), zt_letS, st, it, rs_r, n.2.1, e1, zt_ckI (by unfold zt_in; omega)]
    by_cases hf : wPl (σ.1 164) + 1 = σ.1 164 1
    · rw [if_pos hf, if_pos hf, qm_endsTrick (by rw [rs_r]; exact q) (by rw [rs_r, n.pl, n.2.1, epl, e1]; exact hf) (by rw [rs_r, n.2.2.2.2.2.2.1]; omega) (by rw [rs_r, n.2.2.2.2.2.1]; omega), rs_r, rs_rs]
      rfl
    · rw [if_neg hf, if_neg hf]
  unfold F_M_plays rPlays
  rw [eb_turn h, zt_ckI (by unfold zt_in; omega)]
  have hid : F_M_plays_50 c (wTn (σ.1 164)) σ = some ((), rs σ (if wPl (σ.1 164) + 1 = σ.1 164 1 then rEnd (rCard (σ.1 164) c (wTn (σ.1 164))) else rCard (σ.1 164) c (wTn (σ.1 164)))) := by
    have := key (σ.1 164) (fun _ _ => rfl) h
    rwa [rs_id] at this
  by_cases h3 : σ.1 164 3 = 0
  · have e : rLack (σ.1 164) c = σ.1 164 := by unfold rLack; rw [if_pos (Or.inl h3)]
    rw [if_pos h3, e]
    exact hid
  · rw [if_neg h3, eb_inTrick, zt_ckI (by unfold zt_in; omega)]
    by_cases h1 : 0 < wPl (σ.1 164)
    · rw [if_pos h1, eb_suitOf h ⟨hc.1, by omega⟩, eb_ledSuit h, zt_ckI (by unfold zt_in; omega)]
      have l2 := l.2.2 h1
      by_cases h4 : wS (σ.1 164) c = wLd (σ.1 164)
      · have e : rLack (σ.1 164) c = σ.1 164 := by unfold rLack; rw [if_pos (Or.inr (Or.inr h4))]
        rw [if_pos h4, e]
        exact hid
      · have e : rLack (σ.1 164) c = ru (σ.1 164) (24 + 4 * wTn (σ.1 164) + wLd (σ.1 164)) 1 := by unfold rLack; rw [if_neg (by omega)]
        rw [if_neg h4, eb_ledSuit h, zt_ckI (by omega), zt_letS, up_rs, ← e]
        exact key _ (rLack_ag h ho) (rLack_i h ho)
    · have e : rLack (σ.1 164) c = σ.1 164 := by unfold rLack; rw [if_pos (Or.inr (Or.inl (by omega)))]
      rw [if_neg h1, e]
      exact hid
end EM
