/-! A ROW stays a row behind a trick, and behind a hand -/
section RP
variable {w : Int → Int} {c : Int}
theorem RI_end (h : RI w) (ho : wOv w = false) (hc : 0 ≤ c ∧ c < 4 * w 0) (hp : wHd w c = wTn w) (hf : wPl w + 1 = w 1) : RI (rEnd (rCard w c (wTn w))) := by
  have a := h.n
  have b := h.wpl
  have pl := h.pl
  have o := wOv_lt h ho
  have m := h.m13
  have t := wTn_lt h
  have t2 := t.2.2 ho
  have n := rCard_nx (p := wTn w) h ho hc
  have q := rCard_q (p := wTn w) h ho hc
  have cc := rCard_c (w := w) (c := c) (p := wTn w) ⟨hc.1, by omega⟩ ⟨by omega, by omega⟩
  have e : ∀ i, i ≠ 40 + c → i ≠ 92 + w 12 → i ≠ 144 + w 12 → i ≠ 12 → rCard w c (wTn w) i = w i := fun i h1 h2 h3 h4 => rCard_o ⟨h1, h2, h3, h4⟩
  have hch : ∀ {q : Int}, 0 ≤ q → wHc (rCard w c (wTn w)) q = wHc w q - (if q = wTn w then 1 else 0) := fun hq => rCard_hc (c := c) (p := wTn w) h (hc := hc) hp ⟨by omega, by omega⟩ hq
  obtain ⟨a1, a2, a3, a4, a5, a6, a7, a8, a9, a10, a11⟩ := id h
  have hm := md_lt (m := w 1) (a := w 9) (b := wPl w) a.2.1 ⟨by omega, by omega⟩ b
  have tn : wTn w = (w 9 + wPl w) % w 1 := by unfold wTn; rw [ho]; rfl
  have n13 : rCard w c (wTn w) 13 = w 13 := n.2.2.2.2.2.2.1
  have n0 : rCard w c (wTn w) 0 = w 0 := n.1
  have n1 : rCard w c (wTn w) 1 = w 1 := n.2.1
  have npl := n.pl
  have qbp := (wBp_ltq q).2.2.1 (by rw [npl]; omega)
  have qcd := q.cd qbp.1 qbp.2
  have qsu := wS_ltq q qcd.1 qcd.2.1
  have qld := (wLd_ltq q)
  have qld2 := qld.2.2 (by rw [npl]; omega)
  have ce := rTrick_c (w := rCard w c (wTn w)) (by rw [n13]; omega)
  have v9 : rEnd (rCard w c (wTn w)) 9 = (rCard w c (wTn w) 9 + wBp (rCard w c (wTn w))) % w 1 := by
    unfold rEnd
    rw [rFade_o ⟨by omega, by omega⟩, rTrick_9, n1]
  have v9l := Int.emod_nonneg (rCard w c (wTn w) 9 + wBp (rCard w c (wTn w))) (show w 1 ≠ 0 by omega)
  have v9u := Int.emod_lt_of_pos (rCard w c (wTn w) 9 + wBp (rCard w c (wTn w))) (show 0 < w 1 by omega)
  have v13 : rEnd (rCard w c (wTn w)) 13 = w 13 + 1 := by
    unfold rEnd
    rw [rFade_o ⟨by omega, by omega⟩, rTrick_13, n13]
  have tr : ∀ i, i ≠ 9 → i ≠ 13 → i < 196 → rTrick (rCard w c (wTn w)) i = rCard w c (wTn w) i := fun i h1 h2 h3 => rTrick_o ⟨h1, h2⟩ (by rw [n13]; omega)
  have fl := rFade_lt (w := rTrick (rCard w c (wTn w))) (s := wS (rCard w c (wTn w)) (wCd (rCard w c (wTn w)) (wBp (rCard w c (wTn w)))))
    (by rw [tr 5 (by omega) (by omega) (by omega), tr 6 (by omega) (by omega) (by omega), tr 10 (by omega) (by omega) (by omega), tr 11 (by omega) (by omega) (by omega), e 5 (by omega) (by omega) (by omega) (by omega), e 6 (by omega) (by omega) (by omega) (by omega), e 10 (by omega) (by omega) (by omega) (by omega), e 11 (by omega) (by omega) (by omega) (by omega)]; omega) ⟨by omega, by omega⟩
  have f : ∀ i, i ≠ 9 → i ≠ 13 → i ≠ 10 → i ≠ 11 → (i < 196 + 6 * w 13 ∨ 196 + 6 * w 13 + 5 < i) → rEnd (rCard w c (wTn w)) i = rCard w c (wTn w) i := fun i h1 h2 h3 h4 h5 => rEnd_o ⟨h1, h2, h3, h4⟩ (by rw [n13]; exact h5)
  have g : ∀ i, i ≠ 9 → i ≠ 13 → i ≠ 10 → i ≠ 11 → i ≠ 12 → i ≠ 40 + c → i ≠ 92 + w 12 → i ≠ 144 + w 12 → (i < 196 + 6 * w 13 ∨ 196 + 6 * w 13 + 5 < i) → rEnd (rCard w c (wTn w)) i = w i := fun i h1 h2 h3 h4 h5 h6 h7 h8 h9 => by rw [f i h1 h2 h3 h4 h9, e i h6 h7 h8 h5]
  have g0 : rEnd (rCard w c (wTn w)) 0 = w 0 := g 0 (by omega) (by omega) (by omega) (by omega) (by omega) (by omega) (by omega) (by omega) (by omega)
  have g1 : rEnd (rCard w c (wTn w)) 1 = w 1 := g 1 (by omega) (by omega) (by omega) (by omega) (by omega) (by omega) (by omega) (by omega) (by omega)
  have g2 : rEnd (rCard w c (wTn w)) 2 = w 2 := g 2 (by omega) (by omega) (by omega) (by omega) (by omega) (by omega) (by omega) (by omega) (by omega)
  have v12 : rEnd (rCard w c (wTn w)) 12 = w 12 + 1 := by rw [f 12 (by omega) (by omega) (by omega) (by omega) (by omega), cc.2.2.2]
  have mul : (w 13 + 1) * w 1 = w 13 * w 1 + w 1 := by rw [Int.add_mul, Int.one_mul]
  have vpl : wPl (rEnd (rCard w c (wTn w))) = 0 := by
    unfold wPl at hf ⊢
    rw [v12, v13, g1, mul]
    omega
  refine ⟨?_, ?_, ?_, ?_, ?_, ?_, ?_, ?_, ?_, ?_, ?_⟩
  · rw [g0, g1, g2, g 3 (by omega) (by omega) (by omega) (by omega) (by omega) (by omega) (by omega) (by omega) (by omega), g 4 (by omega) (by omega) (by omega) (by omega) (by omega) (by omega) (by omega) (by omega) (by omega), g 5 (by omega) (by omega) (by omega) (by omega) (by omega) (by omega) (by omega) (by omega) (by omega), g 6 (by omega) (by omega) (by omega) (by omega) (by omega) (by omega) (by omega) (by omega) (by omega), g 7 (by omega) (by omega) (by omega) (by omega) (by omega) (by omega) (by omega) (by omega) (by omega), g 8 (by omega) (by omega) (by omega) (by omega) (by omega) (by omega) (by omega) (by omega) (by omega), v9]
    exact ⟨a.1, a.2.1, a.2.2.1, a.2.2.2.1, a.2.2.2.2.1, a.2.2.2.2.2.1, a.2.2.2.2.2.2.1, a.2.2.2.2.2.2.2.1, a.2.2.2.2.2.2.2.2.1, a.2.2.2.2.2.2.2.2.2.1, ⟨v9l, v9u⟩, fl.1, fl.2⟩
  · rw [v12, v13, g1, g2, mul]
    unfold wPl at hf b
    omega
  · rw [g 14 (by omega) (by omega) (by omega) (by omega) (by omega) (by omega) (by omega) (by omega) (by omega)]
    exact a3
  · intro p h0 h1
    rw [g _ (by omega) (by omega) (by omega) (by omega) (by omega) (by omega) (by omega) (by omega) (by omega)]
    exact a4 p h0 h1
  · intro p h0 h1
    rw [g _ (by omega) (by omega) (by omega) (by omega) (by omega) (by omega) (by omega) (by omega) (by omega)]
    exact a5 p h0 h1
  · intro k h0 h1
    rw [g _ (by omega) (by omega) (by omega) (by omega) (by omega) (by omega) (by omega) (by omega) (by omega)]
    exact a6 k h0 h1
  · intro x h0 h1
    rw [g0, g1, f _ (by omega) (by omega) (by omega) (by omega) (by omega)]
    by_cases hx : x = c
    · rw [hx, cc.1]; omega
    · rw [e _ (by omega) (by omega) (by omega) (by omega)]
      exact a7 x h0 h1
  · intro k h0 h1
    rw [v12] at h1
    rw [g0, g1, f (92 + k) (by omega) (by omega) (by omega) (by omega) (by omega), f (144 + k) (by omega) (by omega) (by omega) (by omega) (by omega)]
    by_cases hk : k = w 12
    · rw [hk, cc.2.1, cc.2.2.1, f (40 + c) (by omega) (by omega) (by omega) (by omega) (by omega), cc.1]; omega
    · have k8 := a8 k h0 (by omega)
      rw [e (92 + k) (by omega) (by omega) (by omega) (by omega), e (144 + k) (by omega) (by omega) (by omega) (by omega)]
      refine ⟨k8.1, k8.2.1, ?_, k8.2.2.2⟩
      rw [f _ (by omega) (by omega) (by omega) (by omega) (by omega)]
      by_cases hx : w (92 + k) = c
      · rw [hx, cc.1]
      · rw [e _ (by omega) (by omega) (by omega) (by omega)]
        exact k8.2.2.1
  · intro j k h0 h1 h2
    rw [v12] at h2
    rw [f (92 + j) (by omega) (by omega) (by omega) (by omega) (by omega), f (92 + k) (by omega) (by omega) (by omega) (by omega) (by omega), e (92 + j) (by omega) (by omega) (by omega) (by omega)]
    by_cases hk : k = w 12
    · rw [hk, cc.2.1]
      intro z
      have k8 := a8 j h0 (by omega)
      rw [z] at k8
      unfold wHd at hp
      omega
    · rw [e (92 + k) (by omega) (by omega) (by omega) (by omega)]
      exact a9 j k h0 h1 (by omega)
  · intro t h0 h1
    rw [v13] at h1
    rw [g0, g1]
    by_cases ht : t = w 13
    · subst ht
      rw [n13] at ce
      have x9 : rCard w c (wTn w) 9 = w 9 := e 9 (by omega) (by omega) (by omega) (by omega)
      have x10 : rCard w c (wTn w) 10 = w 10 := e 10 (by omega) (by omega) (by omega) (by omega)
      have x11 : rCard w c (wTn w) 11 = w 11 := e 11 (by omega) (by omega) (by omega) (by omega)
      have ff : ∀ i, 196 ≤ i → rEnd (rCard w c (wTn w)) i = rTrick (rCard w c (wTn w)) i := fun i hi => by unfold rEnd; rw [rFade_o ⟨by omega, by omega⟩]
      rw [ff _ (by omega), ff _ (by omega), ff _ (by omega), ff _ (by omega), ff _ (by omega), ff _ (by omega), ce.1, ce.2.1, ce.2.2.1, ce.2.2.2.1, ce.2.2.2.2.1, ce.2.2.2.2.2, x10, x11, n1]
      rw [n0] at qcd
      exact ⟨by rw [x9]; omega, ⟨v9l, v9u⟩, ⟨qcd.1, qcd.2.1⟩, ⟨qld2, qld.2.1⟩, by omega, by omega⟩
    · have k10 := a10 t h0 (by omega)
      rw [g (196 + 6 * t) (by omega) (by omega) (by omega) (by omega) (by omega) (by omega) (by omega) (by omega) (by omega), g (196 + 6 * t + 1) (by omega) (by omega) (by omega) (by omega) (by omega) (by omega) (by omega) (by omega) (by omega), g (196 + 6 * t + 2) (by omega) (by omega) (by omega) (by omega) (by omega) (by omega) (by omega) (by omega) (by omega), g (196 + 6 * t + 3) (by omega) (by omega) (by omega) (by omega) (by omega) (by omega) (by omega) (by omega) (by omega), g (196 + 6 * t + 4) (by omega) (by omega) (by omega) (by omega) (by omega) (by omega) (by omega) (by omega) (by omega), g (196 + 6 * t + 5) (by omega) (by omega) (by omega) (by omega) (by omega) (by omega) (by omega) (by omega) (by omega)]
      exact k10
  · intro q h0 h1
    rw [g1] at h1
    have eh : wHc (rEnd (rCard w c (wTn w))) q = wHc (rCard w c (wTn w)) q := by
      unfold wHc wHd
      exact cn_congr _ _ (fun x y0 y1 => by rw [f _ (by omega) (by omega) (by omega) (by omega) (by omega)])
    rw [eh, hch h0, vpl, g1, g2, v13, v9, a11 q h0 h1]
    have k := (hm.2.2 q h0 h1).1
    rw [← tn] at k
    have k2 := (hm.2.2 q h0 h1).2
    have k3 := (md_lt (m := w 1) (a := (rCard w c (wTn w) 9 + wBp (rCard w c (wTn w))) % w 1) (b := 0) a.2.1 ⟨v9l, v9u⟩ (by omega)).2.2 q h0 h1
    rw [if_neg (show ¬ (q + w 1 - (rCard w c (wTn w) 9 + wBp (rCard w c (wTn w))) % w 1) % w 1 < 0 by omega)]
    by_cases hq : q = wTn w
    · have k1 := k.mpr hq
      rw [if_pos hq, if_neg (by omega)]
      omega
    · have k1 : ¬ (q + w 1 - w 9) % w 1 = wPl w := fun z => hq (k.mp z)
      rw [if_neg hq, if_pos (by omega)]
      omega
theorem RI_plays (h : RI w) (ho : wOv w = false) (hc : 0 ≤ c ∧ c < 4 * w 0) (hp : wHd w c = wTn w) : RI (rPlays w c) := by
  have a := rLack_ag (c := c) h ho
  have b := rLack_i (c := c) h ho
  have ho' : wOv (rLack w c) = false := by unfold wOv at ho ⊢; rw [a 12 (by omega), a 1 (by omega), a 2 (by omega)]; exact ho
  have hc' : 0 ≤ c ∧ c < 4 * rLack w c 0 := by rw [a 0 (by omega)]; exact hc
  have hp' : wHd (rLack w c) c = wTn (rLack w c) := by rw [a.hd hc.1, a.tn]; exact hp
  have e1 : rLack w c 1 = w 1 := a 1 (by omega)
  unfold rPlays
  split
  · rename_i hf
    have := RI_end b ho' hc' hp' (by rw [a.pl, e1]; exact hf)
    rwa [a.tn] at this
  · rename_i hf
    have := RI_card b ho' hc' hp' (by rw [a.pl, e1]; exact hf)
    rwa [a.tn] at this
/-- what the reference's row is behind a card when the hand is over by it -/
def rCount (w : Int → Int) : Int → Int := if wOv w = true then fun i => if 20 ≤ i ∧ i < 20 + w 1 then w i + wRs w (i - 20) else if i = 14 then w 14 + 1 else w i else w
def RB (n : Int) (w : Int → Int) : Prop := w 14 ≤ n ∧ ∀ p, 0 ≤ p → p < 4 → -30 * n ≤ w (20 + p) ∧ w (20 + p) ≤ 30 * n
theorem wRs_lt (h : RI w) {p : Int} (hp : 0 ≤ p ∧ p < 4) : -30 ≤ wRs w p ∧ wRs w p ≤ 30 := by
  have a := wTk_lt h (p := p)
  have b := h.2.2.2.1 p hp.1 hp.2
  unfold wRs
  split
  · omega
  · split
    · omega
    · split <;> omega
theorem rCount_o {i : Int} (h : RI w) (hi : i < 14 ∨ (14 < i ∧ i < 20) ∨ 24 ≤ i) : rCount w i = w i := by
  have a := h.n
  unfold rCount
  split
  · show (if 20 ≤ i ∧ i < 20 + w 1 then w i + wRs w (i - 20) else if i = 14 then w 14 + 1 else w i) = w i
    rw [if_neg (show ¬ (20 ≤ i ∧ i < 20 + w 1) by omega), if_neg (show ¬ i = 14 by omega)]
  · rfl
theorem RI_count {n : Int} (h : RI w) (hb : RB n w) (hn : 0 ≤ n ∧ n ≤ 1000) : RI (rCount w) ∧ RB (n + 1) (rCount w) := by
  have a := h.n
  have p12 := h.p12
  have e : ∀ i, (i < 14 ∨ (14 < i ∧ i < 20) ∨ 24 ≤ i) → rCount w i = w i := fun i hi => rCount_o h hi
  have e14 : rCount w 14 = w 14 ∨ rCount w 14 = w 14 + 1 := by
    unfold rCount
    split
    · show (if (20 : Int) ≤ 14 ∧ (14 : Int) < 20 + w 1 then w 14 + wRs w (14 - 20) else if (14 : Int) = 14 then w 14 + 1 else w 14) = w 14 ∨ (if (20 : Int) ≤ 14 ∧ (14 : Int) < 20 + w 1 then w 14 + wRs w (14 - 20) else if (14 : Int) = 14 then w 14 + 1 else w 14) = w 14 + 1
      rw [if_neg (show ¬ ((20 : Int) ≤ 14 ∧ (14 : Int) < 20 + w 1) by omega), if_pos rfl]; exact Or.inr rfl
    · exact Or.inl rfl
  have ep : ∀ p, 0 ≤ p → p < 4 → w (20 + p) - 30 ≤ rCount w (20 + p) ∧ rCount w (20 + p) ≤ w (20 + p) + 30 := by
    intro p h0 h1
    have r := wRs_lt h (p := p) ⟨h0, h1⟩
    unfold rCount
    split
    · dsimp only
      rw [show 20 + p - 20 = p by omega]
      split
      · omega
      · rw [if_neg (show ¬ 20 + p = 14 by omega)]; omega
    · omega
  obtain ⟨a1, a2, a3, a4, a5, a6, a7, a8, a9, a10, a11⟩ := id h
  have hd : ∀ x, 0 ≤ x → wHd (rCount w) x = wHd w x := fun x h0 => e _ (by omega)
  have pl : wPl (rCount w) = wPl w := by unfold wPl; rw [e 12 (by omega), e 13 (by omega), e 1 (by omega)]
  refine ⟨⟨?_, ?_, ?_, ?_, ?_, ?_, ?_, ?_, ?_, ?_, ?_⟩, ?_, fun p h0 h1 => ?_⟩
  · rw [e 0 (by omega), e 1 (by omega), e 2 (by omega), e 3 (by omega), e 4 (by omega), e 5 (by omega), e 6 (by omega), e 7 (by omega), e 8 (by omega), e 9 (by omega), e 10 (by omega), e 11 (by omega)]
    exact a1
  · rw [e 12 (by omega), e 1 (by omega), e 2 (by omega), e 13 (by omega)]
    exact a2
  · have := hb.1
    omega
  · intro p h0 h1
    rw [e _ (by omega)]
    exact a4 p h0 h1
  · intro p h0 h1
    have x := ep p h0 h1
    have y := hb.2 p h0 h1
    omega
  · intro k h0 h1
    rw [e _ (by omega)]
    exact a6 k h0 h1
  · intro x h0 h1
    rw [e _ (by omega), e 0 (by omega), e 1 (by omega)]
    exact a7 x h0 h1
  · intro k h0 h1
    rw [e 12 (by omega)] at h1
    have b := a8 k h0 h1
    rw [e (92 + k) (by omega), e (144 + k) (by omega), e 0 (by omega), e 1 (by omega), e (40 + w (92 + k)) (by omega)]
    exact b
  · intro j k h0 h1 h2
    rw [e 12 (by omega)] at h2
    rw [e (92 + j) (by omega), e (92 + k) (by omega)]
    exact a9 j k h0 h1 h2
  · intro t h0 h1
    rw [e 13 (by omega)] at h1
    rw [e (196 + 6 * t) (by omega), e (196 + 6 * t + 1) (by omega), e (196 + 6 * t + 2) (by omega), e (196 + 6 * t + 3) (by omega), e (196 + 6 * t + 4) (by omega), e (196 + 6 * t + 5) (by omega), e 0 (by omega), e 1 (by omega)]
    exact a10 t h0 h1
  · intro p h0 h1
    rw [e 1 (by omega)] at h1
    have eh : wHc (rCount w) p = wHc w p := by
      unfold wHc
      exact cn_congr _ _ (fun x y0 y1 => by rw [hd x y0])
    rw [eh, pl, e 2 (by omega), e 13 (by omega), e 1 (by omega), e 9 (by omega)]
    exact a11 p h0 h1
  · have := hb.1
    omega
  · have x := ep p h0 h1
    have y := hb.2 p h0 h1
    omega
end RP
