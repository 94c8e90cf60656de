/-! SURE: the reference plays a card and takes it back -/
/-- the row with a card put down; who played is not told -/
def rPut (u : Int → Int) (c : Int) : Int → Int := ru (ru (ru u (40 + c) (-1)) (92 + u 12) c) 12 (u 12 + 1)
def rGo (u : Int → Int) (c : Int) : Int → Int := if wPl u + 1 = u 1 then rEnd (rPut u c) else rPut u c
section SB
variable {w u : Int → Int} {c : Int} {σ τ : zt_S}
theorem rPut_v (h : 0 ≤ u 12 ∧ u 12 < 52) (hc : 0 ≤ c ∧ c < 52) : (∀ i, i ≠ 40 + c → i ≠ 92 + u 12 → i ≠ 12 → rPut u c i = u i) ∧ rPut u c (40 + c) = -1 ∧ rPut u c (92 + u 12) = c ∧ rPut u c 12 = u 12 + 1 := by
  unfold rPut
  refine ⟨fun i a b d => by rw [ru_o d, ru_o b, ru_o a], ?_, ?_, by rw [ru_s]⟩
  · rw [ru_o (by omega), ru_o (by omega), ru_s]
  · rw [ru_o (by omega), ru_s]
theorem rPut_cd (hp : PI u) (ho : wOv u = false) (hc : 0 ≤ c ∧ c < 4 * u 0) : wPl (rPut u c) = wPl u + 1 ∧ (∀ k, 0 ≤ k → k < wPl u → wCd (rPut u c) k = wCd u k) ∧ wCd (rPut u c) (wPl u) = c := by
  have n := hp.n
  have pl := hp.pl
  have m := hp.m13
  have o : u 12 < u 1 * u 2 := by
    unfold wOv at ho
    have := of_decide_eq_false ho
    omega
  have p := rPut_v (u := u) (c := c) ⟨by omega, by omega⟩ ⟨hc.1, by omega⟩
  have e1 : rPut u c 1 = u 1 := p.1 1 (by omega) (by omega) (by omega)
  have e13 : rPut u c 13 = u 13 := p.1 13 (by omega) (by omega) (by omega)
  refine ⟨?_, fun k k0 k1 => ?_, ?_⟩
  · unfold wPl
    rw [p.2.2.2, e1, e13]
    omega
  · unfold wPl at k1
    unfold wCd
    rw [e1, e13, p.1 _ (by omega) (by omega) (by omega)]
  · unfold wCd wPl
    rw [e1, e13, show 92 + u 13 * u 1 + (u 12 - u 13 * u 1) = 92 + u 12 by omega]
    exact p.2.2.1
theorem rPut_q (hp : PI u) (ho : wOv u = false) (hc : 0 ≤ c ∧ c < 4 * u 0) : QI (rPut u c) := by
  have n := hp.n
  have pl := hp.pl
  have wp := hp.wpl
  have m := hp.m13
  have o : u 12 < u 1 * u 2 := by
    unfold wOv at ho
    have := of_decide_eq_false ho
    omega
  have p := rPut_v (u := u) (c := c) ⟨by omega, by omega⟩ ⟨hc.1, by omega⟩
  have cd := rPut_cd hp ho hc
  have e := fun i (hi : 0 ≤ i ∧ i ≤ 13 ∧ i ≠ 12) => p.1 i (by omega) (by omega) (by omega)
  refine ⟨?_, ?_, ?_, fun k k0 k1 => ?_⟩
  · rw [e 0 (by omega), e 1 (by omega), e 2 (by omega), e 3 (by omega), e 4 (by omega), e 5 (by omega), e 6 (by omega), e 7 (by omega), e 8 (by omega), e 9 (by omega), e 10 (by omega), e 11 (by omega)]
    exact n
  · rw [e 13 (by omega), e 1 (by omega)]
    exact m
  · rw [cd.1, e 1 (by omega)]
    omega
  · rw [cd.1] at k1
    rw [e 0 (by omega)]
    by_cases z : k = wPl u
    · rw [z, cd.2.2]; exact hc
    · rw [cd.2.1 k k0 (by omega)]
      exact ⟨(hp.cd k0 (by omega)).1, (hp.cd k0 (by omega)).2.1⟩
/-- the reference's row behind the card plays as the row of the game does -/
theorem EV.go (e : EV w u) (hw : RI w) (ho : wOv w = false) (hc : 0 ≤ c ∧ c < 4 * w 0) : EV (rPlays w c) (rGo u c) := by
  have n := hw.n
  have pl := hw.pl
  have wp := hw.wpl
  have o := wOv_lt hw ho
  have hu := e.pi hw.pi
  have hou : wOv u = false := by rw [e.ov]; exact ho
  have e0 := e.1 0 (by omega) (by omega)
  have e12 := e.1 12 (by omega) (by omega)
  have hcu : 0 ≤ c ∧ c < 4 * u 0 := by rw [e0]; exact hc
  have ag := rLack_ag (c := c) hw ho
  have ri := rLack_i (c := c) hw ho
  have ho' : wOv (rLack w c) = false := by unfold wOv at ho ⊢; rw [ag 12 (by omega), ag 1 (by omega), ag 2 (by omega)]; exact ho
  have hc' : 0 ≤ c ∧ c < 4 * rLack w c 0 := by rw [ag 0 (by omega)]; exact hc
  have nx : Nx w (rCard (rLack w c) c (wTn w)) c := (rCard_nx (p := wTn w) ri ho' hc').ag ag hw.q
  have r12 : rLack w c 12 = w 12 := ag 12 (by omega)
  have p := rPut_v (u := u) (c := c) ⟨by omega, by omega⟩ ⟨hc.1, by omega⟩
  have cd := rPut_cd hu hou hcu
  have ev : EV (rCard (rLack w c) c (wTn w)) (rPut u c) := by
    refine ⟨fun i i0 i1 => ?_, fun d d0 d1 => ?_, fun k k0 k1 => ?_⟩
    · by_cases h12 : i = 12
      · rw [h12, p.2.2.2, e12]
        unfold rCard
        rw [ru_s, r12]
      · rw [p.1 i (by omega) (by omega) h12, rCard_o ⟨by omega, by rw [r12]; omega, by rw [r12]; omega, h12⟩, ag i (by omega), e.1 i i0 i1]
    · by_cases z : d = c
      · rw [z, p.2.1]
        exact (rCard_c (w := rLack w c) (c := c) (p := wTn w) ⟨hc.1, by omega⟩ (by rw [r12]; omega)).1.symm
      · rw [p.1 _ (by omega) (by omega) (by omega), rCard_o ⟨by omega, by rw [r12]; omega, by rw [r12]; omega, by omega⟩, ag _ (by omega), e.2.1 d d0 d1]
    · rw [nx.pl] at k1
      by_cases z : k = wPl w
      · rw [z, nx.2.2.2.2.2.2.2.2, ← e.pl, cd.2.2]
      · rw [nx.2.2.2.2.2.2.2.1 k k0 (by omega), cd.2.1 k k0 (by rw [e.pl]; omega), e.2.2 k k0 (by omega)]
  unfold rPlays rGo
  rw [e.pl, e.1 1 (by omega) (by omega)]
  by_cases full : wPl w + 1 = w 1
  · rw [if_pos full, if_pos full]
    exact ev.en (rCard_q ri ho' hc') (rPut_q hu hou hcu) (by rw [nx.pl, nx.2.1]; exact full) (by rw [nx.2.2.2.2.2.2.1]; omega)
  · rw [if_neg full, if_neg full]
    exact ev
/-- what is put by at a level -/
def PB (d : Int) (c : Int) (u : Int → Int) (σ τ : zt_S) : Prop := τ.1 175 d = c ∧ τ.1 176 d = u 9 ∧ τ.1 177 d = u 10 ∧ τ.1 178 d = u 11 ∧ τ.1 179 d = u 13 ∧ (∀ x j, x ≠ 164 → (x < 175 ∨ 179 < x ∨ j ≠ d) → τ.1 x j = σ.1 x j) ∧ τ.2 = σ.2
theorem em_puts {d : Int} (hd : 0 ≤ d ∧ d < 13) (hp : PI (σ.1 164)) (ho : wOv (σ.1 164) = false) (hc : 0 ≤ c ∧ c < 4 * σ.1 164 0) : ∃ τ, F_M_puts d c σ = some ((), τ) ∧ τ.1 164 = rGo (σ.1 164) c ∧ PB d c (σ.1 164) σ τ := by
  obtain ⟨u, hu⟩ : ∃ u, u = σ.1 164 := ⟨_, rfl⟩
  rw [← hu] at hp ho hc ⊢
  have n := hp.n
  have pl := hp.pl
  have wp := hp.wpl
  have o : u 12 < u 1 * u 2 := by
    unfold wOv at ho
    have := of_decide_eq_false ho
    omega
  obtain ⟨s, hs⟩ : ∃ s, s = zt_up (zt_up (zt_up (zt_up (zt_up σ 175 d c) 176 d (u 9)) 177 d (u 10)) 178 d (u 11)) 179 d (u 13) := ⟨_, rfl⟩
  have s164 : s.1 164 = u := by
    rw [hs, hu]
    exact funext fun j => by simp (disch := omega) only [up_o]
  have e : zt_up (zt_up (zt_up s 164 (40 + c) (-1)) 164 (92 + u 12) c) 164 12 (u 12 + 1) = rs s (rPut u c) := by
    rw [up_rs s (40 + c) (-1), rs_up, rs_up, s164]
    rfl
  have cd := rPut_cd hp ho hc
  have q := rPut_q hp ho hc
  have pv := rPut_v (u := u) (c := c) ⟨by omega, by omega⟩ ⟨hc.1, by omega⟩
  have pb : ∀ r, PB d c u σ (rs s r) := fun r => by
    refine ⟨?_, ?_, ?_, ?_, ?_, fun x j a b => ?_, ?_⟩
    · rw [rs_o (by decide), hs]; simp (disch := omega) only [up_o, up_s]
    · rw [rs_o (by decide), hs]; simp (disch := omega) only [up_o, up_s]
    · rw [rs_o (by decide), hs]; simp (disch := omega) only [up_o, up_s]
    · rw [rs_o (by decide), hs]; simp (disch := omega) only [up_o, up_s]
    · rw [rs_o (by decide), hs]; simp (disch := omega) only [up_s]
    · rw [rs_o a, hs]; simp (disch := omega) only [up_o]
    · rw [rs_2, hs]; rfl
  have x9 : (zt_up σ 175 d c).1 164 9 = u 9 := by rw [up_o (by omega), hu]
  have x10 : (zt_up (zt_up σ 175 d c) 176 d (u 9)).1 164 10 = u 10 := by rw [up_o (by omega), up_o (by omega), hu]
  have x11 : (zt_up (zt_up (zt_up σ 175 d c) 176 d (u 9)) 177 d (u 10)).1 164 11 = u 11 := by rw [up_o (by omega), up_o (by omega), up_o (by omega), hu]
  have x13 : (zt_up (zt_up (zt_up (zt_up σ 175 d c) 176 d (u 9)) 177 d (u 10)) 178 d (u 11)).1 164 13 = u 13 := by rw [up_o (by omega), up_o (by omega), up_o (by omega), up_o (by omega), hu]
  have x12 : (zt_up s 164 (40 + c) (-1)).1 164 12 = u 12 := by rw [up_o (by omega), s164]
  have x12' : (zt_up (zt_up s 164 (40 + c) (-1)) 164 (92 + u 12) c).1 164 12 = u 12 := by rw [up_o (by omega), up_o (by omega), s164]
  unfold F_M_puts F_M_puts_113
  rw [zt_ckI (by omega), zt_letS, zt_ckI (by omega), x9, zt_letS, zt_ckI (by omega), x10, zt_letS, zt_ckI (by omega), x11, zt_letS, zt_ckI (by omega), x13, zt_letS, ← hs, zt_ckI (by omega), zt_letS, x12, zt_ckI (by omega), zt_letS, x12', zt_letS, e, em_inTrick, zt_bdS, rs_r, cd.1, pv.1 1 (by omega) (by omega) (by omega), zt_ckI ⟨by unfold zt_in; omega, by unfold zt_in; omega⟩]
  unfold rGo
  by_cases full : wPl u + 1 = u 1
  · rw [if_pos full, if_pos full]
    have en := qm_endsTrick (σ := rs s (rPut u c)) (by rw [rs_r]; exact q) (by rw [rs_r, cd.1, pv.1 1 (by omega) (by omega) (by omega)]; exact full) (by rw [rs_r, pv.1 13 (by omega) (by omega) (by omega)]; have := hp.p13; omega) (by rw [rs_r, pv.2.2.2]; omega)
    rw [en, zt_bdS, rs_r, rs_rs]
    exact ⟨_, rfl, rs_r _ _, pb _⟩
  · rw [if_neg full, if_neg full]
    exact ⟨_, rfl, rs_r _ _, pb _⟩
end SB
