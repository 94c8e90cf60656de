/-- what a search below leaves of a row -/
def FW (u u' : Int → Int) : Prop := ∀ i, (i < 0 ∨ 13 < i) → (i < 40 ∨ 92 ≤ i) → (i < 92 + u 12 ∨ 144 ≤ i) → (i < 196 + 6 * u 13 ∨ 274 ≤ i) → u' i = u i
section SK
variable {w u u1 u2 : Int → Int} {c q : Int} {σ τ : zt_S}
theorem FW.rf : FW u u := fun _ _ _ _ _ => rfl
theorem FW.tr (h : FW u u1) (g : FW u1 u2) (h12 : u1 12 = u 12) (h13 : u1 13 = u 13) : FW u u2 := fun i a b d e => by
  rw [g i a b (by rw [h12]; exact d) (by rw [h13]; exact e), h i a b d e]
theorem rGo_v (hp : PI u) (ho : wOv u = false) (hc : 0 ≤ c ∧ c < 4 * u 0) : FW u (rGo u c) ∧ rGo u c 12 = u 12 + 1 ∧ (wPl u + 1 = u 1 → rGo u c 13 = u 13 + 1 ∧ rGo u c (196 + 6 * u 13 + 1) = rGo u c 9) ∧ (¬ wPl u + 1 = u 1 → rGo u c 13 = u 13) := by
  have n := hp.n
  have pl := hp.pl
  have wp := hp.wpl
  have p13 := hp.p13
  have o : u 12 < u 1 * u 2 := by
    unfold wOv at ho
    have := of_decide_eq_false ho
    omega
  have p := rPut_v (u := u) (c := c) ⟨by omega, by omega⟩ ⟨hc.1, by omega⟩
  have e13 : rPut u c 13 = u 13 := p.1 13 (by omega) (by omega) (by omega)
  unfold rGo
  by_cases full : wPl u + 1 = u 1
  · rw [if_pos full]
    have ve : ∀ i, i ≠ 9 → i ≠ 13 → i ≠ 10 → i ≠ 11 → (i < 196 + 6 * u 13 ∨ 196 + 6 * u 13 + 5 < i) → rEnd (rPut u c) i = rPut u c i := fun i h1 h2 h3 h4 h5 => rEnd_o ⟨h1, h2, h3, h4⟩ (by rw [e13]; exact h5)
    have ce := rTrick_c (w := rPut u c) (by rw [e13]; omega)
    rw [e13] at ce
    refine ⟨fun i a b d e => ?_, by rw [ve 12 (by omega) (by omega) (by omega) (by omega) (by omega), p.2.2.2], fun _ => ⟨?_, ?_⟩, fun z => absurd full z⟩
    · rw [ve i (by omega) (by omega) (by omega) (by omega) (by omega), p.1 i (by omega) (by omega) (by omega)]
    · unfold rEnd
      rw [rFade_o ⟨by omega, by omega⟩, rTrick_13, e13]
    · unfold rEnd
      rw [rFade_o ⟨by omega, by omega⟩, rFade_o ⟨by omega, by omega⟩, rTrick_9]
      exact ce.2.1
  · rw [if_neg full]
    exact ⟨fun i a b d e => p.1 i (by omega) (by omega) (by omega), p.2.2.2, fun z => absurd z full, fun _ => e13⟩
/-- the gain of the card, told behind it -/
theorem em_gains {d : Int} (hd : 0 ≤ d ∧ d < 13) (e : EV w u) (hw : RI w) (ho : wOv w = false) (hc : 0 ≤ c ∧ c < 4 * w 0) (hp : wHd w c = wTn w) (e2 : EV (rPlays w c) (σ.1 164)) (f2 : FW (rGo u c) (σ.1 164)) (h9 : σ.1 179 d = u 13) (hq : σ.1 163 28 = q) (hqi : zt_in q) : F_M_gains d σ = some (gn q w c, σ) := by
  have hu := e.pi hw.pi
  have n := hw.n
  have pl := hw.pl
  have p13 := hw.p13
  have o := wOv_lt hw ho
  have hou : wOv u = false := by rw [e.ov]; exact ho
  have e0 := e.1 0 (by omega) (by omega)
  have e1 := e.1 1 (by omega) (by omega)
  have e12 := e.1 12 (by omega) (by omega)
  have e13 := e.1 13 (by omega) (by omega)
  have g := rGo_v (c := c) hu hou (by rw [e0]; exact hc)
  have s13 := e2.1 13 (by omega) (by omega)
  have s9 := e2.1 9 (by omega) (by omega)
  have ev := e.go hw ho hc
  have g9 := ev.1 9 (by omega) (by omega)
  have g13 := ev.1 13 (by omega) (by omega)
  have t := rPlays_t (c := c) hw ho hc
  have rp := (RI_plays hw ho hc hp).n
  unfold F_M_gains F_M_gains_43 F_M_gains_44 gn
  rw [zt_ckI (by omega), h9, s13]
  rcases t with t | t
  · rw [t.2.1, zt_ckI ⟨by unfold zt_in; omega, by unfold zt_in; omega⟩, if_pos (by omega), zt_ckI (by omega), em_trickCell, zt_bdS, zt_ckI (by omega)]
    have fu : wPl u + 1 = u 1 := by rw [e.pl, e1]; exact t.1
    have gg := g.2.2.1 fu
    have cell : σ.1 164 (196 + 6 * u 13 + 1) = rPlays w c 9 := by
      rw [f2 _ (by omega) (by omega) (by omega) (by rw [gg.1]; omega), gg.2, g9]
    rw [cell, hq, zt_ckI ⟨by unfold zt_in; omega, hqi⟩]
    by_cases y : rPlays w c 9 = q
    · rw [if_pos y, if_pos ⟨t.1, y⟩]
    · rw [if_neg y, if_neg (fun z => y z.2)]
  · rw [t.2.1, zt_ckI ⟨by unfold zt_in; omega, by unfold zt_in; omega⟩, if_neg (by omega), if_neg (fun z => t.1 z.1)]
/-- the card is taken back -/
theorem em_takes {d : Int} (hd : 0 ≤ d ∧ d < 13) (e : EV w u) (hw : RI w) (ho : wOv w = false) (hc : 0 ≤ c ∧ c < 4 * w 0) (hp : wHd w c = wTn w) (e2 : EV (rPlays w c) (σ.1 164)) (f2 : FW (rGo u c) (σ.1 164)) (h5 : σ.1 175 d = c) (h6 : σ.1 176 d = u 9) (h7 : σ.1 177 d = u 10) (h8 : σ.1 178 d = u 11) (h9 : σ.1 179 d = u 13) (hq : σ.1 163 28 = q) (hqi : zt_in q) : ∃ u3, F_M_takesBack d (wTn w) σ = some (gn q w c, rs σ u3) ∧ EV w u3 ∧ FW u u3 := by
  have hu := e.pi hw.pi
  have n := hw.n
  have pl := hw.pl
  have wp := hw.wpl
  have p13 := hw.p13
  have o := wOv_lt hw ho
  have hou : wOv u = false := by rw [e.ov]; exact ho
  have e0 := e.1 0 (by omega) (by omega)
  have e1 := e.1 1 (by omega) (by omega)
  have e12 := e.1 12 (by omega) (by omega)
  have e13 := e.1 13 (by omega) (by omega)
  have g := rGo_v (c := c) hu hou (by rw [e0]; exact hc)
  have m := py_more hw ho hc hp
  have s12 := e2.1 12 (by omega) (by omega)
  obtain ⟨v, hv⟩ : ∃ v, v = σ.1 164 := ⟨_, rfl⟩
  obtain ⟨u3, hu3⟩ : ∃ u3, u3 = ru (ru (ru (ru (ru (ru v 9 (u 9)) 10 (u 10)) 11 (u 11)) 13 (u 13)) 12 (w 12)) (40 + c) (wTn w) := ⟨_, rfl⟩
  have vo : ∀ i, i ≠ 9 → i ≠ 10 → i ≠ 11 → i ≠ 13 → i ≠ 12 → i ≠ 40 + c → u3 i = v i := fun i a1 a2 a3 a4 a5 a6 => by rw [hu3, ru_o a6, ru_o a5, ru_o a4, ru_o a3, ru_o a2, ru_o a1]
  have v9 : u3 9 = u 9 := by rw [hu3]; simp (disch := omega) only [ru_o, ru_s]
  have v10 : u3 10 = u 10 := by rw [hu3]; simp (disch := omega) only [ru_o, ru_s]
  have v11 : u3 11 = u 11 := by rw [hu3]; simp (disch := omega) only [ru_o, ru_s]
  have v13 : u3 13 = u 13 := by rw [hu3]; simp (disch := omega) only [ru_o, ru_s]
  have v12 : u3 12 = w 12 := by rw [hu3]; simp (disch := omega) only [ru_o, ru_s]
  have vc : u3 (40 + c) = wTn w := by rw [hu3]; simp (disch := omega) only [ru_s]
  rw [← hv] at e2 f2
  -- the frame
  have fw : FW u u3 := fun i a b d' e' => by
    rw [vo i (by omega) (by omega) (by omega) (by omega) (by omega) (by omega)]
    have gi := g.1 i a b d' e'
    have le13 : u 13 ≤ rGo u c 13 := by
      by_cases full : wPl u + 1 = u 1
      · rw [(g.2.2.1 full).1]; omega
      · rw [g.2.2.2 full]; omega
    rw [f2 i a b (by rw [g.2.1]; omega) (by omega), gi]
  refine ⟨u3, ?_, ⟨fun i i0 i1 => ?_, fun x x0 x1 => ?_, fun k k0 k1 => ?_⟩, fw⟩
  · have gn' := em_gains (σ := σ) hd e hw ho hc hp (by rw [← hv]; exact e2) (by rw [← hv]; exact f2) h9 hq hqi
    have c12 : (zt_up (zt_up (zt_up (zt_up σ 164 9 (u 9)) 164 10 (u 10)) 164 11 (u 11)) 164 13 (u 13)).1 164 12 = rPlays w c 12 := by
      rw [up_o (by omega), up_o (by omega), up_o (by omega), up_o (by omega), ← hv]; exact s12.symm ▸ (e2.1 12 (by omega) (by omega))
    unfold F_M_takesBack
    rw [gn', zt_bdS, zt_ckI (by omega), h6, zt_letS, zt_ckI (by omega), up_o (by omega), h7, zt_letS, zt_ckI (by omega), up_o (by omega), up_o (by omega), h8, zt_letS, zt_ckI (by omega), up_o (by omega), up_o (by omega), up_o (by omega), h9, zt_letS, c12, m.1, zt_letS, zt_ckI (by omega), up_o (by omega), up_o (by omega), up_o (by omega), up_o (by omega), up_o (by omega), h5, zt_ckI (by omega), zt_letS, show w 12 + 1 - 1 = w 12 by omega, up_rs σ 9 (u 9), rs_up, rs_up, rs_up, rs_up, rs_up, ← hv, ← hu3]
  · by_cases q9 : i = 9
    · rw [q9, v9, e.1 9 (by omega) (by omega)]
    · by_cases q10 : i = 10
      · rw [q10, v10, e.1 10 (by omega) (by omega)]
      · by_cases q11 : i = 11
        · rw [q11, v11, e.1 11 (by omega) (by omega)]
        · by_cases q12 : i = 12
          · rw [q12, v12]
          · by_cases q13 : i = 13
            · rw [q13, v13, e13]
            · rw [vo i q9 q10 q11 q13 q12 (by omega), e2.1 i i0 i1, rPlays_s hw ho hc (by omega)]
  · by_cases z : x = c
    · rw [z, vc]
      exact hp.symm
    · rw [vo _ (by omega) (by omega) (by omega) (by omega) (by omega) (by omega), e2.2.1 x x0 x1]
      have := m.2.1 x x0 x1
      rw [if_neg z] at this
      exact this
  · have ec : wCd u k = wCd w k := e.2.2 k k0 k1
    have m13 := hw.m13
    rw [← ec]
    unfold wPl at k1
    have u31 : u3 1 = u 1 := by rw [vo 1 (by omega) (by omega) (by omega) (by omega) (by omega) (by omega), e2.1 1 (by omega) (by omega), rPlays_s hw ho hc (by omega), e1]
    unfold wCd
    rw [v13, u31]
    exact fw _ (by rw [e13, e1]; omega) (by rw [e13, e1]; omega) (by rw [e13, e1, e12]; omega) (by rw [e13, e1]; omega)
end SK
