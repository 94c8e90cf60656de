/-! THE CLASS closes a trick -/
section EC
variable {σ : zt_S} {t : Nat} {u w : Int → Int} {c : Int}
theorem rFade_ag {w w' : Int → Int} {s : Int} (e5 : w' 5 = w 5) (e6 : w' 6 = w 6) (e7 : w' 7 = w 7) (e10 : w' 10 = w 10) (e11 : w' 11 = w 11) : rFade w' s 10 = rFade w s 10 ∧ rFade w' s 11 = rFade w s 11 := by
  unfold rFade
  rw [e5, e6, e7, e11]
  constructor
  · split
    · rw [ru_o (by omega), ru_o (by omega), e10]
    · simp (disch := omega) only [ru_o, ru_s]
  · split
    · rw [ru_s, ru_s]
    · rw [ru_s, ru_s]
theorem ec_closeTrick (ho : OK t) (hs : SUw σ (zt_su t) u) (hu : QI u) (h : TB σ t u) (hp : wPl u = u 1) (h13 : 0 ≤ u 13 ∧ u 13 ≤ 12) (h12 : 0 ≤ u 12 ∧ u 12 ≤ 52) (hv : RI (rEnd u)) : ∃ σ', F_Tb_closeTrick t σ = some ((), σ') ∧ TB σ' t (rCount (rEnd u)) ∧ FT t σ σ' := by
  have a := hu.n
  have hok : zt_su t < t ∨ t + 9 < zt_su t := ho
  have bp := (wBp_ltq hu).2.2.1 (by omega)
  have cb := hu.cd bp.1 bp.2
  have z : ¬ wPl u = 0 := by omega
  obtain ⟨⟨k0, k1, k2, k3⟩, ⟨k4, k5, k6⟩, k7, k8⟩ := id h.1
  rw [if_neg z] at k4 k5 k6
  obtain ⟨e11, e12, e13, e14, e15, e16, e17, e18⟩ := h.2.2.2.2.2.2
  have wl := Int.emod_nonneg (u 9 + wBp u) (show u 1 ≠ 0 by omega)
  have wu := Int.emod_lt_of_pos (u 9 + wBp u) (show 0 < u 1 by omega)
  generalize hW : (u 9 + wBp u) % u 1 = W at *
  obtain ⟨τ, hτ⟩ : ∃ s, s = zt_up (zt_up (zt_up (zt_up (zt_up (zt_up (zt_up (zt_up σ (t + 9) (u 13 * 6) (u 9)) (t + 9) (u 13 * 6 + 1) W) (t + 9) (u 13 * 6 + 2) (wCd u (wBp u))) (t + 9) (u 13 * 6 + 3) (wLd u)) (t + 9) (u 13 * 6 + 4) (u 10)) (t + 9) (u 13 * 6 + 5) (u 11)) t 17 (u 13 + 1)) (t + 4) W (wTk u W + 1) := ⟨_, rfl⟩
  have i1 : ∀ x j, x ≠ t + 9 → x ≠ t + 4 → (x ≠ t ∨ j ≠ 17) → τ.1 x j = σ.1 x j := fun x j h1 h2 h3 => by
    rw [hτ, up_o (Or.inl h2), up_o h3, up_o (Or.inl h1), up_o (Or.inl h1), up_o (Or.inl h1), up_o (Or.inl h1), up_o (Or.inl h1), up_o (Or.inl h1)]
  have i12 : τ.2 = σ.2 := by rw [hτ]; rfl
  have fτ : FT t σ τ := by
    rw [hτ]
    exact (((((((FT.up (by omega)).tr (FT.up (by omega))).tr (FT.up (by omega))).tr (FT.up (by omega))).tr (FT.up (by omega))).tr (FT.up (by omega))).tr (FT.up (by omega))).tr (FT.up (by omega))
  have sτ := fτ.su ho hs
  obtain ⟨ρ, f1, f2, f3, f4, f5, f6, f7, f8, f9, f10, f11⟩ := ec_finish (σ := τ) (k := t + 1) (s := zt_su t) (w := u) (x := wCd u (wBp u)) (by omega) sτ hu (by rw [i1 _ _ (by omega) (by omega) (Or.inl (by omega))]; exact k7) (by rw [i1 _ _ (by omega) (by omega) (Or.inl (by omega))]; exact k8) (by rw [i1 _ _ (by omega) (by omega) (Or.inl (by omega))]; exact k5) ⟨cb.1, cb.2.1⟩
  have i2 : ∀ x j, x ≠ t + 1 → x ≠ t + 9 → x ≠ t + 4 → (x ≠ t ∨ j ≠ 17) → ρ.1 x j = σ.1 x j := fun x j h0 h1 h2 h3 => by rw [f2.1 x j h0, i1 x j h1 h2 h3]
  have i22 : ρ.2 = σ.2 := by rw [f2.2, i12]
  have fρ : FT t σ ρ := fτ.tr ⟨fun x j hx => ⟨f2.1 x j (by omega), by rw [f2.2]⟩, by rw [f2.2]⟩
  have g6 : τ.1 (t + 1) 6 = W := by rw [i1 _ _ (by omega) (by omega) (Or.inl (by omega))]; exact k6
  -- the row behind the trick
  have ve : ∀ i, i ≠ 9 → i ≠ 13 → i ≠ 10 → i ≠ 11 → (i < 196 + 6 * u 13 ∨ 196 + 6 * u 13 + 5 < i) → rEnd u i = u i := fun i h1 h2 h3 h4 h5 => rEnd_o ⟨h1, h2, h3, h4⟩ h5
  have v9 : rEnd u 9 = W := by unfold rEnd; rw [rFade_o ⟨by omega, by omega⟩, rTrick_9, hW]
  have v13 : rEnd u 13 = u 13 + 1 := by unfold rEnd; rw [rFade_o ⟨by omega, by omega⟩, rTrick_13]
  have tr : ∀ i, i ≠ 9 → i ≠ 13 → i < 196 → rTrick u i = u i := fun i h1 h2 h3 => rTrick_o ⟨h1, h2⟩ (by omega)
  have fa := rFade_ag (w := u) (w' := rTrick u) (s := wS u (wCd u (wBp u))) (tr 5 (by omega) (by omega) (by omega)) (tr 6 (by omega) (by omega) (by omega)) (tr 7 (by omega) (by omega) (by omega)) (tr 10 (by omega) (by omega) (by omega)) (tr 11 (by omega) (by omega) (by omega))
  have ce := rTrick_c (w := u) h13.1
  have v0 : rEnd u 0 = u 0 := ve 0 (by omega) (by omega) (by omega) (by omega) (by omega)
  have v1 : rEnd u 1 = u 1 := ve 1 (by omega) (by omega) (by omega) (by omega) (by omega)
  have v12 : rEnd u 12 = u 12 := ve 12 (by omega) (by omega) (by omega) (by omega) (by omega)
  have vpl : wPl (rEnd u) = 0 := by
    unfold wPl at hp ⊢
    rw [v12, v13, v1, Int.add_mul, Int.one_mul]
    omega
  have sρ : SUw ρ (zt_su t) (rEnd u) := (fρ.su ho hs).ag v0 v1 (ve 2 (by omega) (by omega) (by omega) (by omega) (by omega)) (ve 5 (by omega) (by omega) (by omega) (by omega) (by omega))
  have htb : TB ρ t (rEnd u) := by
    refine ⟨⟨⟨?_, ?_, ?_, ?_⟩, ⟨?_, ?_, ?_⟩, ?_, ?_⟩, ?_, ?_, ?_, ?_, ?_, ?_⟩
    · rw [f3, g6, v9]
    · rw [f4, g6, vpl, v9, v1, Int.add_zero, Int.emod_eq_of_lt wl wu]
    · rw [f5, vpl]
    · rw [f6]; unfold wLd; rw [if_pos vpl]
    · rw [f7, if_pos vpl]
    · rw [f8, if_pos vpl]
    · rw [f9, if_pos vpl]
    · rw [f10, ← fa.1]; rfl
    · rw [f11, ← fa.2]; rfl
    · intro p x h0 h1 h2 h3
      rw [i22, h.2.1 p x h0 h1 h2 h3, v0]
      by_cases hx : x < 4 * u 0
      · have : wHd (rEnd u) x = wHd u x := by unfold wHd; exact ve _ (by omega) (by omega) (by omega) (by omega) (by omega)
        rw [this]
      · simp [hx]
    · intro p h0 h1
      obtain ⟨q1, q2, q3, q4⟩ := h.2.2.1 p h0 h1
      refine ⟨?_, ?_, ?_, ?_⟩
      · rw [i2 _ _ (by omega) (by omega) (by omega) (Or.inl (by omega)), q1, ve _ (by omega) (by omega) (by omega) (by omega) (by omega)]
      · have tk : wTk (rEnd u) p = wTk u p + (if p = W then 1 else 0) := by
          unfold wTk
          rw [v13, show (u 13 + 1).toNat = (u 13).toNat + 1 by omega, cn_mono_len, show (0 : Int) + ((u 13).toNat : Int) = u 13 by omega]
          rw [cn_congr (P := fun t => decide (rEnd u (196 + 6 * t + 1) = p)) (Q := fun t => decide (u (196 + 6 * t + 1) = p)) _ 0 (fun k k0 k1 => by rw [ve _ (by omega) (by omega) (by omega) (by omega) (by omega)])]
          have e1 : rEnd u (196 + 6 * u 13 + 1) = W := by unfold rEnd; rw [rFade_o ⟨by omega, by omega⟩, ce.2.1, hW]
          rw [e1]
          by_cases hpW : p = W
          · subst hpW; simp
          · have : ¬ W = p := fun y => hpW y.symm
            simp [hpW, this]
        rw [tk, f2.1 _ _ (by omega), hτ]
        by_cases hpW : p = W
        · rw [if_pos hpW, hpW, up_s]
        · rw [if_neg hpW, Int.add_zero, up_o (Or.inr hpW), up_o (Or.inl (by omega)), up_o (Or.inl (by omega)), up_o (Or.inl (by omega)), up_o (Or.inl (by omega)), up_o (Or.inl (by omega)), up_o (Or.inl (by omega)), up_o (Or.inl (by omega)), q2]
      · rw [i2 _ _ (by omega) (by omega) (by omega) (Or.inl (by omega)), q3]
        exact (lk_lo (fun i h2 h3 => ve _ (by omega) (by omega) (by omega) (by omega) (by omega)) ⟨h0, h1⟩).symm
      · rw [i2 _ _ (by omega) (by omega) (by omega) (Or.inl (by omega)), q4, ve _ (by omega) (by omega) (by omega) (by omega) (by omega)]
    · intro k h0 h1
      rw [v12] at h1
      have g := h.2.2.2.1 k h0 h1
      rw [i2 _ _ (by omega) (by omega) (by omega) (Or.inl (by omega)), i2 _ _ (by omega) (by omega) (by omega) (Or.inl (by omega)), ve _ (by omega) (by omega) (by omega) (by omega) (by omega), ve _ (by omega) (by omega) (by omega) (by omega) (by omega)]
      exact g
    · intro k h0 h1
      rw [v13] at h1
      have ff : ∀ i, 196 ≤ i → rEnd u i = rTrick u i := fun i hi => by unfold rEnd; rw [rFade_o ⟨by omega, by omega⟩]
      rw [f2.1 _ _ (by omega), hτ, up_o (Or.inl (by omega)), up_o (Or.inl (by omega))]
      by_cases h5 : k = u 13 * 6 + 5
      · rw [h5, up_s, show 196 + (u 13 * 6 + 5) = 196 + 6 * u 13 + 5 by omega, ff _ (by omega), ce.2.2.2.2.2]
      · rw [up_o (Or.inr h5)]
        by_cases h4 : k = u 13 * 6 + 4
        · rw [h4, up_s, show 196 + (u 13 * 6 + 4) = 196 + 6 * u 13 + 4 by omega, ff _ (by omega), ce.2.2.2.2.1]
        · rw [up_o (Or.inr h4)]
          by_cases h3 : k = u 13 * 6 + 3
          · rw [h3, up_s, show 196 + (u 13 * 6 + 3) = 196 + 6 * u 13 + 3 by omega, ff _ (by omega), ce.2.2.2.1]
          · rw [up_o (Or.inr h3)]
            by_cases h2 : k = u 13 * 6 + 2
            · rw [h2, up_s, show 196 + (u 13 * 6 + 2) = 196 + 6 * u 13 + 2 by omega, ff _ (by omega), ce.2.2.1]
            · rw [up_o (Or.inr h2)]
              by_cases hk1 : k = u 13 * 6 + 1
              · rw [hk1, up_s, show 196 + (u 13 * 6 + 1) = 196 + 6 * u 13 + 1 by omega, ff _ (by omega), ce.2.1, hW]
              · rw [up_o (Or.inr hk1)]
                by_cases hk0 : k = u 13 * 6
                · rw [hk0, up_s, show 196 + (u 13 * 6) = 196 + 6 * u 13 by omega, ff _ (by omega), ce.1]
                · rw [up_o (Or.inr hk0), h.2.2.2.2.1 k h0 (by omega), ve _ (by omega) (by omega) (by omega) (by omega) (by omega)]
    · intro x h0 h1
      rw [i22, h.2.2.2.2.2.1 x h0 h1]
      unfold wPy
      rw [v12]
      have cg := cn_congr (P := fun k => decide (rEnd u (92 + k) = x)) (Q := fun k => decide (u (92 + k) = x)) (u 12).toNat 0 (fun k k0 k1 => by rw [ve _ (by omega) (by omega) (by omega) (by omega) (by omega)])
      rw [cg]
    · refine ⟨?_, ?_, ?_, ?_, ?_, ?_, ?_, ?_⟩
      · rw [i2 _ _ (by omega) (by omega) (by omega) (Or.inr (by omega)), e11, ve _ (by omega) (by omega) (by omega) (by omega) (by omega)]
      · rw [i2 _ _ (by omega) (by omega) (by omega) (Or.inr (by omega)), e12, ve _ (by omega) (by omega) (by omega) (by omega) (by omega)]
      · rw [i2 _ _ (by omega) (by omega) (by omega) (Or.inr (by omega)), e13, ve _ (by omega) (by omega) (by omega) (by omega) (by omega)]
      · rw [i2 _ _ (by omega) (by omega) (by omega) (Or.inr (by omega)), e14, ve _ (by omega) (by omega) (by omega) (by omega) (by omega)]
      · rw [i2 _ _ (by omega) (by omega) (by omega) (Or.inr (by omega)), e15, ve _ (by omega) (by omega) (by omega) (by omega) (by omega)]
      · rw [i2 _ _ (by omega) (by omega) (by omega) (Or.inr (by omega)), e16, v12]
      · rw [f2.1 _ _ (by omega), hτ, up_o (Or.inl (by omega)), up_s, v13]
      · rw [i2 _ _ (by omega) (by omega) (by omega) (Or.inr (by omega)), e18, ve _ (by omega) (by omega) (by omega) (by omega) (by omega)]
  obtain ⟨σ', c1, c2, c3⟩ := ec_close ho sρ hv htb
  refine ⟨σ', ?_, c2, fρ.tr c3⟩
  rw [← c1]
  unfold F_Tb_closeTrick
  have q4 : σ.1 (t + 4) W = wTk u W := (h.2.2.1 W wl (by omega)).2.1
  simp (disch := first | omega | (unfold zt_in; omega)) only [↓zt_ckI, ↓if_pos, ↓if_neg, if_true, if_false, zt_letS, zt_ckI, if_pos, if_neg, up_s, up_o, up_2, e17, k0, k6, k5, k3, k7, k8, e12, e13, q4, ↓be_set, ↓be_at, be_set, be_at]
  rw [← hτ, f1]
  rfl
theorem ec_putDown (ho : OK t) (hs : SUw σ (zt_su t) w) (hw : RI w) (h : TB σ t w) (hn : wOv w = false) (hc : 0 ≤ c ∧ c < 4 * w 0) (hp : wHd w c = wTn w) : ∃ σ', F_Tb_putDown t c σ = some ((), σ') ∧ TB σ' t (rCount (rPlays w c)) ∧ FT t σ σ' := by
  have a := hw.n
  have b := hw.wpl
  have pl := hw.pl
  have o := wOv_lt hw hn
  have ag := rLack_ag (c := c) hw hn
  have ri := rLack_i (c := c) hw hn
  have hn' : wOv (rLack w c) = false := by unfold wOv at hn ⊢; rw [ag 12 (by omega), ag 1 (by omega), ag 2 (by omega)]; exact hn
  have hc' : 0 ≤ c ∧ c < 4 * rLack w c 0 := by rw [ag 0 (by omega)]; exact hc
  have nx := (rCard_nx (p := wTn w) ri hn' hc').ag ag hw.q
  have q := rCard_q (p := wTn w) ri hn' hc'
  have rp := RI_plays hw hn hc hp
  obtain ⟨σ2, h1, h2, h3⟩ := ec_putDown1 ho hs hw h hn hc hp
  unfold rPlays at rp ⊢
  by_cases hf : wPl w + 1 = w 1
  · rw [if_pos hf] at rp ⊢
    have ue : ∀ i, 0 ≤ i → i < 12 → rCard (rLack w c) c (wTn w) i = w i := fun i i0 i1 => by
      have r12 : rLack w c 12 = w 12 := ag 12 (by omega)
      rw [rCard_o ⟨by omega, by rw [r12]; omega, by rw [r12]; omega, by omega⟩, ag i (by omega)]
    have s2 := (h3.su ho hs).ag (ue 0 (by omega) (by omega)) (ue 1 (by omega) (by omega)) (ue 2 (by omega) (by omega)) (ue 5 (by omega) (by omega))
    obtain ⟨σ', c1, c2, c3⟩ := ec_closeTrick ho s2 q h2 (by rw [nx.pl, nx.2.1]; exact hf) (by rw [nx.2.2.2.2.2.2.1]; omega) (by rw [nx.2.2.2.2.2.1]; omega) rp
    exact ⟨σ', by rw [h1, if_pos hf, c1], c2, h3.tr c3⟩
  · rw [if_neg hf] at rp ⊢
    have hov : wOv (rCard (rLack w c) c (wTn w)) = false := by
      have y := rp.p13
      unfold wOv
      refine decide_eq_false (fun z => ?_)
      have y2 := y.2.mpr z
      have p0 : wPl (rCard (rLack w c) c (wTn w)) = 0 := by
        unfold wPl
        rw [y2, z, Int.mul_comm]
        omega
      rw [nx.pl] at p0
      omega
    have e : rCount (rCard (rLack w c) c (wTn w)) = rCard (rLack w c) c (wTn w) := by unfold rCount; rw [hov]; rfl
    rw [e]
    exact ⟨σ2, by rw [h1, if_neg hf], h2, h3⟩
end EC
