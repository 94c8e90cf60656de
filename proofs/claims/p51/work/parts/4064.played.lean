/-! isPlayed: a card is played, with all that comes of it, and taken back -/
section PY
variable {T : zt_T} {σ : zt_S} {w : Int → Int} {c n : Int}
/-- who leads behind the card, by which card -/
def wWn (w : Int → Int) (c : Int) : Int := if wBt w c = true then wTn w else (w 9 + wBp w) % w 1
def wWc (w : Int → Int) (c : Int) : Int := if wBt w c = true then c else wCd w (wBp w)
theorem nx_u (h : RI w) (ho : wOv w = false) (hc : 0 ≤ c ∧ c < 4 * w 0) : Nx w (rCard (rLack w c) c (wTn w)) c ∧ AG w (rLack w c) := by
  have ag := rLack_ag (c := c) h ho
  have ri := rLack_i (c := c) h ho
  refine ⟨(rCard_nx (p := wTn w) ri (by rw [ag.ex.ov]; exact ho) (by rw [ag 0 (by omega)]; exact hc)).ag ag h.q, ag⟩
theorem pl_go (h : RI w) (ho : wOv w = false) (hc : 0 ≤ c ∧ c < 4 * w 0) (hf : ¬ wPl w + 1 = w 1) : rPlays w c 9 = w 9 ∧ rPlays w c 10 = w 10 ∧ rPlays w c 11 = w 11 ∧ rPlays w c 13 = w 13 ∧ rPlays w c (40 + c) = -1 ∧ wPl (rPlays w c) = wPl w + 1 ∧ rPlays w c 1 = w 1 := by
  have a := h.n
  have o := wOv_lt h ho
  have p := h.pl
  obtain ⟨nx, ag⟩ := nx_u (c := c) h ho hc
  have e12 : rLack w c 12 = w 12 := ag 12 (by omega)
  have v := rCard_c (w := rLack w c) (c := c) (p := wTn w) ⟨hc.1, by omega⟩ ⟨by omega, by omega⟩
  unfold rPlays
  rw [if_neg hf]
  exact ⟨nx.2.2.1, nx.2.2.2.1, nx.2.2.2.2.1, nx.2.2.2.2.2.2.1, v.1, nx.pl, nx.2.1⟩
theorem pl_end (h : RI w) (ho : wOv w = false) (hc : 0 ≤ c ∧ c < 4 * w 0) (hf : wPl w + 1 = w 1) : rPlays w c 9 = wWn w c ∧ rPlays w c 13 = w 13 + 1 ∧ rPlays w c (40 + c) = -1 ∧ rPlays w c 10 = (if w 11 = 0 ∨ 0 < w 11 - w 6 then w 10 else if w 7 = 1 then wS w (wWc w c) else -1) ∧ rPlays w c 11 = (if w 11 = 0 ∨ 0 < w 11 - w 6 then (if 0 < w 11 - w 6 then w 11 - w 6 else 0) else if w 7 = 1 then w 5 else 0) := by
  have a := h.n
  have o := wOv_lt h ho
  have p := h.pl
  have wp := h.wpl
  obtain ⟨nx, ag⟩ := nx_u (c := c) h ho hc
  have e12 : rLack w c 12 = w 12 := ag 12 (by omega)
  have v := rCard_c (w := rLack w c) (c := c) (p := wTn w) ⟨hc.1, by omega⟩ ⟨by omega, by omega⟩
  obtain ⟨u, hu⟩ : ∃ u, u = rCard (rLack w c) c (wTn w) := ⟨_, rfl⟩
  have uo : ∀ i, 0 ≤ i → i < 12 → u i = w i := fun i i0 i1 => by rw [hu, rCard_o ⟨by omega, by omega, by omega, by omega⟩, ag i (by omega)]
  rw [← hu] at nx v
  have u13 : u 13 = w 13 := nx.2.2.2.2.2.2.1
  have bp := nx.bp wp.1
  have bc := nx.bc h
  have to : ∀ i, 0 ≤ i → i < 9 ∨ i = 10 ∨ i = 11 → rTrick u i = u i := fun i i0 i1 => rTrick_o ⟨by omega, by omega⟩ (by omega)
  unfold rPlays
  rw [if_pos hf, ← hu]
  unfold rEnd
  refine ⟨?_, ?_, ?_, ?_, ?_⟩
  · rw [rFade_o ⟨by omega, by omega⟩, rTrick_9, nx.2.2.1, nx.2.1, bp]
    unfold wWn
    rw [tn_pl ho]
    split <;> rfl
  · rw [rFade_o ⟨by omega, by omega⟩, rTrick_13, u13]
  · rw [rFade_o ⟨by omega, by omega⟩, rTrick_o ⟨by omega, by omega⟩ (by omega), v.1]
  · unfold rFade
    rw [to 11 (by omega) (by omega), to 6 (by omega) (by omega), to 7 (by omega) (by omega), uo 11 (by omega) (by omega), uo 6 (by omega) (by omega), uo 7 (by omega) (by omega)]
    by_cases z : w 11 = 0 ∨ 0 < w 11 - w 6
    · rw [if_pos z, if_pos z, ru_o (by omega), to 10 (by omega) (by omega), uo 10 (by omega) (by omega)]
    · rw [if_neg z, if_neg z, ru_o (by omega), ru_s, bc, nx.s]
      rfl
  · unfold rFade
    rw [to 11 (by omega) (by omega), to 6 (by omega) (by omega), to 7 (by omega) (by omega), to 5 (by omega) (by omega), uo 11 (by omega) (by omega), uo 6 (by omega) (by omega), uo 7 (by omega) (by omega), uo 5 (by omega) (by omega)]
    by_cases z : w 11 = 0 ∨ 0 < w 11 - w 6
    · rw [if_pos z, if_pos z, ru_s]
    · rw [if_neg z, if_neg z, ru_s]
theorem md_inj {P a k b : Int} (hP : 2 ≤ P ∧ P ≤ 4) (ha : 0 ≤ a ∧ a < P) (hk : 0 ≤ k ∧ k < P) (hb : 0 ≤ b ∧ b < P) (h : (a + k) % P = (a + b) % P) : k = b := by
  rcases (show P = 2 ∨ P = 3 ∨ P = 4 by omega) with z | z | z <;> subst z <;> omega
theorem wWc_in (h : RI w) (hc : 0 ≤ c ∧ c < 4 * w 0) : 0 ≤ wWc w c ∧ wWc w c < 4 * w 0 := by
  unfold wWc
  split
  · exact hc
  · rename_i z
    have wp := h.wpl
    have hp : 0 < wPl w := by
      rcases (show wPl w = 0 ∨ 0 < wPl w by omega) with y | y
      · exact absurd (by rw [wBt_mo]; exact decide_eq_true (Or.inl y)) z
      · exact y
    have b := (wBp_lt h).2.2.1 hp
    have d := h.cd b.1 b.2
    exact ⟨d.1, d.2.1⟩
/-- the search of the card that leads -/
theorem y_162 (hw : CW σ w) (hx : XI w) (hc : 0 ≤ c ∧ c < 4 * w 0) {v2 v5 v6 v8 v9 v10 : Int} (hb : wBt w c = false) : ∀ (m n : Nat) (k : Int), k + m = wBp w → m + 1 < n → 0 ≤ k → F_P_isPlayed_162 n v2 c (w 1) v5 v6 (w 13) v8 v9 v10 ((w 9 + wBp w) % w 1) (-1) (w 13 * w 1 + k) σ T = F_P_isPlayed_205 v2 c (w 1) v5 v6 (w 13) v8 v9 v10 ((w 9 + wBp w) % w 1) (wCd w (wBp w)) σ T
  | m, 0, _, _, h, _ => absurd h (Nat.not_lt_zero _)
  | m, n + 1, k, h0, h1, h2 => by
    have a := hw.1.n
    have wp := hw.1.wpl
    have pl := hw.1.pl
    have p12 := hw.1.p12
    have m13 := hw.1.m13
    have ep : wPl w = w 12 - w 13 * w 1 := rfl
    have hp : 0 < wPl w := by
      rcases (show wPl w = 0 ∨ 0 < wPl w by omega) with y | y
      · rw [wBt_mo, decide_eq_true (Or.inl y)] at hb
        exact absurd hb (by decide)
      · exact y
    have b := (wBp_lt hw.1).2.2.1 hp
    have cb := hw.1.cd b.1 b.2
    have e1 : wPd w (w 13 * w 1 + k) 1 = (w 9 + k) % w 1 := hx.1 k h2 (by omega)
    have e0 : wPd w (w 13 * w 1 + k) 0 = wCd w k := by
      show w (92 + (w 13 * w 1 + k)) = w (92 + w 13 * w 1 + k)
      rw [Int.add_assoc]
    have m0 := Int.emod_nonneg (w 9 + k) (show w 1 ≠ 0 by omega)
    have m1 := Int.emod_lt_of_pos (w 9 + k) (show 0 < w 1 by omega)
    have m2 := Int.emod_nonneg (w 9 + wBp w) (show w 1 ≠ 0 by omega)
    have m3 := Int.emod_lt_of_pos (w 9 + wBp w) (show 0 < w 1 by omega)
    rw [F_P_isPlayed_162, px_size12 hw, zt_byI, zt_ckI ⟨by unfold zt_in; omega, by unfold zt_in; omega⟩, if_pos (by omega), zt_ckI (by decide), if_pos (by decide), px_played hw ⟨by omega, by omega⟩ (by omega), zt_byI, e1, zt_ckI ⟨by unfold zt_in; omega, by unfold zt_in; omega⟩]
    unfold F_P_isPlayed_199
    cases m with
    | zero =>
      have hk : k = wBp w := by omega
      obtain ⟨n', hn⟩ : ∃ n', n = n' + 1 := ⟨n - 1, by omega⟩
      rw [hk, if_pos rfl, px_played hw ⟨by omega, by omega⟩ (by omega), zt_byI, ← hk, e0, hk, hn, F_P_isPlayed_162, px_size12 hw, zt_byI, zt_ckI ⟨by unfold zt_in; omega, by unfold zt_in; omega⟩]
      by_cases hz : w 13 * w 1 + wBp w + 1 < w 12
      · rw [if_pos hz, zt_ckI (by unfold zt_in; omega), if_neg (by omega)]
      · rw [if_neg hz]
    | succ m =>
      rw [if_neg (fun z => by have := md_inj a.2.1 (by omega) ⟨h2, by omega⟩ ⟨b.1, by omega⟩ z; omega)]
      rw [show w 13 * w 1 + k + 1 = w 13 * w 1 + (k + 1) by omega]
      exact y_162 hw hx hc hb m n (k + 1) (by omega) (by omega) (by omega)
/-- what leads to the search's end -/
theorem y_120 (hw : CW σ w) (hx : XI w) (hc : 0 ≤ c ∧ c < 4 * w 0) {v2 v5 v6 v8 v9 v10 : Int} (h2 : v2 = wTn w) : F_P_isPlayed_120 v2 c (w 1) v5 v6 (w 13) v8 v9 v10 σ T = F_P_isPlayed_205 v2 c (w 1) v5 v6 (w 13) v8 v9 v10 (wWn w c) (wWc w c) σ T := by
  have a := hw.1.n
  have p12 := hw.1.p12
  have pl := hw.1.pl
  have m13 := hw.1.m13
  have wp := hw.1.wpl
  obtain ⟨m, hm⟩ : ∃ n, zt_N = n + 1 := ⟨zt_N - 1, by have := zN (m := 1) (by omega); omega⟩
  unfold F_P_isPlayed_120 F_P_isPlayed_138 F_P_isPlayed_153 wWn wWc
  rw [px_wouldLead hw hc, zt_byI]
  by_cases hb : wBt w c = true
  · rw [if_pos hb, if_pos hb, if_pos hb, zt_ckI (by decide), if_neg (by decide), px_wouldLead hw hc, zt_byI, if_pos hb, zt_ckI (by decide), if_neg (by decide), hm, F_P_isPlayed_162, px_size12 hw, zt_byI, zt_ckI ⟨by unfold zt_in; omega, by unfold zt_in; omega⟩, ← h2]
    by_cases hz : w 13 * w 1 < w 12
    · rw [if_pos hz, zt_ckI (by unfold zt_in; omega), if_neg (by omega)]
    · rw [if_neg hz]
  · have hb' := Bool.eq_false_iff.mpr hb
    have hp : ¬ wPl w = 0 := fun y => hb (by rw [wBt_mo]; exact decide_eq_true (Or.inl y))
    have b := (wBp_lt hw.1).2.2.1 (by omega)
    rw [if_neg hb, if_neg hb, if_neg hb, zt_ckI (by decide), if_pos rfl, px_winning hw, zt_bdS, if_neg hp, px_wouldLead hw hc, zt_byI, if_neg hb, zt_ckI (by decide), if_pos rfl]
    have g := y_162 (T := T) (v2 := v2) (v5 := v5) (v6 := v6) (v8 := v8) (v9 := v9) (v10 := v10) hw hx hc hb' (wBp w).toNat zt_N 0 (by omega) (by have := zN (m := (wBp w).toNat + 2) (by omega); omega) (by omega)
    rw [Int.add_zero] at g
    exact g
/-- taken back -/
theorem y_472 {σc : zt_S} {w' : Int → Int} (hg : PG n σ w) (d : PD σ σc w w') (e0 : ∀ j, (j = 0 ∨ j = 1 ∨ j = 2 ∨ j = 5) → w' j = w j) (hc : 0 ≤ c ∧ c < 4 * w 0) (hh : wHd w c = wTn w) : ∃ σu, F_P_isPlayed_472 (wTn w) c (w 10) (w 11) σc T = some (1, σu, T) ∧ PG n σu w := by
  obtain ⟨v, σu, u1, u2, u3, u4⟩ := po_undo hg d e0
  have a := hg.1.1.n
  have tl := wTn_lt hg.1.1
  have hw := u4.1
  refine ⟨σu, ?_, u4⟩
  unfold F_P_isPlayed_472 F_P_isPlayed_513
  rw [u1, zt_bdS, zt_ckI (by unfold zt_in; omega), if_neg (by omega), px_size4 hw, zt_byI, zt_ckI ⟨by unfold zt_in; omega, by unfold zt_in; omega⟩, if_pos rfl, px_size5 hw, zt_byI, zt_ckI ⟨by unfold zt_in; omega, by unfold zt_in; omega⟩, if_pos rfl, px_holder hw hc, zt_byI, hh, zt_ckI ⟨by unfold zt_in; omega, by unfold zt_in; omega⟩, if_pos rfl, zt_ckI (Or.inr rfl)]
/-- behind a card that was played -/
theorem y_325 {σc : zt_S} {w' : Int → Int} (hg : PG n σ w) (d : PD σ σc w w') (hr : RI w') (hb : RB (n + 1) w') (e0 : ∀ j, (j = 0 ∨ j = 1 ∨ j = 2 ∨ j = 5) → w' j = w j) (hc : 0 ≤ c ∧ c < 4 * w 0) (hh : wHd w c = wTn w) (e6 : w' 6 = w 6) (e7 : w' 7 = w 7) (e9 : w' 9 = wWn w c) (e13 : w' 13 = w 13 + 1) (e10 : w' 10 = (if w 11 = 0 ∨ 0 < w 11 - w 6 then w 10 else if w 7 = 1 then wS w (wWc w c) else -1)) (e11 : w' 11 = (if w 11 = 0 ∨ 0 < w 11 - w 6 then (if 0 < w 11 - w 6 then w 11 - w 6 else 0) else if w 7 = 1 then w 5 else 0)) : ∃ σu, F_P_isPlayed_325 (wTn w) c (w 10) (w 11) (w 13) 1 (wWn w c) (wWc w c) σc T = some (1, σu, T) ∧ PG n σu w := by
  have a := hg.1.1.n
  have p13 := hg.1.1.p13
  have pl := hg.1.1.pl
  have a' := hr.n
  have hw := (d.pg hg hr hb e0).1
  obtain ⟨σu, u1, u2⟩ := y_472 (T := T) hg d e0 hc hh
  refine ⟨σu, ?_, u2⟩
  have k424 : F_P_isPlayed_424 (wTn w) c (w 10) (w 11) (w 13) (wWn w c) (w' 10) (w' 11) σc T = some (1, σu, T) := by
    unfold F_P_isPlayed_424
    rw [px_size4 hw, zt_byI, zt_ckI ⟨by unfold zt_in; omega, by unfold zt_in; omega⟩, if_pos rfl, px_size5 hw, zt_byI, zt_ckI ⟨by unfold zt_in; omega, by unfold zt_in; omega⟩, if_pos rfl, px_size11 hw, zt_byI, e13, zt_ckI ⟨by unfold zt_in; omega, by unfold zt_in; omega⟩, if_pos rfl, px_size10 hw, zt_byI, e9, zt_ckI ⟨by unfold zt_in; omega, by unfold zt_in; omega⟩, if_pos rfl, u1]
  have hwc := wWc_in hg.1.1 hc
  have ws := wS_lt hg.1.1 hwc.1 hwc.2
  have wc' : 0 ≤ wWc w c ∧ wWc w c < 4 * w' 0 := by rw [e0 0 (by omega)]; exact hwc
  have es : wS w' (wWc w c) = wS w (wWc w c) := by unfold wS; rw [e0 0 (by omega)]
  unfold F_P_isPlayed_325 F_P_isPlayed_359
  rw [zt_ckI (by decide), if_neg (by decide), px_size7 hw, zt_byI, e6, zt_ckI (by unfold zt_in; omega), zt_ckI (by unfold zt_in; omega)]
  have k0 : w 11 = 0 ∨ 0 < w 11 - w 6 → F_P_isPlayed_360 (wTn w) c (w 10) (w 11) (w 13) (wWn w c) (wWc w c) (if 0 < w 11 - w 6 then w 11 - w 6 else 0) 0 σc T = some (1, σu, T) := fun z => by
    rw [if_pos z] at e10 e11
    rw [e10, e11] at k424
    unfold F_P_isPlayed_360 F_P_isPlayed_392
    rw [zt_ckI (by decide), if_pos rfl, zt_ckI (by decide), if_pos rfl]
    exact k424
  by_cases h1 : 0 < w 11
  · rw [if_pos h1]
    by_cases h2 : 0 < w 11 - w 6
    · rw [if_pos h2, zt_ckI (by unfold zt_in; omega), if_neg (by omega)]
      have := k0 (Or.inr h2)
      rw [if_pos h2] at this
      exact this
    · have z : ¬ (w 11 = 0 ∨ 0 < w 11 - w 6) := by omega
      rw [if_neg z] at e10 e11
      rw [if_neg h2, zt_ckI (by decide), if_pos rfl]
      unfold F_P_isPlayed_360 F_P_isPlayed_392
      rw [zt_ckI (by decide), if_neg (by decide), px_size8 hw, zt_byI, e7, zt_ckI (by unfold zt_in; omega)]
      by_cases h7 : w 7 = 1
      · rw [if_pos h7] at e10 e11
        rw [if_pos h7, px_suit hw wc', zt_byI, es, zt_ckI (by decide), if_neg (by decide), px_size8 hw, zt_byI, e7, zt_ckI (by unfold zt_in; omega), if_pos h7, px_size6 hw, zt_byI, e0 5 (by omega)]
        rw [e10, e11] at k424
        exact k424
      · rw [if_neg h7] at e10 e11
        rw [if_neg h7, zt_ckI (by decide), if_neg (by decide), px_size8 hw, zt_byI, e7, zt_ckI (by unfold zt_in; omega), if_neg h7]
        rw [e10, e11] at k424
        exact k424
  · rw [if_neg h1]
    exact k0 (Or.inl (by omega))
/-- a card of one's own that is legal -/
theorem y_205 (hg : PG n σ w) (hn : 0 ≤ n ∧ n ≤ 1000) (ho : wOv w = false) (hc : 0 ≤ c ∧ c < 4 * w 0) {v8 v9 v10 : Int} (h8 : v8 = if wHd w c = wTn w then 1 else 0) (h9 : v9 = if wLg w c = true then 1 else 0) (h10 : v10 = if wPl w + 1 = w 1 then 1 else 0) : ∃ σu, F_P_isPlayed_205 (wTn w) c (w 1) (w 10) (w 11) (w 13) v8 v9 v10 (wWn w c) (wWc w c) σ T = some (1, σu, T) ∧ PG n σu w := by
  have hw := hg.1
  have a := hw.1.n
  have p13 := hw.1.p13
  have pl := hw.1.pl
  have tl := wTn_lt hw.1
  have t0 := tl.2.2 ho
  unfold F_P_isPlayed_205
  by_cases hh : wHd w c = wTn w
  · rw [if_pos hh] at h8
    by_cases hl : wLg w c = true
    · rw [if_pos hl] at h9
      obtain ⟨σc, q1, q2, q3, q4, q5⟩ := po_play hg hn hc ho hh hl
      have ri := RI_plays hw.1 ho hc hh
      have gc : ∀ i, (i < 14 ∨ (14 < i ∧ i < 20) ∨ 24 ≤ i) → rCount (rPlays w c) i = rPlays w c i := fun i hi => rCount_o ri hi
      have ps : ∀ i, ((0 ≤ i ∧ i ≤ 8) ∨ i = 14 ∨ (16 ≤ i ∧ i < 24)) → rPlays w c i = w i := fun i hi => rPlays_s hw.1 ho hc hi
      have pc0 := rCount_pl ri
      obtain ⟨w', hw'⟩ : ∃ x, x = rCount (rPlays w c) := ⟨_, rfl⟩
      rw [← hw'] at q1 q2 q3 q4 q5 gc pc0
      have cw' := (q2.pg hg q3 q4 q5).1
      have a' := q3.n
      have tl' := wTn_lt q3
      rw [q1, zt_byI, h8, zt_ckI (by decide), if_neg (by decide), h9, zt_ckI (by decide), if_neg (by decide)]
      by_cases hf : wPl w + 1 = w 1
      · obtain ⟨f9, f13, f40, f10, f11⟩ := pl_end hw.1 ho hc hf
        have ft := rPlays_t hw.1 ho hc
        have z : wPl w' = 0 := by
          rw [pc0]
          rcases ft with x | x
          · exact x.2.2
          · exact absurd hf x.1
        rw [if_pos hf] at h10
        obtain ⟨σu, u1, u2⟩ := y_325 (T := T) hg q2 q3 q4 q5 hc hh (by rw [gc _ (by omega), ps _ (by omega)]) (by rw [gc _ (by omega), ps _ (by omega)]) (by rw [gc _ (by omega), f9]) (by rw [gc _ (by omega), f13]) (by rw [gc _ (by omega), f10]) (by rw [gc _ (by omega), f11])
        refine ⟨σu, ?_, u2⟩
        have e9 : w' 9 = wWn w c := by rw [gc _ (by omega), f9]
        have hd : wHd w' c = -1 := by unfold wHd; rw [gc _ (by omega), f40]
        unfold F_P_isPlayed_269
        rw [h10, zt_ckI (by decide), if_neg (by decide), if_pos z, e9, zt_ckI ⟨by unfold zt_in; omega, by unfold zt_in; omega⟩, if_pos rfl, px_holder cw' (by rw [q5 0 (by omega)]; exact hc), zt_byI, hd, zt_ckI (by decide), if_pos rfl, zt_ckI (by decide), if_neg (by decide)]
        exact u1
      · obtain ⟨f9, f10, f11, f13, f40, fpl, f1⟩ := pl_go hw.1 ho hc hf
        have wp := hw.1.wpl
        have z : ¬ wPl w' = 0 := by rw [pc0, fpl]; omega
        have ov' := ov_pl q3 z
        have tn' := tn_pl ov'
        rw [if_neg hf] at h10
        obtain ⟨σu, u1, u2⟩ := y_472 (T := T) hg q2 q5 hc hh
        refine ⟨σu, ?_, u2⟩
        have hd : wHd w' c = -1 := by unfold wHd; rw [gc _ (by omega), f40]
        have e10 : w' 10 = w 10 := by rw [gc _ (by omega), f10]
        have e11 : w' 11 = w 11 := by rw [gc _ (by omega), f11]
        have e9 : w' 9 = w 9 := by rw [gc _ (by omega), f9]
        have et : wTn w' = (wTn w + 1) % w 1 := by
          rw [tn', e9, pc0, fpl, q5 1 (by omega), tn_pl ho, Int.emod_add_emod, Int.add_assoc]
        have m0 := Int.emod_nonneg (wTn w + 1) (show w 1 ≠ 0 by omega)
        have m1 := Int.emod_lt_of_pos (wTn w + 1) (show 0 < w 1 by omega)
        unfold F_P_isPlayed_269 F_P_isPlayed_325
        rw [h10, zt_ckI (by decide), if_pos rfl, px_size9 cw', zt_byI, if_neg z, ← tn', zt_ckI ⟨by unfold zt_in; omega, by unfold zt_in; omega⟩, if_pos rfl, px_holder cw' (by rw [q5 0 (by omega)]; exact hc), zt_byI, hd, zt_ckI (by decide), if_pos rfl, zt_ckI (by decide), if_pos rfl, px_size4 cw', zt_byI, e10, zt_ckI ⟨by unfold zt_in; omega, by unfold zt_in; omega⟩, if_pos rfl, px_size5 cw', zt_byI, e11, zt_ckI ⟨by unfold zt_in; omega, by unfold zt_in; omega⟩, if_pos rfl, px_size9 cw', zt_byI, et, zt_ckI ⟨⟨by omega, by omega⟩, by omega, by omega⟩, zt_ckI ⟨by unfold zt_in; omega, by unfold zt_in; omega⟩, if_pos rfl, zt_ckI (by decide), if_pos rfl]
        exact u1
    · rw [if_neg hl] at h9
      refine ⟨σ, ?_, hg⟩
      unfold F_P_isPlayed_247
      rw [po_play_ill hg hc ho hh (Bool.eq_false_iff.mpr hl), zt_byI, h8, zt_ckI (by decide), if_neg (by decide), h9, zt_ckI (by decide), if_pos rfl, zt_ckI (by decide), if_pos rfl, zt_ckI (Or.inr rfl)]
  · rw [if_neg hh] at h8
    refine ⟨σ, ?_, hg⟩
    unfold F_P_isPlayed_229
    rw [po_play_not hg hc ho hh, zt_byI, h8, zt_ckI (by decide), if_pos rfl, zt_ckI (by decide), if_pos rfl, zt_ckI (Or.inr rfl)]
theorem p_isPlayed (hg : PG n σ w) (hx : XI w) (hn : 0 ≤ n ∧ n ≤ 1000) {v : Int} (hv : 0 ≤ v ∧ v < 1073741824) : ∃ σu, F_P_isPlayed v σ T = some (1, σu, T) ∧ PG n σu w := by
  have hw := hg.1
  have a := hw.1.n
  have p12 := hw.1.p12
  have pl := hw.1.pl
  have tl := wTn_lt hw.1
  have wp := hw.1.wpl
  have ep : wPl w = w 12 - w 13 * w 1 := rfl
  unfold F_P_isPlayed
  rw [px_size9 hw, zt_byI, zt_ckI (by unfold zt_in; omega)]
  by_cases ho : wOv w = true
  · have e : wTn w = -1 := by unfold wTn; rw [if_pos ho]
    refine ⟨σ, ?_, hg⟩
    unfold F_P_isPlayed_36
    rw [if_pos (by omega), po_play_over hg ⟨by omega, by omega⟩ ho, zt_byI, zt_ckI (by decide), if_pos rfl, po_auto_over hg (by omega) ho, zt_byI, zt_ckI (by decide), if_pos rfl, zt_ckI (Or.inr rfl)]
  · have ho := Bool.eq_false_iff.mpr ho
    have t0 := tl.2.2 ho
    have c0 := Int.emod_nonneg v (show 4 * w 0 ≠ 0 by omega)
    have c1 := Int.emod_lt_of_pos v (show 0 < 4 * w 0 by omega)
    obtain ⟨c, hc⟩ : ∃ c, c = v % (4 * w 0) := ⟨_, rfl⟩
    rw [← hc] at c0 c1
    have hd := hw.1.hd c0 (c := c) (by omega)
    have em : w 12 % w 1 = wPl w := by
      rw [show w 12 = wPl w + w 13 * w 1 by omega, Int.add_mul_emod_self_right, Int.emod_eq_of_lt wp.1 wp.2]
    have k90 : ∀ x0, x0 = (if wHd w c = wTn w then 1 else 0) → ∃ σu, F_P_isPlayed_90 (wTn w) c (w 1) (w 10) (w 11) (w 13) x0 σ T = some (1, σu, T) ∧ PG n σu w := fun x0 hx0 => by
      unfold F_P_isPlayed_90
      rw [px_isLegal hw ⟨c0, c1⟩, zt_byI, px_size12 hw, zt_byI, em, zt_ckI ⟨⟨by omega, by omega⟩, by omega, by omega⟩, zt_ckI ⟨by unfold zt_in; omega, by unfold zt_in; omega⟩]
      by_cases hf : wPl w + 1 = w 1
      · rw [if_pos (by omega), y_120 hw hx ⟨c0, c1⟩ rfl]
        exact y_205 hg hn ho ⟨c0, c1⟩ hx0 rfl (by rw [if_pos hf])
      · rw [if_neg (by omega), y_120 hw hx ⟨c0, c1⟩ rfl]
        exact y_205 hg hn ho ⟨c0, c1⟩ hx0 rfl (by rw [if_neg hf])
    rw [if_neg (by omega), px_size0 hw, zt_byI, zt_ckI ⟨⟨by omega, by omega⟩, by omega, by omega⟩, px_size1 hw, zt_byI, px_size4 hw, zt_byI, px_size5 hw, zt_byI, px_size11 hw, zt_byI, ← hc, px_holder hw ⟨c0, c1⟩, zt_byI, zt_ckI ⟨by unfold zt_in; omega, by unfold zt_in; omega⟩]
    by_cases hh : wHd w c = wTn w
    · rw [if_pos hh]
      exact k90 1 (by rw [if_pos hh])
    · rw [if_neg hh]
      exact k90 0 (by rw [if_neg hh])
end PY
