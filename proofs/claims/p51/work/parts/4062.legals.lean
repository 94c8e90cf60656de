/-! areLegal: card by card -/
section LG1
variable {T : zt_T} {σ : zt_S} {w : Int → Int} {c v8 : Int} {r : Int → Int → Int → Int → Int → Int → Int → zt_S → zt_T → Option (Int × zt_S × zt_T)}
/-- better says whether the hand holds a card that beats the trick -/
def HB (w : Int → Int) (v8 : Int) : Prop := (v8 = 0 ∨ v8 = 1) ∧ (0 < wPl w → (v8 = 1 ↔ wHB w (wTn w) (wLd w) = true))
theorem l_348 (hw : CW σ w) (hc : 0 ≤ c ∧ c < 4 * w 0) (ho : wOv w = false) (hB : HB w v8) {v2 : Int} : F_P_areLegal_348 r (wTn w) v2 (wLd w) (w 10) (wMo w) v8 c (wPn w c) 1 σ T = F_P_areLegal_459 r (wTn w) v2 (wLd w) (w 10) (wMo w) v8 c (if wMp w (wTn w) c = true then 1 else 0) σ T := by
  have a := hw.1.n
  have ld := wLd_lt hw.1
  have tl := wTn_lt hw.1
  have t0 := tl.2.2 ho
  have mo := wMo_lt hw.1
  have ws := wS_lt hw.1 hc.1 hc.2
  have pn := wPn_lt hw.1 (c := c)
  have wp := hw.1.wpl
  unfold F_P_areLegal_348 wMp
  rw [zt_ckI (by decide), if_neg (by decide), px_size3 hw, zt_byI, zt_ckI (by unfold zt_in; omega)]
  by_cases h3 : 0 < w 3
  · rw [if_pos h3, zt_ckI (by unfold zt_in; omega)]
    by_cases hp : wPl w = 0
    · have hl : wLd w = -1 := by unfold wLd; rw [if_pos hp]
      rw [if_pos (show wLd w < 0 by omega), if_pos (show w 3 = 0 ∨ wPl w = 0 from Or.inr hp), if_pos rfl]
    · have l0 := ld.2.2 (by omega)
      have sc := wSc_lt hw.1 (p := wTn w) (s := wLd w)
      rw [if_neg (show ¬ wLd w < 0 by omega), if_neg (show ¬ (w 3 = 0 ∨ wPl w = 0) by omega), px_ofSuit hw ⟨t0, tl.2.1⟩ ⟨l0, by omega⟩, zt_byI, zt_ckI (by unfold zt_in; omega)]
      have b8 := hB.2 (by omega)
      have hb8 := hB.1
      by_cases h4 : 0 < wSc w (wTn w) (wLd w)
      · rw [if_pos h4, if_pos h4, px_suit hw hc, zt_byI, zt_ckI ⟨by unfold zt_in; omega, by unfold zt_in; omega⟩]
        by_cases h5 : wS w c = wLd w
        · rw [if_pos h5, decide_eq_true h5, px_size3 hw, zt_byI, zt_ckI (by unfold zt_in; omega), Bool.true_and]
          by_cases h6 : w 3 = 2
          · rw [if_pos h6, decide_eq_true h6, zt_ckI (by unfold zt_in; omega)]
            by_cases h7 : v8 = 0
            · have hf : wHB w (wTn w) (wLd w) = false := Bool.eq_false_iff.mpr (fun z => by have := b8.mpr z; omega)
              rw [if_pos h7, hf]
              simp
              rfl
            · have ht : wHB w (wTn w) (wLd w) = true := b8.mp (by omega)
              rw [if_neg h7, ht, zt_ckI ⟨by unfold zt_in; omega, by unfold zt_in; omega⟩]
              by_cases h9 : wMo w < wPn w c
              · have bt : wBt w c = true := by rw [wBt_mo]; exact decide_eq_true (Or.inr h9)
                rw [if_pos h9, bt]
                simp
                rfl
              · have bt : wBt w c = false := by rw [wBt_mo]; exact decide_eq_false (by omega)
                rw [if_neg h9, bt]
                simp
                rfl
          · rw [if_neg h6, decide_eq_false h6]
            simp
            rfl
        · rw [if_neg h5, decide_eq_false h5]
          simp
          rfl
      · rw [if_neg h4, if_neg h4, px_size3 hw, zt_byI, zt_ckI (by unfold zt_in; omega)]
        by_cases h5 : w 3 = 3
        · rw [if_pos h5, decide_eq_true h5, zt_ckI (by unfold zt_in; omega)]
          by_cases h6 : w 10 < 0
          · rw [if_pos h6, decide_eq_false (show ¬ ¬ w 10 = -1 by omega)]
            simp
          · have sc := wSc_lt hw.1 (p := wTn w) (s := w 10)
            rw [if_neg h6, decide_eq_true (show ¬ w 10 = -1 by omega), px_ofSuit hw ⟨t0, tl.2.1⟩ ⟨by omega, by omega⟩, zt_byI, zt_ckI (by unfold zt_in; omega)]
            by_cases h7 : 0 < wSc w (wTn w) (w 10)
            · rw [if_pos h7, decide_eq_true h7, px_suit hw hc, zt_byI, zt_ckI ⟨by unfold zt_in; omega, by unfold zt_in; omega⟩]
              by_cases h9 : wS w c = w 10
              · rw [if_pos h9, decide_eq_true h9]
                simp
                rfl
              · rw [if_neg h9, decide_eq_false h9]
                simp
                rfl
            · rw [if_neg h7, decide_eq_false h7]
              simp
        · rw [if_neg h5, decide_eq_false h5]
          simp
  · rw [if_neg h3, if_pos (show w 3 = 0 ∨ wPl w = 0 by omega), if_pos rfl]
theorem l_459 (hw : CW σ w) (hc : 0 ≤ c ∧ c < 4 * w 0) {v2 p led : Int} : F_P_areLegal_459 r p v2 led (w 10) (wMo w) v8 c (if wLg w c = true then 1 else 0) σ T = r p (v2 + (if wLg w c = true then 1 else 0)) led (w 10) (wMo w) v8 (c + 1) σ T := by
  unfold F_P_areLegal_459 F_P_areLegal_483
  rw [px_isLegal hw hc, zt_byI]
  by_cases h : wLg w c = true
  · rw [if_pos h, zt_ckI ⟨by decide, by decide⟩, if_pos rfl, zt_ckI (by decide), if_neg (by decide)]
  · rw [if_neg h, zt_ckI ⟨by decide, by decide⟩, if_pos rfl, zt_ckI (by decide), if_pos rfl]
/-- a card -/
theorem l_card (hw : CW σ w) (hc : 0 ≤ c ∧ c < 4 * w 0) (hB : HB w v8) {v2 u : Int} (hu : u = if wPl w = 0 then wS w c else wLd w) : F_P_areLegal_279 r (wTn w) v2 (wLd w) (w 10) (wMo w) v8 c u c σ T = r (wTn w) (v2 + (if wLg w c = true then 1 else 0)) (wLd w) (w 10) (wMo w) v8 (c + 1) σ T := by
  have a := hw.1.n
  have ld := wLd_lt hw.1
  have tl := wTn_lt hw.1
  have mo := wMo_lt hw.1
  have ws := wS_lt hw.1 hc.1 hc.2
  have pn := wPn_lt hw.1 (c := c)
  have wp := hw.1.wpl
  have hd := hw.1.hd hc.1 (c := c) (by omega)
  have ub : -1 ≤ u ∧ u ≤ 3 := by rw [hu]; split <;> omega
  have en : wPw w c u = wPn w c := by rw [hu]; rfl
  -- the last question
  have fin : ∀ x : Int, x = (if wBt w c = true then 1 else 0) → F_P_areLegal_324 r (wTn w) v2 (wLd w) (w 10) (wMo w) v8 c (wPn w c) x x σ T = r (wTn w) (v2 + (if wLg w c = true then 1 else 0)) (wLd w) (w 10) (wMo w) v8 (c + 1) σ T := fun x hx => by
    have x01 : zt_in x := by rw [hx]; split <;> decide
    have no : ¬ (wTn w ≠ -1 ∧ wHd w c = wTn w) → wLg w c = false := fun z => by
      unfold wLg
      by_cases h1 : wTn w = -1
      · simp [h1]
      · by_cases h2 : wHd w c = wTn w
        · exact absurd ⟨h1, h2⟩ z
        · simp [h2]
    have l347 : wLg w c = false → F_P_areLegal_347 r (wTn w) v2 (wLd w) (w 10) (wMo w) v8 c (wPn w c) σ T = r (wTn w) (v2 + (if wLg w c = true then 1 else 0)) (wLd w) (w 10) (wMo w) v8 (c + 1) σ T := fun hl => by
      have g := l_459 (r := r) (T := T) (v8 := v8) (v2 := v2) (p := wTn w) (led := wLd w) hw hc
      unfold F_P_areLegal_347 F_P_areLegal_348
      rw [zt_ckI (by decide), if_pos rfl, ← g, hl]
      rfl
    unfold F_P_areLegal_324
    rw [zt_ckI ⟨x01, x01⟩, if_pos rfl, zt_ckI (by unfold zt_in; omega)]
    by_cases h1 : wTn w < 0
    · rw [if_pos h1]
      exact l347 (no (fun z => z.1 (by omega)))
    · rw [if_neg h1, px_holder hw hc, zt_byI, zt_ckI ⟨by unfold zt_in; omega, by unfold zt_in; omega⟩]
      by_cases h2 : wHd w c = wTn w
      · have ov : wOv w = false := Bool.eq_false_iff.mpr (fun z => by
          have : wTn w = -1 := by unfold wTn; rw [if_pos z]
          omega)
        have lm : wLg w c = wMp w (wTn w) c := by
          unfold wLg
          rw [decide_eq_true (show ¬ wTn w = -1 by omega), decide_eq_true h2]
          rfl
        rw [if_pos h2, l_348 hw hc ov hB, ← lm, l_459 hw hc]
      · rw [if_neg h2]
        exact l347 (no (fun z => h2 z.2))
  unfold F_P_areLegal_279 F_P_areLegal_319
  rw [px_size5 hw, zt_byI, p_power hw hc ub (by omega), zt_btI, pw_pc, en, px_power hw hc, zt_byI, zt_ckI ⟨by unfold zt_in; omega, by unfold zt_in; omega⟩, if_pos rfl, px_wouldLead hw hc, zt_byI, zt_ckI (by unfold zt_in; omega)]
  by_cases hp : wPl w = 0
  · have hl : wLd w = -1 := by unfold wLd; rw [if_pos hp]
    have bt : wBt w c = true := by rw [wBt_mo]; exact decide_eq_true (Or.inl hp)
    rw [if_pos (show wLd w < 0 by omega), bt, if_pos rfl]
    exact fin 1 (by rw [bt]; rfl)
  · have l0 := ld.2.2 (by omega)
    rw [if_neg (show ¬ wLd w < 0 by omega), zt_ckI ⟨by unfold zt_in; omega, by unfold zt_in; omega⟩]
    by_cases h9 : wMo w < wPn w c
    · have bt : wBt w c = true := by rw [wBt_mo]; exact decide_eq_true (Or.inr h9)
      rw [if_pos h9, bt, if_pos rfl]
      exact fin 1 (by rw [bt]; rfl)
    · have bt : wBt w c = false := by rw [wBt_mo]; exact decide_eq_false (by omega)
      rw [if_neg h9, bt, if_neg (by decide)]
      exact fin 0 (by rw [bt]; rfl)
theorem l_250 (hw : CW σ w) (hB : HB w v8) : ∀ (m n : Nat) (c v2 : Int), c + m = 4 * w 0 → m < n → 0 ≤ c → F_P_areLegal_250 n (wTn w) v2 (wLd w) (w 10) (wMo w) v8 c σ T = F_P_areLegal_491 (wTn w) (v2 + cn (wLg w) c m) σ T
  | m, 0, _, _, _, h, _ => absurd h (Nat.not_lt_zero _)
  | 0, n + 1, c, v2, h0, h1, h2 => by
    have a := hw.1.n
    rw [F_P_areLegal_250, px_size0 hw, zt_byI, zt_ckI ⟨by unfold zt_in; omega, by unfold zt_in; omega⟩, if_neg (by omega), cn, Int.add_zero]
  | m + 1, n + 1, c, v2, h0, h1, h2 => by
    have a := hw.1.n
    have ld := wLd_lt hw.1
    have wp := hw.1.wpl
    have ih := l_250 hw hB m n (c + 1) (v2 + (if wLg w c = true then 1 else 0)) (by omega) (by omega) (by omega)
    rw [F_P_areLegal_250, px_size0 hw, zt_byI, zt_ckI ⟨by unfold zt_in; omega, by unfold zt_in; omega⟩, if_pos (by omega), zt_ckI (by unfold zt_in; omega), cn, ← Int.add_assoc]
    by_cases hp : wPl w = 0
    · have hl : wLd w = -1 := by unfold wLd; rw [if_pos hp]
      rw [if_pos (show wLd w < 0 by omega), px_suit hw ⟨h2, by omega⟩, zt_byI, l_card hw ⟨h2, by omega⟩ hB (by rw [if_pos hp]), ih]
    · have l0 := ld.2.2 (by omega)
      rw [if_neg (show ¬ wLd w < 0 by omega), l_card hw ⟨h2, by omega⟩ hB (by rw [if_neg hp]), ih]
theorem l_491 (hw : CW σ w) : F_P_areLegal_491 (wTn w) (wLe w) σ T = some (1, σ, T) := by
  have a := hw.1.n
  have tl := wTn_lt hw.1
  have le := cn_le (wLg w) (4 * w 0).toNat 0
  have lq : wLe w = cn (wLg w) 0 (4 * w 0).toNat := rfl
  unfold F_P_areLegal_491 F_P_areLegal_508 F_P_areLegal_517 F_P_areLegal_525
  rw [px_legal hw, zt_bdS, zt_ckI ⟨by unfold zt_in; omega, by unfold zt_in; omega⟩, if_pos rfl, zt_ckI (by unfold zt_in; omega)]
  by_cases h1 : wTn w < 0
  · have z : wLe w = 0 := cn_none _ _ (fun c _ _ => by
      unfold wLg
      rw [decide_eq_false (show ¬ ¬ wTn w = -1 by omega)]
      rfl)
    rw [if_pos h1, z, zt_ckI (by decide), if_pos rfl, zt_ckI (by decide), if_pos rfl, zt_ckI (Or.inr rfl)]
  · have ov : wOv w = false := Bool.eq_false_iff.mpr (fun z => by
      have : wTn w = -1 := by unfold wTn; rw [if_pos z]
      omega)
    obtain ⟨c, c0, c1, c2⟩ := has_legal hw.1 ov
    have z : 0 < wLe w := (cn_pos _ _).mpr ⟨c, c0, by omega, c2⟩
    rw [if_neg h1, zt_ckI (by unfold zt_in; omega), if_neg (by omega), zt_ckI (by decide), if_pos rfl, zt_ckI (Or.inr rfl)]
theorem p_areLegal (hw : CW σ w) (hx : XI w) : F_P_areLegal σ T = some (1, σ, T) := by
  have a := hw.1.n
  have ld := wLd_lt hw.1
  have tl := wTn_lt hw.1
  have mo := wMo_lt hw.1
  have wp := hw.1.wpl
  have pl := hw.1.pl
  have p12 := hw.1.p12
  have m13 := hw.1.m13
  have ep : wPl w = w 12 - w 13 * w 1 := rfl
  have e247 : ∀ v8, HB w v8 → F_P_areLegal_247 (wTn w) 0 (wLd w) (w 10) (wMo w) v8 σ T = some (1, σ, T) := fun v8 hB => by
    unfold F_P_areLegal_247
    rw [l_250 hw hB (4 * w 0).toNat zt_N 0 0 (by omega) (zN (by omega)) (by omega), Int.zero_add]
    exact l_491 hw
  unfold F_P_areLegal
  rw [px_size9 hw, zt_byI, px_led hw, zt_bdS, px_size4 hw, zt_byI, px_size11 hw, zt_byI, px_size1 hw, zt_byI]
  by_cases hp : wPl w = 0
  · -- no card lies
    have hl : wLd w = -1 := by unfold wLd; rw [if_pos hp]
    have mz : wMo w = -1 := by unfold wMo; rw [if_pos hp]
    obtain ⟨n, hn⟩ : ∃ n, zt_N = n + 1 := ⟨zt_N - 1, by have := zN (m := 1) (by omega); omega⟩
    rw [hn, F_P_areLegal_45, px_size12 hw, zt_byI, zt_ckI ⟨by unfold zt_in; omega, by unfold zt_in; omega⟩, if_neg (by omega)]
    unfold F_P_areLegal_106 F_P_areLegal_124 F_P_areLegal_140 F_P_areLegal_164
    rw [px_winning hw, zt_bdS, if_pos hp, zt_ckI ⟨by decide, by decide⟩, if_pos rfl, hl, zt_ckI (by decide), if_pos (by decide), px_size12 hw, zt_byI, zt_ckI ⟨by unfold zt_in; omega, by unfold zt_in; omega⟩, if_pos (by omega), zt_ckI ⟨by decide, by decide⟩, if_pos rfl, zt_ckI (by decide), if_pos (by decide), hn, F_P_areLegal_170, px_size0 hw, zt_byI, zt_ckI ⟨by decide, by unfold zt_in; omega⟩, if_pos (by omega), zt_ckI (by unfold zt_in; omega)]
    have e := e247 0 ⟨Or.inl rfl, fun z => by omega⟩
    rw [hl, mz] at e
    by_cases h1 : wTn w < 0
    · rw [if_pos h1]
      exact e
    · rw [if_neg h1, zt_ckI (by decide), if_pos (by decide)]
      exact e
  · have l0 := ld.2.2 (by omega)
    have ov : wOv w = false := by
      unfold wOv
      exact decide_eq_false (fun z => by
        have p13 := hw.1.p13
        have := p13.2.mpr z
        have c : w 13 * w 1 = w 1 * w 2 := by rw [this, Int.mul_comm]
        omega)
    have t0 := tl.2.2 ov
    have g := l_45 (T := T) hw hx (by omega) (wPl w).toNat zt_N 0 (by omega) (zN (by omega))
    rw [if_pos rfl, if_pos rfl, show w 13 * w 1 + ((0 : Nat) : Int) = w 13 * w 1 by omega] at g
    rw [g]
    have cd := hw.1.cd (k := 0) (by omega) (by omega)
    have ec : wPd w (w 13 * w 1) 0 = wCd w 0 := by
      show w (92 + w 13 * w 1) = w (92 + w 13 * w 1 + 0)
      rw [Int.add_zero]
    have es : wS w (wCd w 0) = wLd w := by unfold wLd; rw [if_neg hp]
    have wi : wWi w = if wPl w = 0 then -1 else (w 9 + wBp w) % w 1 := rfl
    have wil : -1 ≤ wWi w ∧ wWi w < 4 := by
      have m0 := Int.emod_nonneg (w 9 + wBp w) (show w 1 ≠ 0 by omega)
      have m1 := Int.emod_lt_of_pos (w 9 + wBp w) (show 0 < w 1 by omega)
      rw [wi]
      split <;> omega
    obtain ⟨v, q1, q2, q3⟩ := l_170 (T := T) hw (by omega) ov (4 * w 0).toNat zt_N 0 0 (by omega) (zN (by omega)) (by omega) (Or.inl rfl)
    have hB : HB w v := ⟨q2, fun _ => q3.trans ⟨fun z => by
      rcases z with z | ⟨d, d0, d1, d2, d3, d4⟩
      · omega
      · exact (wHB_iff hw.1 ⟨l0, ld.2.1⟩).mpr ⟨d, d0, d1, d2, d3, d4⟩, fun z => Or.inr (by
      obtain ⟨d, d0, d1, d2, d3, d4⟩ := (wHB_iff hw.1 ⟨l0, ld.2.1⟩).mp z
      exact ⟨d, d0, d1, d2, d3, d4⟩)⟩⟩
    unfold F_P_areLegal_106 F_P_areLegal_124 F_P_areLegal_140 F_P_areLegal_164
    rw [px_winning hw, zt_bdS, ← wi, zt_ckI ⟨by unfold zt_in; omega, by unfold zt_in; omega⟩, if_pos rfl, zt_ckI (by unfold zt_in; omega), if_neg (show ¬ wLd w < 0 by omega), px_size12 hw, zt_byI, zt_ckI ⟨by unfold zt_in; omega, by unfold zt_in; omega⟩, if_neg (by omega), zt_ckI ⟨by decide, by decide⟩, if_pos rfl, zt_ckI (by unfold zt_in; omega), if_neg (show ¬ wLd w < 0 by omega), px_played hw ⟨by omega, by omega⟩ (by omega), zt_byI, ec, px_suit hw ⟨cd.1, cd.2.1⟩, zt_byI, es, zt_ckI ⟨by unfold zt_in; omega, by unfold zt_in; omega⟩, if_pos rfl, q1]
    exact e247 v hB
end LG1
