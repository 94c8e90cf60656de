/-! areLegal: the powers, who wins, which cards are legal -/
section LG0
variable {T : zt_T} {σ : zt_S} {w : Int → Int}
theorem pc_lt {R t G u c : Int} (hR : 0 < R ∧ R ≤ 13) (hG : 0 ≤ G ∧ G ≤ 30) : 0 ≤ pc R t G u c ∧ pc R t G u c ≤ 43 := by
  have m0 := Int.emod_nonneg c (show R ≠ 0 by omega)
  have m1 := Int.emod_lt_of_pos c hR.1
  unfold pc
  split
  · omega
  · split <;> omega
theorem p_power (hw : CW σ w) {c u t G : Int} (hc : 0 ≤ c ∧ c < 4 * w 0) (hu : -1 ≤ u ∧ u ≤ 3) (ht : -1 ≤ t ∧ t ≤ 3) : F_P_power c u t G σ T = some (pc (w 0) t G u c, σ, T) := by
  have s := wS_lt hw.1 hc.1 hc.2
  unfold F_P_power F_P_power_38
  have e1 : pc (w 0) t G u c = if wS w c = t then wR w c + G else if wS w c = u then wR w c else 0 := rfl
  rw [e1, px_suit hw hc, zt_byI, zt_ckI ⟨by unfold zt_in; omega, by unfold zt_in; omega⟩]
  by_cases h1 : wS w c = t
  · rw [if_pos h1, if_pos h1, px_rank hw hc, zt_byI]
  · rw [if_neg h1, if_neg h1, px_suit hw hc, zt_byI, zt_ckI ⟨by unfold zt_in; omega, by unfold zt_in; omega⟩]
    by_cases h2 : wS w c = u
    · rw [if_pos h2, if_pos h2, px_rank hw hc, zt_byI]
    · rw [if_neg h2, if_neg h2]
theorem pw_pc {c u : Int} : pc (w 0) (w 10) (w 11) u c = wPw w c u := rfl
/-- the greatest power in the trick -/
def wMo (w : Int → Int) : Int := if wPl w = 0 then -1 else wPn w (wCd w (wBp w))
def wWi (w : Int → Int) : Int := if wPl w = 0 then -1 else (w 9 + wBp w) % w 1
theorem wMo_lt (h : RI w) : -1 ≤ wMo w ∧ wMo w ≤ 43 := by
  have := wPn_lt h (c := wCd w (wBp w))
  unfold wMo
  split <;> omega
theorem wBt_mo {c : Int} : wBt w c = decide (wPl w = 0 ∨ wMo w < wPn w c) := by
  unfold wBt wMo
  by_cases h : wPl w = 0
  · simp [h]
  · simp [h]
theorem l_45 (hw : CW σ w) (hx : XI w) (hp : 0 < wPl w) : ∀ (m n k : Nat), (k : Int) + m = wPl w → m < n → F_P_areLegal_45 n (wTn w) 0 (wLd w) (w 10) (w 13 * w 1) (if k = 0 then -1 else wPn w (wCd w (wBs w (-1) 0 k))) (if k = 0 then -1 else (w 9 + wBs w (-1) 0 k) % w 1) (w 13 * w 1 + k) σ T = F_P_areLegal_106 (wTn w) 0 (wLd w) (w 10) (w 13 * w 1) (wMo w) (wWi w) σ T
  | m, 0, _, _, h => absurd h (Nat.not_lt_zero _)
  | 0, n + 1, k, h0, h1 => by
    have a := hw.1.n
    have p12 := hw.1.p12
    have m13 := hw.1.m13
    have ep : wPl w = w 12 - w 13 * w 1 := rfl
    have pl := hw.1.pl
    rw [F_P_areLegal_45, px_size12 hw, zt_byI, zt_ckI ⟨by unfold zt_in; omega, by unfold zt_in; omega⟩, if_neg (by omega), if_neg (by omega), if_neg (by omega)]
    unfold wMo wWi wBp
    rw [if_neg (by omega), if_neg (by omega), show (wPl w).toNat = k by omega]
  | m + 1, n + 1, k, h0, h1 => by
    have a := hw.1.n
    have p12 := hw.1.p12
    have m13 := hw.1.m13
    have pl := hw.1.pl
    have ep : wPl w = w 12 - w 13 * w 1 := rfl
    have ld := wLd_lt hw.1
    have cd := hw.1.cd (k := (k : Int)) (by omega) (by omega)
    have ec : wPd w (w 13 * w 1 + k) 0 = wCd w k := by
      show w (92 + (w 13 * w 1 + k)) = w (92 + w 13 * w 1 + k)
      rw [Int.add_assoc]
    have e1 : wPd w (w 13 * w 1 + k) 1 = (w 9 + (k : Int)) % w 1 := hx.1 k (by omega) (by omega)
    have en : wPw w (wCd w k) (wLd w) = wPn w (wCd w k) := by
      unfold wPn
      rw [if_neg (by omega)]
    have ih := l_45 hw hx hp m n (k + 1) (by omega) (by omega)
    rw [if_neg (by omega), if_neg (by omega), wBs_r, Int.zero_add, show w 13 * w 1 + ((k + 1 : Nat) : Int) = w 13 * w 1 + k + 1 by omega] at ih
    have bs := wBs_lt (w := w) k (-1) 0 (by omega) (by omega) (by omega)
    have pk := wPn_lt hw.1 (c := wCd w k)
    have pb := wPn_lt hw.1 (c := wCd w (wBs w (-1) 0 k))
    rw [F_P_areLegal_45, px_size12 hw, zt_byI, zt_ckI ⟨by unfold zt_in; omega, by unfold zt_in; omega⟩, if_pos (by omega), px_played hw ⟨by omega, by omega⟩ (by omega), zt_byI, ec, px_size5 hw, zt_byI, p_power hw ⟨cd.1, cd.2.1⟩ (by omega) (by omega), zt_btI, pw_pc, en]
    by_cases hk : k = 0
    · subst hk
      have b0 : wBs w (-1) 0 0 = -1 := rfl
      rw [b0, if_pos (Or.inl rfl)] at ih
      rw [if_pos rfl, if_pos rfl, zt_ckI ⟨by unfold zt_in; omega, by unfold zt_in; omega⟩, if_pos (by omega), px_played hw ⟨by omega, by omega⟩ (by omega), zt_byI, e1]
      exact ih
    · rw [if_neg hk, if_neg hk, zt_ckI ⟨by unfold zt_in; omega, by unfold zt_in; omega⟩]
      have b0 : wBs w (-1) 0 k ≠ -1 := by
        have := bs.2.2 (by omega)
        omega
      by_cases hz : wPn w (wCd w (wBs w (-1) 0 k)) < wPn w (wCd w k)
      · rw [if_pos (Or.inr hz)] at ih
        rw [if_pos hz, px_played hw ⟨by omega, by omega⟩ (by omega), zt_byI, e1]
        exact ih
      · rw [if_neg (fun z => z.elim b0 hz)] at ih
        rw [if_neg hz]
        exact ih
/-- a card beats the trick -/
theorem l_170 (hw : CW σ w) (hp : 0 < wPl w) (ho : wOv w = false) : ∀ (m n : Nat) (c v8 : Int), c + m = 4 * w 0 → m < n → 0 ≤ c → (v8 = 0 ∨ v8 = 1) → ∃ v, F_P_areLegal_170 n (wTn w) 0 (wLd w) (w 10) (wMo w) v8 c σ T = F_P_areLegal_247 (wTn w) 0 (wLd w) (w 10) (wMo w) v σ T ∧ (v = 0 ∨ v = 1) ∧ (v = 1 ↔ v8 = 1 ∨ ∃ d, c ≤ d ∧ d < 4 * w 0 ∧ wHd w d = wTn w ∧ wS w d = wLd w ∧ wBt w d = true)
  | m, 0, _, _, _, h, _, _ => absurd h (Nat.not_lt_zero _)
  | 0, n + 1, c, v8, h0, h1, h2, h3 => by
    have a := hw.1.n
    refine ⟨v8, ?_, h3, ?_⟩
    · rw [F_P_areLegal_170, px_size0 hw, zt_byI, zt_ckI ⟨by unfold zt_in; omega, by unfold zt_in; omega⟩, if_neg (by omega)]
    · constructor
      · exact Or.inl
      · rintro (z | ⟨d, d0, d1, _⟩)
        · exact z
        · omega
  | m + 1, n + 1, c, v8, h0, h1, h2, h3 => by
    have a := hw.1.n
    have ld := wLd_lt hw.1
    have tl := wTn_lt hw.1
    have t0 := tl.2.2 ho
    have mo := wMo_lt hw.1
    have hd := hw.1.hd h2 (c := c) (by omega)
    have ws := wS_lt hw.1 h2 (show c < 4 * w 0 by omega)
    have pn := wPn_lt hw.1 (c := c)
    have key : ∀ b : Int, (b = 0 ∨ b = 1) → (b = 1 ↔ v8 = 1 ∨ (wHd w c = wTn w ∧ wS w c = wLd w ∧ wBt w c = true)) → F_P_areLegal_170 (n + 1) (wTn w) 0 (wLd w) (w 10) (wMo w) v8 c σ T = F_P_areLegal_170 n (wTn w) 0 (wLd w) (w 10) (wMo w) b (c + 1) σ T → ∃ v, F_P_areLegal_170 (n + 1) (wTn w) 0 (wLd w) (w 10) (wMo w) v8 c σ T = F_P_areLegal_247 (wTn w) 0 (wLd w) (w 10) (wMo w) v σ T ∧ (v = 0 ∨ v = 1) ∧ (v = 1 ↔ v8 = 1 ∨ ∃ d, c ≤ d ∧ d < 4 * w 0 ∧ wHd w d = wTn w ∧ wS w d = wLd w ∧ wBt w d = true) := by
      intro b b0 b1 b2
      obtain ⟨v, q1, q2, q3⟩ := l_170 hw hp ho m n (c + 1) b (by omega) (by omega) (by omega) b0
      refine ⟨v, b2.trans q1, q2, q3.trans ?_⟩
      constructor
      · rintro (z | ⟨d, d0, d1, d2⟩)
        · rcases b1.mp z with y | y
          · exact Or.inl y
          · exact Or.inr ⟨c, Int.le_refl _, by omega, y⟩
        · exact Or.inr ⟨d, by omega, d1, d2⟩
      · rintro (z | ⟨d, d0, d1, d2⟩)
        · exact Or.inl (b1.mpr (Or.inl z))
        · by_cases hd : d = c
          · subst hd; exact Or.inl (b1.mpr (Or.inr d2))
          · exact Or.inr ⟨d, by omega, d1, d2⟩
    have st : F_P_areLegal_170 (n + 1) (wTn w) 0 (wLd w) (w 10) (wMo w) v8 c σ T = (zt_ck (zt_in v8) <| if v8 = (0 : Int) then
          zt_by (F_C_holder c σ) fun a61 s62 =>
          zt_ck (zt_in a61 ∧ zt_in (wTn w)) <| if a61 = wTn w then
            zt_by (F_C_suit c s62) fun a63 s64 =>
            zt_ck (zt_in a63 ∧ zt_in (wLd w)) <| if a63 = wLd w then
              zt_by (F_C_size (5 : Int) s64) fun a65 s66 =>
              zt_bt (F_P_power c (wLd w) (w 10) a65 s66 T) fun a67 s68 t69 =>
              zt_ck (zt_in a67 ∧ zt_in (wMo w)) <| if wMo w < a67 then
                F_P_areLegal_234 (F_P_areLegal_170 n) (wTn w) 0 (wLd w) (w 10) (wMo w) c s68 t69
              else
                F_P_areLegal_238 (F_P_areLegal_170 n) (wTn w) 0 (wLd w) (w 10) (wMo w) c s68 t69
            else
              F_P_areLegal_238 (F_P_areLegal_170 n) (wTn w) 0 (wLd w) (w 10) (wMo w) c s64 T
          else
            F_P_areLegal_238 (F_P_areLegal_170 n) (wTn w) 0 (wLd w) (w 10) (wMo w) c s62 T
        else
          F_P_areLegal_234 (F_P_areLegal_170 n) (wTn w) 0 (wLd w) (w 10) (wMo w) c σ T) := by
      rw [F_P_areLegal_170, px_size0 hw, zt_byI, zt_ckI ⟨by unfold zt_in; omega, by unfold zt_in; omega⟩, if_pos (by omega), zt_ckI (by unfold zt_in; omega), if_neg (by omega), zt_ckI (by unfold zt_in; omega), if_neg (by omega)]
    by_cases h8 : v8 = 0
    · by_cases e1 : wHd w c = wTn w
      · by_cases e2 : wS w c = wLd w
        · have en : wPw w c (wLd w) = wPn w c := by
            unfold wPn
            rw [if_neg (by omega)]
          by_cases e3 : wMo w < wPn w c
          · refine key 1 (Or.inr rfl) ⟨fun _ => Or.inr ⟨e1, e2, by rw [wBt_mo]; exact decide_eq_true (Or.inr e3)⟩, fun _ => rfl⟩ ?_
            rw [st, zt_ckI (by unfold zt_in; omega), if_pos h8, px_holder hw ⟨h2, by omega⟩, zt_byI, e1, zt_ckI ⟨by unfold zt_in; omega, by unfold zt_in; omega⟩, if_pos rfl, px_suit hw ⟨h2, by omega⟩, zt_byI, e2, zt_ckI ⟨by unfold zt_in; omega, by unfold zt_in; omega⟩, if_pos rfl, px_size5 hw, zt_byI, p_power hw ⟨h2, by omega⟩ (by omega) (by omega), zt_btI, pw_pc, en, zt_ckI ⟨by unfold zt_in; omega, by unfold zt_in; omega⟩, if_pos e3]
            rfl
          · refine key 0 (Or.inl rfl) ⟨fun z => by omega, fun z => by
              rcases z with z | z
              · omega
              · have := z.2.2
                rw [wBt_mo] at this
                have := of_decide_eq_true this
                omega⟩ ?_
            rw [st, zt_ckI (by unfold zt_in; omega), if_pos h8, px_holder hw ⟨h2, by omega⟩, zt_byI, e1, zt_ckI ⟨by unfold zt_in; omega, by unfold zt_in; omega⟩, if_pos rfl, px_suit hw ⟨h2, by omega⟩, zt_byI, e2, zt_ckI ⟨by unfold zt_in; omega, by unfold zt_in; omega⟩, if_pos rfl, px_size5 hw, zt_byI, p_power hw ⟨h2, by omega⟩ (by omega) (by omega), zt_btI, pw_pc, en, zt_ckI ⟨by unfold zt_in; omega, by unfold zt_in; omega⟩, if_neg e3]
            rfl
        · refine key 0 (Or.inl rfl) ⟨fun z => by omega, fun z => by
            rcases z with z | z
            · omega
            · exact absurd z.2.1 e2⟩ ?_
          rw [st, zt_ckI (by unfold zt_in; omega), if_pos h8, px_holder hw ⟨h2, by omega⟩, zt_byI, e1, zt_ckI ⟨by unfold zt_in; omega, by unfold zt_in; omega⟩, if_pos rfl, px_suit hw ⟨h2, by omega⟩, zt_byI, zt_ckI ⟨by unfold zt_in; omega, by unfold zt_in; omega⟩, if_neg e2]
          rfl
      · refine key 0 (Or.inl rfl) ⟨fun z => by omega, fun z => by
          rcases z with z | z
          · omega
          · exact absurd z.1 e1⟩ ?_
        rw [st, zt_ckI (by unfold zt_in; omega), if_pos h8, px_holder hw ⟨h2, by omega⟩, zt_byI, zt_ckI ⟨by unfold zt_in; omega, by unfold zt_in; omega⟩, if_neg e1]
        rfl
    · refine key 1 (Or.inr rfl) ⟨fun _ => Or.inl (by omega), fun _ => rfl⟩ ?_
      rw [st, zt_ckI (by unfold zt_in; omega), if_neg h8]
      rfl
end LG0
