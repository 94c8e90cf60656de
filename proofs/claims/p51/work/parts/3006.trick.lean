/-! A TRICK of the class stands for a row -/
def SUw (σ : zt_S) (s : Nat) (w : Int → Int) : Prop := σ.1 s 0 = w 0 ∧ σ.1 s 1 = w 1 ∧ σ.1 s 2 = w 2 ∧ σ.1 s 3 = w 5
def TK (σ : zt_S) (k : Nat) (w : Int → Int) : Prop := (σ.1 k 0 = w 9 ∧ σ.1 k 1 = (w 9 + wPl w) % w 1 ∧ σ.1 k 2 = wPl w ∧ σ.1 k 3 = wLd w) ∧ (σ.1 k 4 = (if wPl w = 0 then 0 else wPn w (wCd w (wBp w))) ∧ σ.1 k 5 = (if wPl w = 0 then -1 else wCd w (wBp w)) ∧ σ.1 k 6 = (if wPl w = 0 then -1 else (w 9 + wBp w) % w 1)) ∧ σ.1 k 7 = w 10 ∧ σ.1 k 8 = w 11
section EC
variable {σ : zt_S} {s k : Nat} {w : Int → Int} {c : Int}
theorem SUw.su (h : SUw σ s w) (hw : RI w) : SU σ s := by
  have a := hw.n
  obtain ⟨h0, h1, h2, h3⟩ := h
  unfold SU
  rw [h0, h1, h2, h3]
  exact ⟨a.1, a.2.1, a.2.2.1, a.2.2.2.2.2.2.1⟩
theorem ec_suitOf (hs : SUw σ s w) (hw : RI w) (hc : 0 ≤ c ∧ c < 100000) : F_Su_suitOf s c σ = some (wS w c, σ) := by
  rw [e_suitOf (hs.su hw) hc, hs.1]
  rfl
theorem ec_rankOf (hs : SUw σ s w) (hw : RI w) (hc : 0 ≤ c ∧ c < 100000) : F_Su_rankOf s c σ = some (wR w c, σ) := by
  rw [e_rankOf (hs.su hw) hc, hs.1]
  rfl
theorem ec_cardCount (hs : SUw σ s w) : F_Su_cardCount s σ = some (4 * w 0, σ) := by
  rw [e_cardCount, hs.1]
theorem ec_cardsOfHands (hs : SUw σ s w) : F_Su_cardsOfHands s σ = some (w 1 * w 2, σ) := by
  rw [e_cardsOfHands, hs.2.1, hs.2.2.1]
theorem ec_behind (hs : SUw σ s w) (hw : RI w) (hc : 0 ≤ c ∧ c < w 1) : F_Su_behind s c σ = some ((c + 1) % w 1, σ) := by
  rw [e_behind (hs.su hw) (by rw [hs.2.1]; exact hc), hs.2.1]
theorem ed_suitOf {β : Type} (hs : SUw σ s w) (hw : RI w) (hc : 0 ≤ c ∧ c < 100000) {K : _ → zt_S → Option β} : zt_bd (F_Su_suitOf s c σ) K = K (wS w c) σ := by rw [ec_suitOf hs hw hc]; rfl
theorem ed_rankOf {β : Type} (hs : SUw σ s w) (hw : RI w) (hc : 0 ≤ c ∧ c < 100000) {K : _ → zt_S → Option β} : zt_bd (F_Su_rankOf s c σ) K = K (wR w c) σ := by rw [ec_rankOf hs hw hc]; rfl
theorem ed_cardCount {β : Type} (hs : SUw σ s w) {K : _ → zt_S → Option β} : zt_bd (F_Su_cardCount s σ) K = K (4 * w 0) σ := by rw [ec_cardCount hs]; rfl
theorem ed_cardsOfHands {β : Type} (hs : SUw σ s w) {K : _ → zt_S → Option β} : zt_bd (F_Su_cardsOfHands s σ) K = K (w 1 * w 2) σ := by rw [ec_cardsOfHands hs]; rfl
theorem ed_behind {β : Type} (hs : SUw σ s w) (hw : RI w) (hc : 0 ≤ c ∧ c < w 1) {K : _ → zt_S → Option β} : zt_bd (F_Su_behind s c σ) K = K ((c + 1) % w 1) σ := by rw [ec_behind hs hw hc]; rfl
theorem ec_powerOf (hk : TK σ k w) (hs : SUw σ s w) (hw : RI w) (hc : 0 ≤ c ∧ c < 4 * w 0) : F_Tr_powerOf k s c σ = some (wPn w c, σ) := by
  have a := hw.n
  have b := hw.wpl
  have d := wS_lt hw hc.1 hc.2
  have e := wLd_lt hw
  obtain ⟨⟨k0, k1, k2, k3⟩, -, k7, k8⟩ := hk
  unfold F_Tr_powerOf F_Tr_powerOf_40 F_Tr_powerOf_49 wPn wPw
  by_cases h1 : wS w c = w 10
  · simp (disch := first | omega | (unfold zt_in; omega)) only [↓zt_ckI, ↓if_pos, ↓if_neg, if_true, if_false, zt_letS, zt_ckI, if_pos, if_neg, up_s, up_o, up_2, ↓ed_suitOf hs hw, ↓ed_rankOf hs hw, k8]
  · by_cases h2 : wPl w = 0
    · simp (disch := first | omega | (unfold zt_in; omega)) only [↓zt_ckI, ↓if_pos, ↓if_neg, if_true, if_false, zt_letS, zt_ckI, if_pos, if_neg, up_s, up_o, up_2, ↓ed_suitOf hs hw, ↓ed_rankOf hs hw]
    · by_cases h3 : wS w c = wLd w
      · simp (disch := first | omega | (unfold zt_in; omega)) only [↓zt_ckI, ↓if_pos, ↓if_neg, if_true, if_false, zt_letS, zt_ckI, if_pos, if_neg, up_s, up_o, up_2, ↓ed_suitOf hs hw, ↓ed_rankOf hs hw]
      · simp (disch := first | omega | (unfold zt_in; omega)) only [↓zt_ckI, ↓if_pos, ↓if_neg, if_true, if_false, zt_letS, zt_ckI, if_pos, if_neg, up_s, up_o, up_2, ↓ed_suitOf hs hw, ↓ed_rankOf hs hw]
theorem ec_powerIfItLed (hk : TK σ k w) (hs : SUw σ s w) (hw : RI w) (hc : 0 ≤ c ∧ c < 4 * w 0) : F_Tr_powerIfItLed k s c σ = some (wPw w c (wS w c), σ) := by
  have a := hw.n
  have d := wS_lt hw hc.1 hc.2
  obtain ⟨⟨k0, k1, k2, k3⟩, -, k7, k8⟩ := hk
  unfold F_Tr_powerIfItLed F_Tr_powerIfItLed_25 wPw
  by_cases h1 : wS w c = w 10
  · simp (disch := first | omega | (unfold zt_in; omega)) only [↓zt_ckI, ↓if_pos, ↓if_neg, if_true, if_false, zt_letS, zt_ckI, if_pos, if_neg, up_s, up_o, up_2, ↓ed_suitOf hs hw, ↓ed_rankOf hs hw, k8]
  · simp (disch := first | omega | (unfold zt_in; omega)) only [↓zt_ckI, ↓if_pos, ↓if_neg, if_true, if_false, zt_letS, zt_ckI, if_pos, if_neg, up_s, up_o, up_2, ↓ed_suitOf hs hw, ↓ed_rankOf hs hw, Int.add_zero]
theorem wPb (hw : RI w) (h : ¬ wPl w = 0) : 0 ≤ wPn w (wCd w (wBp w)) ∧ wPn w (wCd w (wBp w)) ≤ 43 := wPn_lt hw
theorem ed_powerOf {β : Type} (hk : TK σ k w) (hs : SUw σ s w) (hw : RI w) (hc : 0 ≤ c ∧ c < 4 * w 0) {K : _ → zt_S → Option β} : zt_bd (F_Tr_powerOf k s c σ) K = K (wPn w c) σ := by rw [ec_powerOf hk hs hw hc]; rfl
theorem ed_powerIfItLed {β : Type} (hk : TK σ k w) (hs : SUw σ s w) (hw : RI w) (hc : 0 ≤ c ∧ c < 4 * w 0) {K : _ → zt_S → Option β} : zt_bd (F_Tr_powerIfItLed k s c σ) K = K (wPw w c (wS w c)) σ := by rw [ec_powerIfItLed hk hs hw hc]; rfl
theorem ec_wouldBeBest (hk : TK σ k w) (hs : SUw σ s w) (hw : RI w) (hc : 0 ≤ c ∧ c < 4 * w 0) : F_Tr_wouldBeBest k s c σ = some (if wBt w c = true then 1 else 0, σ) := by
  have a := hw.n
  have b := hw.wpl
  have p1 := wPn_lt hw (c := c)
  have p2 := wPn_lt hw (c := wCd w (wBp w))
  have hk0 := hk
  obtain ⟨⟨k0, k1, k2, k3⟩, ⟨k4, k5, k6⟩, k7, k8⟩ := hk
  unfold F_Tr_wouldBeBest F_Tr_wouldBeBest_20 F_Tr_wouldBeBest_25 wBt
  by_cases h1 : wPl w = 0
  · simp (disch := first | omega | (unfold zt_in; omega)) only [↓zt_ckI, ↓if_pos, ↓if_neg, if_true, if_false, zt_letS, zt_ckI, if_pos, if_neg, up_s, up_o, up_2, true_or, decide_true, h1]
  · rw [if_neg h1] at k4
    by_cases h2 : wPn w (wCd w (wBp w)) < wPn w c
    · simp (disch := first | omega | (unfold zt_in; omega)) only [↓zt_ckI, ↓if_pos, ↓if_neg, if_true, if_false, zt_letS, zt_ckI, if_pos, if_neg, up_s, up_o, up_2, ↓ed_powerOf hk0 hs hw hc, or_true, decide_true, h2]
    · simp (disch := first | omega | (unfold zt_in; omega)) only [↓zt_ckI, ↓if_pos, ↓if_neg, if_true, if_false, zt_letS, zt_ckI, if_pos, if_neg, up_s, up_o, up_2, ↓ed_powerOf hk0 hs hw hc, h1, h2, or_false, decide_false, Bool.false_eq_true]
theorem ec_placed_up (hk : TK σ k w) (hs : SUw σ s w) (hw : RI w) (hc : 0 ≤ c ∧ c < 4 * w 0) (hks : k ≠ s) : ∃ σ', F_Tr_place k s c σ = some ((), σ') ∧ σ'.2 = σ.2 ∧ (∀ c' j, c' ≠ k → σ'.1 c' j = σ.1 c' j) ∧ σ'.1 k 0 = w 9 ∧ σ'.1 k 1 = (w 9 + wPl w + 1) % w 1 ∧ σ'.1 k 2 = wPl w + 1 ∧ σ'.1 k 3 = (if wPl w = 0 then wS w c else wLd w) ∧ σ'.1 k 4 = (if wBt w c = true then wPn w c else wPn w (wCd w (wBp w))) ∧ σ'.1 k 5 = (if wBt w c = true then c else wCd w (wBp w)) ∧ σ'.1 k 6 = (if wBt w c = true then (w 9 + wPl w) % w 1 else (w 9 + wBp w) % w 1) ∧ σ'.1 k 7 = w 10 ∧ σ'.1 k 8 = w 11 := by
  have a := hw.n
  have b := hw.wpl
  have p1 := wPn_lt hw (c := c)
  have p2 := wPn_lt hw (c := wCd w (wBp w))
  have hk0 := hk
  have tn := Int.emod_nonneg (w 9 + wPl w) (show w 1 ≠ 0 by omega)
  have tn2 := Int.emod_lt_of_pos (w 9 + wPl w) (show 0 < w 1 by omega)
  have em : ((w 9 + wPl w) % w 1 + 1) % w 1 = (w 9 + wPl w + 1) % w 1 := by rw [Int.emod_add_emod]
  obtain ⟨⟨k0, k1, k2, k3⟩, ⟨k4, k5, k6⟩, k7, k8⟩ := hk
  unfold F_Tr_place F_Tr_place_23 F_Tr_place_38 F_Tr_place_56 wBt
  have hs1 : ∀ (τ : zt_S), (∀ j, τ.1 s j = σ.1 s j) → SUw τ s w := fun τ h => ⟨by rw [h]; exact hs.1, by rw [h]; exact hs.2.1, by rw [h]; exact hs.2.2.1, by rw [h]; exact hs.2.2.2⟩
  by_cases h1 : wPl w = 0
  · simp (disch := first | omega | (unfold zt_in; omega)) only [↓zt_ckI, ↓if_pos, ↓if_neg, if_true, if_false, zt_letS, zt_ckI, if_pos, if_neg, up_s, up_o, up_2, ↓ed_powerOf hk0 hs hw hc, ↓ed_suitOf hs hw]
    rw [ed_behind (hs1 _ (fun j => by simp only [up_1, hks.symm, false_and, if_false])) hw (by omega)]
    refine ⟨_, rfl, ?_⟩
    simp [up_1, up_2, h1, k0, k1, k2, k3, k7, k8, hks, em]
    intro c' j hcj; simp [hcj]
  · rw [if_neg h1] at k4 k5 k6
    by_cases h2 : wPn w (wCd w (wBp w)) < wPn w c
    · simp (disch := first | omega | (unfold zt_in; omega)) only [↓zt_ckI, ↓if_pos, ↓if_neg, if_true, if_false, zt_letS, zt_ckI, if_pos, if_neg, up_s, up_o, up_2, ↓ed_powerOf hk0 hs hw hc, ↓ed_suitOf hs hw]
      rw [ed_behind (hs1 _ (fun j => by simp only [up_1, hks.symm, false_and, if_false])) hw (by omega)]
      refine ⟨_, rfl, ?_⟩
      simp [up_1, up_2, h1, h2, k0, k1, k2, k3, k7, k8, hks, em]
      intro c' j hcj; simp [hcj]
    · simp (disch := first | omega | (unfold zt_in; omega)) only [↓zt_ckI, ↓if_pos, ↓if_neg, if_true, if_false, zt_letS, zt_ckI, if_pos, if_neg, up_s, up_o, up_2, ↓ed_powerOf hk0 hs hw hc, ↓ed_suitOf hs hw]
      rw [ed_behind (hs1 _ (fun j => by simp only [up_1, hks.symm, false_and, if_false])) hw (by omega)]
      refine ⟨_, rfl, ?_⟩
      simp [up_1, up_2, h1, h2, k0, k1, k2, k3, k4, k5, k6, k7, k8, hks, em]
      intro c' j hcj; simp [hcj]
end EC
