/-! auto: the card that is chosen -/
/-- the best by L of the numbers from k on that hold, b the best before -/
def wSn (P : Int → Bool) (L : Int → Int → Bool) : Int → Int → Nat → Int
  | b, _, 0 => b
  | b, k, m + 1 => wSn P L (if P k = true ∧ (b = -1 ∨ L k b = true) then k else b) (k + 1) m
theorem wSn_in {P : Int → Bool} {L : Int → Int → Bool} : ∀ (m : Nat) (b k : Int), 0 ≤ k → (b = -1 ∨ (0 ≤ b ∧ b < k ∧ P b = true)) → (wSn P L b k m = -1 ∨ (0 ≤ wSn P L b k m ∧ wSn P L b k m < k + m ∧ P (wSn P L b k m) = true))
  | 0, b, k, h0, h1 => by
    rw [wSn]
    rcases h1 with h1 | h1
    · exact Or.inl h1
    · exact Or.inr ⟨h1.1, by omega, h1.2.2⟩
  | m + 1, b, k, h0, h1 => by
    rw [wSn]
    have ih := wSn_in (P := P) (L := L) m (if P k = true ∧ (b = -1 ∨ L k b = true) then k else b) (k + 1) (by omega) (by
      by_cases hk : P k = true ∧ (b = -1 ∨ L k b = true)
      · rw [if_pos hk]; exact Or.inr ⟨h0, by omega, hk.1⟩
      · rw [if_neg hk]
        rcases h1 with h1 | h1
        · exact Or.inl h1
        · exact Or.inr ⟨h1.1, by omega, h1.2.2⟩)
    rcases ih with ih | ih
    · exact Or.inl ih
    · exact Or.inr ⟨ih.1, by omega, ih.2.2⟩
theorem wSn_ne {P : Int → Bool} {L : Int → Int → Bool} : ∀ (m : Nat) (b k : Int), 0 ≤ k → (b ≠ -1 ∨ ∃ c, k ≤ c ∧ c < k + m ∧ P c = true) → wSn P L b k m ≠ -1
  | 0, b, k, h0, h1 => by
    rw [wSn]
    rcases h1 with h1 | ⟨c, h1, h2, _⟩
    · exact h1
    · omega
  | m + 1, b, k, h0, h1 => by
    rw [wSn]
    apply wSn_ne m _ (k + 1) (by omega)
    by_cases hk : P k = true ∧ (b = -1 ∨ L k b = true)
    · rw [if_pos hk]; left; omega
    · rw [if_neg hk]
      by_cases hb : b = -1
      · right
        rcases h1 with h1 | ⟨c, h1, h2, h3⟩
        · exact absurd hb h1
        · have : c ≠ k := fun z => hk ⟨z ▸ h3, Or.inl hb⟩
          exact ⟨c, by omega, by omega, h3⟩
      · exact Or.inl hb
theorem wSn_congr {P Q : Int → Bool} {L : Int → Int → Bool} : ∀ (m : Nat) (b k : Int), (∀ c, k ≤ c → c < k + m → P c = Q c) → wSn P L b k m = wSn Q L b k m
  | 0, _, _, _ => rfl
  | m + 1, b, k, h => by
    rw [wSn, wSn, h k (by omega) (by omega)]
    exact wSn_congr m _ _ (fun c h0 h1 => h c (by omega) (by omega))
def lPw (w : Int → Int) (x y : Int) : Bool := decide (wPn w y < wPn w x)
def lPl (w : Int → Int) (x y : Int) : Bool := decide (wPn w x < wPn w y)
def lRk (w : Int → Int) (x y : Int) : Bool := decide (wR w x < wR w y)
def pTk (w : Int → Int) (c : Int) : Bool := wLg w c && wBt w c
def wCh (w : Int → Int) : Int := if wPl w = 0 then wSn (wLg w) (lPw w) (-1) 0 (4 * w 0).toNat else if wSn (pTk w) (lPl w) (-1) 0 (4 * w 0).toNat = -1 then wSn (wLg w) (lRk w) (-1) 0 (4 * w 0).toNat else wSn (pTk w) (lPl w) (-1) 0 (4 * w 0).toNat
section LG
variable {w : Int → Int}
theorem has_card (h : RI w) (ho : wOv w = false) : ∃ c, 0 ≤ c ∧ c < 4 * w 0 ∧ wHd w c = wTn w := by
  have a := h.n
  have b := h.wpl
  have o := wOv_lt h ho
  have tp := tn_pl ho
  have tl := wTn_lt h
  have tl2 := tl.2.2 ho
  have md := md_lt (m := w 1) (a := w 9) (b := wPl w) a.2.1 ⟨by omega, by omega⟩ b
  have e := h.2.2.2.2.2.2.2.2.2.2 (wTn w) tl2 (by omega)
  have g := (md.2.2 (wTn w) tl2 (by omega)).1.mpr tp
  rw [if_neg (by omega)] at e
  have p : 0 < wHc w (wTn w) := by omega
  unfold wHc at p
  obtain ⟨c, h1, h2, h3⟩ := (cn_pos 52 0).mp p
  have h3 := of_decide_eq_true h3
  have hd := h.hd h1 (by omega)
  exact ⟨c, h1, by omega, h3⟩
theorem has_legal (h : RI w) (ho : wOv w = false) : ∃ c, 0 ≤ c ∧ c < 4 * w 0 ∧ wLg w c = true := by
  have tl := wTn_lt h
  have tl2 := tl.2.2 ho
  have a := h.n
  have b := h.wpl
  have l := wLd_lt h
  obtain ⟨c, h1, h2, h3⟩ := has_card h ho
  have key : ∀ c, wHd w c = wTn w → wMp w (wTn w) c = true → wLg w c = true := by
    intro c g1 g2
    unfold wLg
    rw [g2, decide_eq_true g1, decide_eq_true (show ¬ wTn w = -1 by omega)]
    rfl
  by_cases k1 : w 3 = 0 ∨ wPl w = 0
  · exact ⟨c, h1, h2, key c h3 (by unfold wMp; rw [if_pos k1])⟩
  · have l2 := l.2.2 (by omega)
    by_cases k2 : 0 < wSc w (wTn w) (wLd w)
    · by_cases k3 : wHB w (wTn w) (wLd w) = true
      · obtain ⟨d, d1, d2, d3, d4, d5⟩ := (wHB_iff h ⟨l2, l.2.1⟩).mp k3
        exact ⟨d, d1, d2, key d d3 (by unfold wMp; rw [if_neg k1, if_pos k2, decide_eq_true d4, d5]; simp)⟩
      · obtain ⟨d, d1, d2, d3, d4⟩ := (wSc_pos h ⟨l2, l.2.1⟩).mp k2
        exact ⟨d, d1, d2, key d d3 (by unfold wMp; rw [if_neg k1, if_pos k2, decide_eq_true d4, Bool.eq_false_iff.mpr k3]; simp)⟩
    · by_cases k3 : w 3 = 3 ∧ ¬ w 10 = -1 ∧ 0 < wSc w (wTn w) (w 10)
      · obtain ⟨d, d1, d2, d3, d4⟩ := (wSc_pos h ⟨by omega, by omega⟩).mp k3.2.2
        exact ⟨d, d1, d2, key d d3 (by unfold wMp; rw [if_neg k1, if_neg k2, decide_eq_true d4]; simp)⟩
      · refine ⟨c, h1, h2, key c h3 ?_⟩
        unfold wMp
        rw [if_neg k1, if_neg k2]
        by_cases y1 : w 3 = 3 <;> by_cases y2 : w 10 = -1 <;> by_cases y3 : 0 < wSc w (wTn w) (w 10) <;> simp [y1, y2, y3] <;> (exfalso; exact k3 ⟨y1, y2, y3⟩)
theorem wLg_hd {c : Int} (h : wLg w c = true) : wHd w c = wTn w := by
  unfold wLg at h
  simp only [Bool.and_eq_true, decide_eq_true_eq] at h
  exact h.1.2
theorem wCh_ok (h : RI w) (ho : wOv w = false) : (0 ≤ wCh w ∧ wCh w < 4 * w 0) ∧ wHd w (wCh w) = wTn w := by
  have a := h.n
  obtain ⟨c, c1, c2, c3⟩ := has_legal h ho
  have key : ∀ (L : Int → Int → Bool), (0 ≤ wSn (wLg w) L (-1) 0 (4 * w 0).toNat ∧ wSn (wLg w) L (-1) 0 (4 * w 0).toNat < 4 * w 0) ∧ wHd w (wSn (wLg w) L (-1) 0 (4 * w 0).toNat) = wTn w := by
    intro L
    have n := wSn_ne (P := wLg w) (L := L) (4 * w 0).toNat (-1) 0 (by omega) (Or.inr ⟨c, c1, by omega, c3⟩)
    rcases wSn_in (P := wLg w) (L := L) (4 * w 0).toNat (-1) 0 (by omega) (Or.inl rfl) with z | z
    · exact absurd z n
    · exact ⟨⟨z.1, by omega⟩, wLg_hd z.2.2⟩
  unfold wCh
  split
  · exact key _
  · split
    · exact key _
    · rename_i z
      rcases wSn_in (P := pTk w) (L := lPl w) (4 * w 0).toNat (-1) 0 (by omega) (Or.inl rfl) with y | y
      · exact absurd y z
      · have := y.2.2
        unfold pTk at this
        rw [Bool.and_eq_true] at this
        exact ⟨⟨y.1, by omega⟩, wLg_hd this.1⟩
end LG
section CH
variable {σ : zt_S} {t : Nat} {w : Int → Int}
theorem wPn_pos (hw : RI w) (hp : wPl w = 0) {c : Int} : 0 < wPn w c := by
  have a := hw.n
  have r := wR_lt hw (c := c)
  unfold wPn wPw
  rw [if_pos hp]
  split
  · omega
  · rw [if_pos rfl]; omega
theorem ec_strongest_13 (hs : SUw σ (zt_su t) w) (hw : RI w) (h : TB σ t w) (hp : wPl w = 0) {V : Int64} (hV : ∀ c, 0 ≤ c → c < 64 → hb V c = (decide (c < 4 * w 0) && wLg w c)) : ∀ (m n : Nat) (b k : Int), k + m = 4 * w 0 → m < n → 0 ≤ k → -1 ≤ b → F_Tb_strongest_13 t n V b (if b = -1 then 0 else wPn w b) k σ = some (wSn (wLg w) (lPw w) b k m, σ)
  | m, 0, _, _, _, h1, _, _ => absurd h1 (Nat.not_lt_zero m)
  | 0, n + 1, b, k, h0, h1, h2, h3 => by
    have a := hw.n
    rw [F_Tb_strongest_13, ed_cardCount hs, zt_ckI ⟨by unfold zt_in; omega, by unfold zt_in; omega⟩, if_neg (by omega), wSn]
  | m + 1, n + 1, b, k, h0, h1, h2, h3 => by
    have a := hw.n
    have ih := ec_strongest_13 hs hw h hp hV m n
    have pk := wPn_lt hw (c := k)
    have pk0 := wPn_pos hw hp (c := k)
    have pb := wPn_lt hw (c := b)
    have hk := hV k h2 (by omega)
    rw [decide_eq_true (show k < 4 * w 0 by omega), Bool.true_and] at hk
    rw [F_Tb_strongest_13, ed_cardCount hs, zt_ckI ⟨by unfold zt_in; omega, by unfold zt_in; omega⟩, if_pos (by omega), ed_powerOf h.1 hs hw ⟨h2, by omega⟩, wSn]
    unfold F_Tb_strongest_63
    have ih1 := ih k (k + 1) (by omega) (by omega) (by omega) (by omega)
    have ih2 := ih b (k + 1) (by omega) (by omega) (by omega) (by omega)
    rw [if_neg (show ¬ k = -1 by omega)] at ih1
    have hm : 0 ≤ (if b = -1 then (0 : Int) else wPn w b) ∧ (if b = -1 then (0 : Int) else wPn w b) ≤ 43 := by split <;> omega
    by_cases hl : wLg w k = true
    · rw [be_has_t ⟨h2, by omega⟩ (by rw [hk]; exact hl), zt_ckI (by decide), if_neg (by decide), zt_ckI ⟨by unfold zt_in; omega, by unfold zt_in; omega⟩]
      by_cases hb : b = -1
      · rw [if_pos hb, if_pos pk0, if_pos ⟨hl, Or.inl hb⟩]
        exact ih1
      · rw [if_neg hb] at ih2 ⊢
        by_cases hz : wPn w b < wPn w k
        · rw [if_pos hz, if_pos ⟨hl, Or.inr (decide_eq_true hz)⟩]
          exact ih1
        · rw [if_neg hz, if_neg (fun z => by rcases z.2 with z | z; exact hb z; exact hz (of_decide_eq_true z))]
          exact ih2
    · rw [be_has_f ⟨h2, by omega⟩ (by rw [hk]; exact hl), zt_ckI (by decide), if_pos rfl, if_neg (show ¬ (wLg w k = true ∧ (b = -1 ∨ lPw w k b = true)) from fun z => hl z.1)]
      exact ih2
theorem ec_hasLess {x y : Int} (hs : SUw σ (zt_su t) w) (hw : RI w) (h : TB σ t w) (hx : 0 ≤ x ∧ x < 4 * w 0) (hy : y = -1 ∨ (0 ≤ y ∧ y < 4 * w 0)) : F_Tb_hasLessPower t x y σ = some (if y = -1 ∨ wPn w x < wPn w y then 1 else 0, σ) := by
  have a := hw.n
  have px := wPn_lt hw (c := x)
  have py := wPn_lt hw (c := y)
  unfold F_Tb_hasLessPower F_Tb_hasLessPower_32 F_Tb_hasLessPower_37
  by_cases h1 : y = -1
  · rw [zt_ckI (by unfold zt_in; omega), if_pos h1, zt_ckI (Or.inr rfl), if_pos (Or.inl h1)]
  · rw [zt_ckI (by unfold zt_in; omega), if_neg h1, ed_powerOf h.1 hs hw hx, ed_powerOf h.1 hs hw (by omega), zt_ckI ⟨by unfold zt_in; omega, by unfold zt_in; omega⟩]
    by_cases h2 : wPn w x < wPn w y
    · rw [if_pos h2, zt_ckI (Or.inr rfl), if_pos (Or.inr h2)]
    · rw [if_neg h2, zt_ckI (Or.inl rfl), if_neg (by omega)]
theorem ec_cheapest_66 (hs : SUw σ (zt_su t) w) (hw : RI w) {V : Int64} {r : Int64 → Int → Int → Int → zt_S → Option (Int × zt_S)} {T Y k : Int} (hk : 0 ≤ k ∧ k < 4 * w 0) (hY : Y = -1 ∨ (0 ≤ Y ∧ Y < 4 * w 0)) : F_Tb_cheapest_66 t r V T Y k σ = r V T (if Y = -1 ∨ wR w k < wR w Y then k else Y) (k + 1) σ := by
  have a := hw.n
  have px := wR_lt hw (c := k)
  have py := wR_lt hw (c := Y)
  unfold F_Tb_cheapest_66 F_Tb_cheapest_93 F_Tb_cheapest_97
  by_cases h1 : Y = -1
  · rw [zt_ckI (by unfold zt_in; omega), if_pos h1, if_pos (Or.inl h1)]
  · rw [zt_ckI (by unfold zt_in; omega), if_neg h1, ed_rankOf hs hw ⟨hk.1, by omega⟩, ed_rankOf hs hw ⟨by omega, by omega⟩, zt_ckI ⟨by unfold zt_in; omega, by unfold zt_in; omega⟩]
    by_cases h2 : wR w k < wR w Y
    · rw [if_pos h2, if_pos (Or.inr h2)]
    · rw [if_neg h2, if_neg (by omega)]
theorem ec_cheapest_13 (hs : SUw σ (zt_su t) w) (hw : RI w) (h : TB σ t w) {V : Int64} (hV : ∀ c, 0 ≤ c → c < 64 → hb V c = (decide (c < 4 * w 0) && wLg w c)) : ∀ (m n : Nat) (T Y k : Int), k + m = 4 * w 0 → m < n → 0 ≤ k → (T = -1 ∨ (0 ≤ T ∧ T < 4 * w 0)) → (Y = -1 ∨ (0 ≤ Y ∧ Y < 4 * w 0)) → F_Tb_cheapest_13 t n V T Y k σ = some (if wSn (pTk w) (lPl w) T k m = -1 then wSn (wLg w) (lRk w) Y k m else wSn (pTk w) (lPl w) T k m, σ)
  | m, 0, _, _, _, _, h1, _, _, _ => absurd h1 (Nat.not_lt_zero m)
  | 0, n + 1, T, Y, k, h0, h1, h2, h3, h4 => by
    have a := hw.n
    rw [F_Tb_cheapest_13, ed_cardCount hs, zt_ckI ⟨by unfold zt_in; omega, by unfold zt_in; omega⟩, if_neg (by omega), wSn, wSn]
    unfold F_Tb_cheapest_103 F_Tb_cheapest_114
    rw [zt_ckI (by unfold zt_in; omega)]
    split <;> rfl
  | m + 1, n + 1, T, Y, k, h0, h1, h2, h3, h4 => by
    have a := hw.n
    have ih := ec_cheapest_13 hs hw h hV m n
    have hk := hV k h2 (by omega)
    rw [decide_eq_true (show k < 4 * w 0 by omega), Bool.true_and] at hk
    rw [F_Tb_cheapest_13, ed_cardCount hs, zt_ckI ⟨by unfold zt_in; omega, by unfold zt_in; omega⟩, if_pos (by omega), wSn, wSn]
    by_cases hl : wLg w k = true
    · rw [be_has_t ⟨h2, by omega⟩ (by rw [hk]; exact hl), zt_ckI (by decide), if_neg (by decide), ec_wouldBeBest h.1 hs hw ⟨h2, by omega⟩, zt_bdS]
      have ey : (if wLg w k = true ∧ (Y = -1 ∨ lRk w k Y = true) then k else Y) = (if Y = -1 ∨ wR w k < wR w Y then k else Y) := by
        unfold lRk
        simp only [hl, true_and, decide_eq_true_eq]
      have hY' : (if Y = -1 ∨ wR w k < wR w Y then k else Y) = -1 ∨ (0 ≤ (if Y = -1 ∨ wR w k < wR w Y then k else Y) ∧ (if Y = -1 ∨ wR w k < wR w Y then k else Y) < 4 * w 0) := by
        split <;> omega
      rw [ey]
      by_cases hb : wBt w k = true
      · rw [if_pos hb, zt_ckI (by decide), if_neg (by decide), ec_hasLess hs hw h ⟨h2, by omega⟩ h3, zt_bdS]
        by_cases hz : T = -1 ∨ wPn w k < wPn w T
        · rw [if_pos hz, zt_ckI (by decide), if_neg (by decide), ec_cheapest_66 hs hw ⟨h2, by omega⟩ h4, if_pos (show pTk w k = true ∧ (T = -1 ∨ lPl w k T = true) from ⟨by unfold pTk; rw [hl, hb]; rfl, by unfold lPl; simpa using hz⟩)]
          exact ih _ _ _ (by omega) (by omega) (by omega) (by omega) hY'
        · rw [if_neg hz, zt_ckI (by decide), if_pos rfl, ec_cheapest_66 hs hw ⟨h2, by omega⟩ h4, if_neg (show ¬ (pTk w k = true ∧ (T = -1 ∨ lPl w k T = true)) from fun z => hz (by have := z.2; unfold lPl at this; simpa using this))]
          exact ih _ _ _ (by omega) (by omega) (by omega) h3 hY'
      · rw [if_neg hb, zt_ckI (by decide), if_pos rfl, ec_cheapest_66 hs hw ⟨h2, by omega⟩ h4, if_neg (show ¬ (pTk w k = true ∧ (T = -1 ∨ lPl w k T = true)) from fun z => hb (by have := z.1; unfold pTk at this; rw [Bool.and_eq_true] at this; exact this.2))]
        exact ih _ _ _ (by omega) (by omega) (by omega) h3 hY'
    · rw [be_has_f ⟨h2, by omega⟩ (by rw [hk]; exact hl), zt_ckI (by decide), if_pos rfl, if_neg (show ¬ (pTk w k = true ∧ (T = -1 ∨ lPl w k T = true)) from fun z => hl (by have := z.1; unfold pTk at this; rw [Bool.and_eq_true] at this; exact this.1)), if_neg (show ¬ (wLg w k = true ∧ (Y = -1 ∨ lRk w k Y = true)) from fun z => hl z.1)]
      unfold F_Tb_cheapest_97
      exact ih _ _ _ (by omega) (by omega) (by omega) h3 h4
theorem ec_choice (hs : SUw σ (zt_su t) w) (hw : RI w) (h : TB σ t w) : F_Tb_choice t σ = some (wCh w, σ) := by
  have a := hw.n
  have b := hw.wpl
  have k2 := h.1.1.2.2.1
  obtain ⟨V, g1, g2⟩ := ec_allowedCards hs hw h
  unfold F_Tb_choice F_Tb_choice_21 wCh
  rw [k2, zt_ckI (by unfold zt_in; omega)]
  by_cases hp : wPl w = 0
  · have e := ec_strongest_13 hs hw h hp g2 (4 * w 0).toNat zt_N (-1) 0 (by omega) (zN (by omega)) (by omega) (by omega)
    rw [if_pos rfl] at e
    rw [if_pos hp, if_pos hp]
    unfold F_Tb_strongest
    rw [g1, zt_bdS, e, zt_bdS]
  · rw [if_neg hp, if_neg hp]
    unfold F_Tb_cheapest
    rw [g1, zt_bdS, ec_cheapest_13 hs hw h g2 (4 * w 0).toNat zt_N (-1) (-1) 0 (by omega) (zN (by omega)) (by omega) (Or.inl rfl) (Or.inl rfl), zt_bdS]
end CH
section CM
variable {σ : zt_S}
theorem em_autoLead_9 (h : RI (σ.1 164)) {p : Int} (hp : -5 ≤ p ∧ p < 100) : ∀ (m n : Nat) (b k : Int), k + m = 4 * σ.1 164 0 → m < n → 0 ≤ k → (b = -1 ∨ (0 ≤ b ∧ b < 4 * σ.1 164 0)) → F_M_autoLead_9 n p b k σ = some (wSn (fun c => decide (wHd (σ.1 164) c = p)) (lPw (σ.1 164)) b k m, σ)
  | m, 0, _, _, _, h1, _, _ => absurd h1 (Nat.not_lt_zero m)
  | 0, n + 1, b, k, h0, h1, h2, h3 => by
    have a := h.n
    rw [F_M_autoLead_9, em_cards, zt_bdS, zt_ckI ⟨by unfold zt_in; omega, by unfold zt_in; omega⟩, if_neg (by omega), wSn]
  | m + 1, n + 1, b, k, h0, h1, h2, h3 => by
    have a := h.n
    have hd := h.hd h2 (c := k) (by omega)
    have ih := em_autoLead_9 h hp m n
    have pk := wPn_lt h (c := k)
    have pb := wPn_lt h (c := b)
    rw [F_M_autoLead_9, em_cards, zt_bdS, zt_ckI ⟨by unfold zt_in; omega, by unfold zt_in; omega⟩, if_pos (by omega), em_holderOf ⟨h2, by omega⟩, zt_bdS, zt_ckI ⟨by unfold zt_in; omega, by unfold zt_in; omega⟩, wSn]
    unfold F_M_autoLead_44 F_M_autoLead_46
    by_cases hk : wHd (σ.1 164) k = p
    · rw [if_pos hk, zt_ckI (by unfold zt_in; omega)]
      by_cases hb : b = -1
      · rw [if_pos hb, if_pos ⟨decide_eq_true hk, Or.inl hb⟩]
        exact ih _ _ (by omega) (by omega) (by omega) (by omega)
      · rw [if_neg hb, eb_powerNow h ⟨h2, by omega⟩, eb_powerNow h (by omega), zt_ckI ⟨by unfold zt_in; omega, by unfold zt_in; omega⟩]
        by_cases hz : wPn (σ.1 164) b < wPn (σ.1 164) k
        · rw [if_pos hz, if_pos ⟨decide_eq_true hk, Or.inr (decide_eq_true hz)⟩]
          exact ih _ _ (by omega) (by omega) (by omega) (by omega)
        · rw [if_neg hz, if_neg (fun z => by rcases z.2 with z | z; exact hb z; exact hz (of_decide_eq_true z))]
          exact ih _ _ (by omega) (by omega) (by omega) h3
    · rw [if_neg hk, if_neg (fun z => hk (of_decide_eq_true z.1))]
      exact ih _ _ (by omega) (by omega) (by omega) h3
theorem em_autoFollow_63 (h : RI (σ.1 164)) : ∀ (m n : Nat) (b k : Int), k + m = 4 * σ.1 164 0 → m < n → 0 ≤ k → (b = -1 ∨ (0 ≤ b ∧ b < 4 * σ.1 164 0)) → F_M_autoFollow_63 n b k σ = some (wSn (wLg (σ.1 164)) (lRk (σ.1 164)) b k m, σ)
  | m, 0, _, _, _, h1, _, _ => absurd h1 (Nat.not_lt_zero m)
  | 0, n + 1, b, k, h0, h1, h2, h3 => by
    have a := h.n
    rw [F_M_autoFollow_63, em_cards, zt_bdS, zt_ckI ⟨by unfold zt_in; omega, by unfold zt_in; omega⟩, if_neg (by omega), wSn]
  | m + 1, n + 1, b, k, h0, h1, h2, h3 => by
    have a := h.n
    have ih := em_autoFollow_63 h m n
    have pk := wR_lt h (c := k)
    have pb := wR_lt h (c := b)
    rw [F_M_autoFollow_63, em_cards, zt_bdS, zt_ckI ⟨by unfold zt_in; omega, by unfold zt_in; omega⟩, if_pos (by omega), em_isLegalNow h ⟨h2, by omega⟩, zt_bdS, wSn]
    unfold F_M_autoFollow_97 F_M_autoFollow_99
    by_cases hk : wLg (σ.1 164) k = true
    · rw [if_pos hk, zt_ckI (by decide), if_neg (by decide), zt_ckI (by unfold zt_in; omega)]
      by_cases hb : b = -1
      · rw [if_pos hb, if_pos ⟨hk, Or.inl hb⟩]
        exact ih _ _ (by omega) (by omega) (by omega) (by omega)
      · rw [if_neg hb, eb_rankOf h ⟨h2, by omega⟩, eb_rankOf h ⟨by omega, by omega⟩, zt_ckI ⟨by unfold zt_in; omega, by unfold zt_in; omega⟩]
        by_cases hz : wR (σ.1 164) k < wR (σ.1 164) b
        · rw [if_pos hz, if_pos ⟨hk, Or.inr (decide_eq_true hz)⟩]
          exact ih _ _ (by omega) (by omega) (by omega) (by omega)
        · rw [if_neg hz, if_neg (fun z => by rcases z.2 with z | z; exact hb z; exact hz (of_decide_eq_true z))]
          exact ih _ _ (by omega) (by omega) (by omega) h3
    · rw [if_neg hk, zt_ckI (by decide), if_pos rfl, if_neg (fun z => hk z.1)]
      exact ih _ _ (by omega) (by omega) (by omega) h3
theorem em_autoFollow_4 (h : RI (σ.1 164)) : ∀ (m n : Nat) (b k : Int), k + m = 4 * σ.1 164 0 → m < n → 0 ≤ k → (b = -1 ∨ (0 ≤ b ∧ b < 4 * σ.1 164 0)) → F_M_autoFollow_4 n b k σ = F_M_autoFollow_54 (wSn (pTk (σ.1 164)) (lPl (σ.1 164)) b k m) σ
  | m, 0, _, _, _, h1, _, _ => absurd h1 (Nat.not_lt_zero m)
  | 0, n + 1, b, k, h0, h1, h2, h3 => by
    have a := h.n
    rw [F_M_autoFollow_4, em_cards, zt_bdS, zt_ckI ⟨by unfold zt_in; omega, by unfold zt_in; omega⟩, if_neg (by omega), wSn]
  | m + 1, n + 1, b, k, h0, h1, h2, h3 => by
    have a := h.n
    have ih := em_autoFollow_4 h m n
    have pk := wPn_lt h (c := k)
    have pb := wPn_lt h (c := b)
    rw [F_M_autoFollow_4, em_cards, zt_bdS, zt_ckI ⟨by unfold zt_in; omega, by unfold zt_in; omega⟩, if_pos (by omega), em_isLegalNow h ⟨h2, by omega⟩, zt_bdS, wSn]
    unfold F_M_autoFollow_46 F_M_autoFollow_48
    by_cases hk : wLg (σ.1 164) k = true
    · rw [if_pos hk, zt_ckI (by decide), if_neg (by decide), em_isBetter h ⟨h2, by omega⟩, zt_bdS]
      by_cases hb : wBt (σ.1 164) k = true
      · have hP : pTk (σ.1 164) k = true := by unfold pTk; rw [hk, hb]; rfl
        rw [if_pos hb, zt_ckI (by decide), if_neg (by decide), zt_ckI (by unfold zt_in; omega)]
        by_cases hn : b = -1
        · rw [if_pos hn, if_pos ⟨hP, Or.inl hn⟩]
          exact ih _ _ (by omega) (by omega) (by omega) (by omega)
        · rw [if_neg hn, eb_powerNow h ⟨h2, by omega⟩, eb_powerNow h (by omega), zt_ckI ⟨by unfold zt_in; omega, by unfold zt_in; omega⟩]
          by_cases hz : wPn (σ.1 164) k < wPn (σ.1 164) b
          · rw [if_pos hz, if_pos ⟨hP, Or.inr (decide_eq_true hz)⟩]
            exact ih _ _ (by omega) (by omega) (by omega) (by omega)
          · rw [if_neg hz, if_neg (fun z => by rcases z.2 with z | z; exact hn z; exact hz (of_decide_eq_true z))]
            exact ih _ _ (by omega) (by omega) (by omega) h3
      · rw [if_neg hb, zt_ckI (by decide), if_pos rfl, if_neg (fun z => hb (by have := z.1; unfold pTk at this; rw [Bool.and_eq_true] at this; exact this.2))]
        exact ih _ _ (by omega) (by omega) (by omega) h3
    · rw [if_neg hk, zt_ckI (by decide), if_pos rfl, if_neg (fun z => hk (by have := z.1; unfold pTk at this; rw [Bool.and_eq_true] at this; exact this.1))]
      exact ih _ _ (by omega) (by omega) (by omega) h3
theorem em_autoLead (h : RI (σ.1 164)) (ho : wOv (σ.1 164) = false) (hp : wPl (σ.1 164) = 0) : F_M_autoLead σ = some (wCh (σ.1 164), σ) := by
  have a := h.n
  have tl := wTn_lt h
  have tl2 := tl.2.2 ho
  unfold F_M_autoLead wCh
  rw [eb_turn h, em_autoLead_9 h ⟨by omega, by omega⟩ (4 * σ.1 164 0).toNat zt_N (-1) 0 (by omega) (zN (by omega)) (by omega) (Or.inl rfl), if_pos hp, wSn_congr (Q := wLg (σ.1 164)) _ _ _ (fun c h0 h1 => by
    unfold wLg wMp
    rw [if_pos (Or.inr hp), Bool.and_true, decide_eq_true (show ¬ wTn (σ.1 164) = -1 by omega), Bool.true_and])]
theorem em_autoFollow (h : RI (σ.1 164)) (hp : ¬ wPl (σ.1 164) = 0) : F_M_autoFollow σ = some (wCh (σ.1 164), σ) := by
  have a := h.n
  have e := wSn_in (P := pTk (σ.1 164)) (L := lPl (σ.1 164)) (4 * σ.1 164 0).toNat (-1) 0 (by omega) (Or.inl rfl)
  unfold F_M_autoFollow wCh
  rw [em_autoFollow_4 h (4 * σ.1 164 0).toNat zt_N (-1) 0 (by omega) (zN (by omega)) (by omega) (Or.inl rfl), if_neg hp]
  generalize wSn (pTk (σ.1 164)) (lPl (σ.1 164)) (-1) 0 (4 * σ.1 164 0).toNat = x at e
  unfold F_M_autoFollow_54
  rw [zt_ckI (by unfold zt_in; omega)]
  by_cases hx : x = -1
  · rw [if_pos hx, if_pos hx, hx, em_autoFollow_63 h (4 * σ.1 164 0).toNat zt_N (-1) 0 (by omega) (zN (by omega)) (by omega) (Or.inl rfl)]
  · rw [if_neg hx, if_neg hx]
end CM
