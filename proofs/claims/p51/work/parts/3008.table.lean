/-! A TABLE of the class stands for a row: what it tells -/
def wLk (w : Int → Int) (p : Int) : Int := w (24 + 4 * p) + 2 * w (24 + 4 * p + 1) + 4 * w (24 + 4 * p + 2) + 8 * w (24 + 4 * p + 3)
def wPy (w : Int → Int) (c : Int) : Bool := decide (0 < cn (fun k => decide (w (92 + k) = c)) 0 (w 12).toNat)
def TB (σ : zt_S) (t : Nat) (w : Int → Int) : Prop :=
  TK σ (t + 1) w ∧
  (∀ p c, 0 ≤ p → p < 4 → 0 ≤ c → c < 64 → hb (σ.2.1 (t + 2) p) c = decide (c < 4 * w 0 ∧ wHd w c = p)) ∧
  (∀ p, 0 ≤ p → p < 4 → σ.1 (t + 3) p = w (16 + p) ∧ σ.1 (t + 4) p = wTk w p ∧ σ.1 (t + 5) p = wLk w p ∧ σ.1 (t + 6) p = w (20 + p)) ∧
  (∀ k, 0 ≤ k → k < w 12 → σ.1 (t + 7) k = w (92 + k) ∧ σ.1 (t + 8) k = w (144 + k)) ∧
  (∀ k, 0 ≤ k → k < 6 * w 13 → σ.1 (t + 9) k = w (196 + k)) ∧
  (∀ c, 0 ≤ c → c < 64 → hb (σ.2.1 t 10) c = wPy w c) ∧
  (σ.1 t 11 = w 3 ∧ σ.1 t 12 = w 6 ∧ σ.1 t 13 = w 7 ∧ σ.1 t 14 = w 4 ∧ σ.1 t 15 = w 8 ∧ σ.1 t 16 = w 12 ∧ σ.1 t 17 = w 13 ∧ σ.1 t 18 = w 14)
section EC
variable {σ : zt_S} {t : Nat} {w : Int → Int}
theorem e_handOf {p : Int} (hp : 0 ≤ p ∧ p < 4) : F_Tb_handOf t p σ = some (σ.2.1 (t + 2) p, σ) := by
  unfold F_Tb_handOf
  simp (disch := first | omega | (unfold zt_in; omega)) only [↓zt_ckI, ↓if_pos, ↓if_neg, if_true, if_false, zt_letS, zt_ckI, if_pos, if_neg, up_s, up_o, up_2, F_Tb_handOf_23]
theorem e_setHand {p : Int} {v : Int64} (hp : 0 ≤ p ∧ p < 4) : F_Tb_setHand t p v σ = some ((), zt_uL σ (t + 2) p v) := by
  unfold F_Tb_setHand
  simp (disch := first | omega | (unfold zt_in; omega)) only [↓zt_ckI, ↓if_pos, ↓if_neg, if_true, if_false, zt_letS, zt_ckI, if_pos, if_neg, up_s, up_o, up_2, F_Tb_setHand_20]
theorem ec_isOver (hs : SUw σ (zt_su t) w) (hw : RI w) (h : TB σ t w) : F_Tb_isOver t σ = some (if wOv w = true then 1 else 0, σ) := by
  have a := hw.n
  have b := hw.pl
  have c := hw.p12
  have e := h.2.2.2.2.2.2.2.2.2.2.2.1
  unfold F_Tb_isOver F_Tb_isOver_19 wOv
  rw [ec_cardsOfHands hs, zt_bdS, e]
  by_cases h1 : w 12 = w 1 * w 2
  · simp (disch := first | omega | (unfold zt_in; omega)) only [↓zt_ckI, ↓if_pos, ↓if_neg, if_true, if_false, zt_letS, zt_ckI, if_pos, if_neg, up_s, up_o, up_2, h1, decide_true, or_true, true_or]
  · simp (disch := first | omega | (unfold zt_in; omega)) only [↓zt_ckI, ↓if_pos, ↓if_neg, if_true, if_false, zt_letS, zt_ckI, if_pos, if_neg, up_s, up_o, up_2, h1, decide_false, Bool.false_eq_true, true_or]
theorem be_handOf {β : Type} {p : Int} (hp : 0 ≤ p ∧ p < 4) {K : _ → zt_S → Option β} : zt_bd (F_Tb_handOf t p σ) K = K (σ.2.1 (t + 2) p) σ := by rw [e_handOf hp]; rfl
theorem be_setHand {β : Type} {p : Int} {v : Int64} (hp : 0 ≤ p ∧ p < 4) {K : Unit → zt_S → Option β} : zt_bd (F_Tb_setHand t p v σ) K = K () (zt_uL σ (t + 2) p v) := by rw [e_setHand hp]; rfl
theorem ed_isOver_t {β : Type} (hs : SUw σ (zt_su t) w) (hw : RI w) (h : TB σ t w) (hB : wOv w = true) {K : Int → zt_S → Option β} : zt_bd (F_Tb_isOver t σ) K = K 1 σ := by rw [ec_isOver hs hw h]; rw [if_pos hB]; rfl
theorem ed_isOver_f {β : Type} (hs : SUw σ (zt_su t) w) (hw : RI w) (h : TB σ t w) (hB : ¬ wOv w = true) {K : Int → zt_S → Option β} : zt_bd (F_Tb_isOver t σ) K = K 0 σ := by rw [ec_isOver hs hw h]; rw [if_neg hB]; rfl
theorem ec_allowedCards (hs : SUw σ (zt_su t) w) (hw : RI w) (h : TB σ t w) : ∃ v, F_Tb_allowedCards t σ = some (v, σ) ∧ ∀ c, 0 ≤ c → c < 64 → hb v c = (decide (c < 4 * w 0) && wLg w c) := by
  have a := hw.n
  have b := wTn_lt hw
  have b2 := hw.wpl
  have e := h.2.2.2.2.2.2.1
  have k1 := h.1.1.2.1
  unfold F_Tb_allowedCards F_Tb_allowedCards_37
  by_cases h1 : wOv w = true
  · refine ⟨0, ?_, fun c h2 h3 => ?_⟩
    · simp (disch := first | omega | (unfold zt_in; omega)) only [↓zt_ckI, ↓if_pos, ↓if_neg, if_true, if_false, zt_letS, zt_ckI, if_pos, if_neg, up_s, up_o, up_2, ↓ed_isOver_t hs hw h h1]
    · rw [hb_0]
      unfold wLg wTn
      simp [h1]
  · have b3 := b.2.2 (Bool.eq_false_iff.mpr h1)
    have e9 : wTn w = (w 9 + wPl w) % w 1 := by unfold wTn; rw [if_neg h1]
    rw [e9] at b b3
    obtain ⟨v, g1, g2⟩ := ec_allowed (k := t + 1) (s := zt_su t) (H := σ.2.1 (t + 2) ((w 9 + wPl w) % w 1)) (p := (w 9 + wPl w) % w 1) h.1 hs hw ⟨b3, by omega⟩ (fun c h2 h3 => h.2.1 _ c b3 (by omega) h2 h3)
    refine ⟨v, ?_, fun c h2 h3 => ?_⟩
    · simp (disch := first | omega | (unfold zt_in; omega)) only [↓zt_ckI, ↓if_pos, ↓if_neg, if_true, if_false, zt_letS, zt_ckI, if_pos, if_neg, up_s, up_o, up_2, ↓ed_isOver_f hs hw h h1, k1, ↓be_handOf, e]
      rw [g1]
      rfl
    · rw [g2 c h2 h3]
      unfold wLg
      rw [e9]
      by_cases y1 : c < 4 * w 0 <;> by_cases y2 : wHd w c = (w 9 + wPl w) % w 1 <;> simp [y1, y2] <;> omega
theorem ec_holderOf_2 {c : Int} (hs : SUw σ (zt_su t) w) (hw : RI w) (h : TB σ t w) (hc : 0 ≤ c ∧ c < 4 * w 0) : ∀ (m n : Nat) (p : Int), p + m = w 1 → m < n → 0 ≤ p → (wHd w c = -1 ∨ p ≤ wHd w c) → F_Tb_holderOf_2 t n c p σ = some (wHd w c, σ)
  | m, 0, _, _, h1, _, _ => absurd h1 (Nat.not_lt_zero m)
  | 0, n + 1, p, h0, h1, h2, h3 => by
    have a := hw.n
    have d := hw.hd hc.1 (by omega)
    have e := hs.2.1
    rw [F_Tb_holderOf_2]
    have : wHd w c = -1 := by omega
    simp (disch := first | omega | (unfold zt_in; omega)) only [↓zt_ckI, ↓if_pos, ↓if_neg, if_true, if_false, zt_letS, zt_ckI, if_pos, if_neg, up_s, up_o, up_2, this]
  | m + 1, n + 1, p, h0, h1, h2, h3 => by
    have a := hw.n
    have d := hw.hd hc.1 (by omega)
    have e := hs.2.1
    have ih := ec_holderOf_2 hs hw h hc m n (p + 1) (by omega) (by omega) (by omega)
    have g := h.2.1 p c h2 (by omega) hc.1 (by omega)
    rw [F_Tb_holderOf_2]
    by_cases h4 : wHd w c = p
    · have g2 : hb (σ.2.1 (t + 2) p) c = true := by rw [g]; exact decide_eq_true ⟨hc.2, h4⟩
      simp (disch := first | omega | (unfold zt_in; omega)) only [↓zt_ckI, ↓if_pos, ↓if_neg, if_true, if_false, zt_letS, zt_ckI, if_pos, if_neg, up_s, up_o, up_2, ↓be_handOf, ↓be_has_t (show 0 ≤ c ∧ c < 64 by omega) g2, h4]
    · have g2 : ¬ hb (σ.2.1 (t + 2) p) c = true := by rw [g, decide_eq_true_eq]; exact fun z => h4 z.2
      simp (disch := first | omega | (unfold zt_in; omega)) only [↓zt_ckI, ↓if_pos, ↓if_neg, if_true, if_false, zt_letS, zt_ckI, if_pos, if_neg, up_s, up_o, up_2, ↓be_handOf, ↓be_has_f (show 0 ≤ c ∧ c < 64 by omega) g2]
      exact ih (by omega)
theorem ec_holderOf {c : Int} (hs : SUw σ (zt_su t) w) (hw : RI w) (h : TB σ t w) (hc : 0 ≤ c ∧ c < 4 * w 0) : F_Tb_holderOf t c σ = some (wHd w c, σ) := by
  have a := hw.n
  have d := hw.hd hc.1 (by omega)
  unfold F_Tb_holderOf
  exact ec_holderOf_2 hs hw h hc (w 1).toNat _ 0 (by omega) (zN (by omega)) (by omega) (by omega)
theorem ec_resultOf {p : Int} (hw : RI w) (h : TB σ t w) (hp : 0 ≤ p ∧ p < 4) : F_Tb_resultOf t p σ = some (wRs w p, σ) := by
  have a := wTk_lt hw (p := p)
  have b := hw.2.2.2.1 p hp.1 hp.2
  obtain ⟨e1, e2, e3, e4⟩ := h.2.2.1 p hp.1 hp.2
  unfold F_Tb_resultOf F_Tb_resultOf_44 wRs
  by_cases h1 : w (16 + p) = -1
  · simp (disch := first | omega | (unfold zt_in; omega)) only [↓zt_ckI, ↓if_pos, ↓if_neg, if_true, if_false, zt_letS, zt_ckI, if_pos, if_neg, up_s, up_o, up_2, ↓be_at, e1, e2]
  · by_cases h2 : w (16 + p) = wTk w p
    · simp (disch := first | omega | (unfold zt_in; omega)) only [↓zt_ckI, ↓if_pos, ↓if_neg, if_true, if_false, zt_letS, zt_ckI, if_pos, if_neg, up_s, up_o, up_2, ↓be_at, e1, e2]
    · by_cases h3 : wTk w p < w (16 + p)
      · simp (disch := first | omega | (unfold zt_in; omega)) only [↓zt_ckI, ↓if_pos, ↓if_neg, if_true, if_false, zt_letS, zt_ckI, if_pos, if_neg, up_s, up_o, up_2, ↓be_at, e1, e2]
        rw [Int.neg_sub]
      · simp (disch := first | omega | (unfold zt_in; omega)) only [↓zt_ckI, ↓if_pos, ↓if_neg, if_true, if_false, zt_letS, zt_ckI, if_pos, if_neg, up_s, up_o, up_2, ↓be_at, e1, e2]
        have : -(0 - (w (16 + p) - wTk w p)) = w (16 + p) - wTk w p := by omega
        rw [this]
theorem lk_bit : ∀ (v : Nat), v < 16 → ∀ (s : Nat), s < 4 → zt_and (zt_shr (v : Int) (s : Int)) 1 = ((v / 2 ^ s % 2 : Nat) : Int) := by decide +kernel
theorem lk_or : ∀ (v : Nat), v < 16 → ∀ (s : Nat), s < 4 → zt_or (v : Int) (zt_shl 1 (s : Int)) = (if v / 2 ^ s % 2 = 1 then (v : Int) else ((v + 2 ^ s : Nat) : Int)) := by decide +kernel
theorem RI.lk (hw : RI w) {p : Int} (hp : 0 ≤ p ∧ p < 4) : (0 ≤ w (24 + 4 * p) ∧ w (24 + 4 * p) ≤ 1) ∧ (0 ≤ w (24 + 4 * p + 1) ∧ w (24 + 4 * p + 1) ≤ 1) ∧ (0 ≤ w (24 + 4 * p + 2) ∧ w (24 + 4 * p + 2) ≤ 1) ∧ (0 ≤ w (24 + 4 * p + 3) ∧ w (24 + 4 * p + 3) ≤ 1) := by
  have a := hw.2.2.2.2.2.1
  have a0 := a (4 * p) (by omega) (by omega)
  have a1 := a (4 * p + 1) (by omega) (by omega)
  have a2 := a (4 * p + 2) (by omega) (by omega)
  have a3 := a (4 * p + 3) (by omega) (by omega)
  rw [← Int.add_assoc] at a1 a2 a3
  exact ⟨a0, a1, a2, a3⟩
theorem lk_get (hw : RI w) {p s : Int} (hp : 0 ≤ p ∧ p < 4) (hs : 0 ≤ s ∧ s < 4) : zt_and (zt_shr (wLk w p) s) 1 = w (24 + 4 * p + s) := by
  obtain ⟨⟨a0, a1⟩, ⟨b0, b1⟩, ⟨c0, c1⟩, ⟨d0, d1⟩⟩ := hw.lk hp
  have h0 : 0 ≤ wLk w p ∧ wLk w p < 16 := by unfold wLk; omega
  obtain ⟨v, hv⟩ := Int.eq_ofNat_of_zero_le h0.1
  obtain ⟨n, rfl⟩ := Int.eq_ofNat_of_zero_le hs.1
  rw [hv, lk_bit v (by omega) n (by omega)]
  unfold wLk at hv
  have hn : n = 0 ∨ n = 1 ∨ n = 2 ∨ n = 3 := by omega
  rcases hn with rfl | rfl | rfl | rfl
  · simp; omega
  · simp; omega
  · simp; omega
  · simp; omega
theorem ec_isKnownToLack {p s : Int} (hw : RI w) (h : TB σ t w) (hp : 0 ≤ p ∧ p < 4) (hs : 0 ≤ s ∧ s < 4) : F_Tb_isKnownToLack t p s σ = some (w (24 + 4 * p + s), σ) := by
  obtain ⟨e1, e2, e3, e4⟩ := h.2.2.1 p hp.1 hp.2
  have a := hw.2.2.2.2.2.1 (4 * p + s) (by omega) (by omega)
  rw [← Int.add_assoc] at a
  unfold F_Tb_isKnownToLack F_Tb_isKnownToLack_20
  rw [be_at (by omega) (by omega), e3, lk_get hw hp hs]
  by_cases h1 : w (24 + 4 * p + s) = 0
  · simp (disch := first | omega | (unfold zt_in; omega)) only [↓zt_ckI, ↓if_pos, ↓if_neg, if_true, if_false, zt_letS, zt_ckI, if_pos, if_neg, up_s, up_o, up_2, h1, true_or]
  · have h2 : w (24 + 4 * p + s) = 1 := by omega
    rw [h2]
    rfl
theorem ed_holderOf {β : Type} {c : Int} (hs : SUw σ (zt_su t) w) (hw : RI w) (h : TB σ t w) (hc : 0 ≤ c ∧ c < 4 * w 0) {K : _ → zt_S → Option β} : zt_bd (F_Tb_holderOf t c σ) K = K (wHd w c) σ := by rw [ec_holderOf hs hw h hc]; rfl
theorem ed_resultOf {β : Type} {p : Int} (hw : RI w) (h : TB σ t w) (hp : 0 ≤ p ∧ p < 4) {K : _ → zt_S → Option β} : zt_bd (F_Tb_resultOf t p σ) K = K (wRs w p) σ := by rw [ec_resultOf hw h hp]; rfl
theorem ed_isKnownToLack {β : Type} {p s : Int} (hw : RI w) (h : TB σ t w) (hp : 0 ≤ p ∧ p < 4) (hs : 0 ≤ s ∧ s < 4) {K : _ → zt_S → Option β} : zt_bd (F_Tb_isKnownToLack t p s σ) K = K (w (24 + 4 * p + s)) σ := by rw [ec_isKnownToLack hw h hp hs]; rfl
end EC
