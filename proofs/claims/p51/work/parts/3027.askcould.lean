/-! COULD a player hold a card; cards played, hands played -/
section QU
variable {σ : zt_S}
def wCo (w : Int → Int) (p c : Int) : Bool := decide (0 < wHc w p) && !wPy w c && decide (w (24 + 4 * p + wS w c) = 0)
theorem em_wasPlayed_2 {c : Int} (h : RI (σ.1 164)) (hc : zt_in c) : ∀ (m n : Nat) (k : Int), k + m = σ.1 164 12 → m < n → 0 ≤ k → F_M_wasPlayed_2 n c k σ = some (if 0 < cn (fun k => decide (σ.1 164 (92 + k) = c)) k m then 1 else 0, σ)
  | m, 0, _, _, h1, _ => absurd h1 (Nat.not_lt_zero m)
  | 0, n + 1, k, h0, h1, h2 => by
    have a := h.p12
    have b := h.pl
    have e : ¬ 0 < cn (fun k => decide (σ.1 164 (92 + k) = c)) k 0 := by rw [cn]; decide
    rw [if_neg e]
    unfold F_M_wasPlayed_2
    simp (disch := first | omega | (unfold zt_in; omega)) only [↓zt_ckI, ↓if_pos, ↓if_neg, if_true, if_false, zt_letS, zt_ckI, if_pos, if_neg, up_s, up_o, up_2, h0]
  | m + 1, n + 1, k, h0, h1, h2 => by
    have a := h.p12
    have b := h.pl
    have q := h.2.2.2.2.2.2.2.1 k h2 (by omega)
    have nn := h.n
    have l := cn_le (fun k => decide (σ.1 164 (92 + k) = c)) m (k + 1)
    rw [cn]
    unfold F_M_wasPlayed_2
    by_cases e : σ.1 164 (92 + k) = c
    · rw [if_pos (show decide (σ.1 164 (92 + k) = c) = true from decide_eq_true e), if_pos (show 0 < 1 + cn (fun k => decide (σ.1 164 (92 + k) = c)) (k + 1) m by omega)]
      simp (disch := first | omega | (unfold zt_in; omega)) only [↓zt_ckI, ↓if_pos, ↓if_neg, if_true, if_false, zt_letS, zt_ckI, if_pos, if_neg, up_s, up_o, up_2, e]
    · rw [if_neg (show ¬ decide (σ.1 164 (92 + k) = c) = true by rw [decide_eq_false e]; decide), Int.zero_add]
      simp (disch := first | omega | (unfold zt_in; omega)) only [↓zt_ckI, ↓if_pos, ↓if_neg, if_true, if_false, zt_letS, zt_ckI, if_pos, if_neg, up_s, up_o, up_2, e]
      exact em_wasPlayed_2 h hc m n (k + 1) (by omega) (by omega) (by omega)
theorem em_wasPlayed {c : Int} (h : RI (σ.1 164)) (hc : zt_in c) : F_M_wasPlayed c σ = some (if wPy (σ.1 164) c = true then 1 else 0, σ) := by
  have a := h.p12
  have b := h.pl
  unfold F_M_wasPlayed
  rw [em_wasPlayed_2 h hc (σ.1 164 12).toNat zt_N 0 (by omega) (zN (by omega)) (by decide)]
  unfold wPy
  by_cases e : 0 < cn (fun k => decide (σ.1 164 (92 + k) = c)) 0 (σ.1 164 12).toNat
  · rw [if_pos e, if_pos (decide_eq_true e)]
  · rw [if_neg e, if_neg (by rw [decide_eq_false e]; decide)]
theorem hand_zero {w : Int → Int} {v : Int64} {p : Int} (hw : RI w) (hp : 0 ≤ p) (h : ∀ c, 0 ≤ c → c < 64 → hb v c = decide (c < 4 * w 0 ∧ wHd w c = p)) : v = 0 ↔ ¬ 0 < wHc w p := by
  rw [← hand_count hw hp h, hb_zero]
  constructor
  · intro g z
    obtain ⟨c, h0, h1, h2⟩ := (cn_pos 64 0).mp z
    rw [g c h0 (by omega)] at h2
    exact absurd h2 (by decide)
  · intro g c h0 h1
    cases hc : hb v c with
    | false => rfl
    | true => exact absurd ((cn_pos 64 0).mpr ⟨c, h0, by omega, hc⟩) g
theorem el_could {p c : Int} (h : CO σ) (hi : zt_in p) (hj : zt_in c) : F_L_could p c σ = if (0 ≤ p ∧ p < σ.1 164 1) ∧ (0 ≤ c ∧ c < 4 * σ.1 164 0) then some (0, zt_uL σ 184 0 (zt_l (if wCo (σ.1 164) p c = true then 1 else 0))) else some (1, zt_nx σ) := by
  have a := h.1.n
  unfold F_L_could F_C_could
  rw [ec_needPlayer h hi]
  by_cases h1 : 0 ≤ p ∧ p < σ.1 164 1
  · rw [if_pos h1, zt_bxS, ec_needCard h hj]
    by_cases h2 : 0 ≤ c ∧ c < 4 * σ.1 164 0
    · have hs := wS_lt h.1 h2.1 h2.2
      have z := hand_zero (v := σ.2.1 8 p) h.1 h1.1 (fun c h0 h3 => h.2.1.2.1 p c h1.1 (by omega) h0 h3)
      have y : hb (σ.2.1 6 10) c = wPy (σ.1 164) c := h.2.1.2.2.2.2.2.1 c h2.1 (by omega)
      have q := h.1.2.2.2.2.2.1 (4 * p + wS (σ.1 164) c) (by omega) (by omega)
      rw [show (24 : Int) + (4 * p + wS (σ.1 164) c) = 24 + 4 * p + wS (σ.1 164) c by omega] at q
      rw [if_pos h2, if_pos ⟨h1, h2⟩, zt_bxS, be_handOf ⟨h1.1, by omega⟩]
      unfold wCo
      by_cases g1 : 0 < wHc (σ.1 164) p
      · rw [if_neg (show ¬ zt_lc (σ.2.1 (6 + 2) p) 0 = 0 from fun x => (z.mp (zt_lc0.mp x)) g1), decide_eq_true g1, e_has ⟨h2.1, by omega⟩, zt_bdS, y]
        cases wPy (σ.1 164) c
        · rw [if_neg (by decide), zt_ckI zt_in0, if_pos rfl, ed_suitOf h.2.2 h.1 ⟨h2.1, by omega⟩, ec_isKnownToLack h.1 h.2.1 ⟨h1.1, by omega⟩ ⟨hs.1, by omega⟩, zt_bdS]
          rcases (show σ.1 164 (24 + 4 * p + wS (σ.1 164) c) = 0 ∨ σ.1 164 (24 + 4 * p + wS (σ.1 164) c) = 1 by omega) with e | e
          · rw [e]
            rfl
          · rw [e]
            rfl
        · rfl
      · rw [if_pos (show zt_lc (σ.2.1 (6 + 2) p) 0 = 0 from zt_lc0.mpr (z.mpr g1)), decide_eq_false g1]
        rfl
    · rw [if_neg h2, if_neg (fun z => h2 z.2)]
      rfl
  · rw [if_neg h1, if_neg (fun z => h1 z.1)]
    rfl
theorem em_could {τ : zt_S} {p c : Int} (h : RI (τ.1 164)) (hi : zt_in p) (hj : zt_in c) : F_M_could p c τ = if (0 ≤ p ∧ p < τ.1 164 1) ∧ (0 ≤ c ∧ c < 4 * τ.1 164 0) then some (if wCo (τ.1 164) p c = true then 1 else 0, zt_up τ 163 0 0) else some (0, zt_up τ 163 0 1) := by
  have a := h.n
  have e : (zt_up τ 163 0 0).1 164 = τ.1 164 := up_f (by decide)
  have g : RI ((zt_up τ 163 0 0).1 164) := by rw [e]; exact h
  have z : (zt_up τ 163 0 0).1 163 0 = 0 := up_s _ _ _ _
  unfold F_M_could F_M_could_26 F_M_could_27 F_M_could_80 F_M_could_81
  by_cases h1 : 0 ≤ p ∧ p < τ.1 164 1
  · have h2 : 0 ≤ p ∧ p < (zt_up τ 163 0 0).1 164 1 := by rw [e]; exact h1
    rw [zt_letS, eb_player g h2, zt_ckI (show zt_in 1 by decide), if_neg (show ¬ (1 : Int) = 0 by decide)]
    by_cases h3 : 0 ≤ c ∧ c < 4 * τ.1 164 0
    · have h4 : 0 ≤ c ∧ c < 4 * (zt_up τ 163 0 0).1 164 0 := by rw [e]; exact h3
      have hs := wS_lt h h3.1 h3.2
      have hc := cn_le (fun c => decide (wHd (τ.1 164) c = p)) 52 0
      have q := h.2.2.2.2.2.1 (4 * p + wS (τ.1 164) c) (by omega) (by omega)
      rw [show (24 : Int) + (4 * p + wS (τ.1 164) c) = 24 + 4 * p + wS (τ.1 164) c by omega] at q
      rw [if_pos ⟨h1, h3⟩, eb_card g h4, zt_ckI (show zt_in 1 by decide), if_neg (show ¬ (1 : Int) = 0 by decide), eb_fails1 z, zt_ckI zt_in0, if_pos rfl, eb_heldBy (c1 := 164) ⟨by omega, by omega⟩ (fun c h0 h3 => by have := g.2.2.2.2.2.2.1 c h0 h3; have := g.n; omega), em_wasPlayed g hj, e]
      have hc2 : zt_in (wHc (τ.1 164) p) := ⟨by unfold wHc; omega, by unfold wHc; omega⟩
      rw [zt_ckI hc2]
      unfold wCo
      by_cases g1 : 0 < wHc (τ.1 164) p
      · rw [if_pos g1, decide_eq_true g1, zt_bdS]
        cases wPy (τ.1 164) c
        · rw [if_neg (by decide), zt_ckI zt_in0, if_pos rfl, eb_suitOf g ⟨h3.1, by omega⟩, e, zt_ckI (show _ ∧ _ by omega)]
          rcases (show τ.1 164 (24 + 4 * p + wS (τ.1 164) c) = 0 ∨ τ.1 164 (24 + 4 * p + wS (τ.1 164) c) = 1 by omega) with e | e
          · rw [e]
            rfl
          · rw [e]
            rfl
        · rfl
      · rw [if_neg g1, decide_eq_false g1]
        rfl
    · have h4 : ¬ (0 ≤ c ∧ c < 4 * (zt_up τ 163 0 0).1 164 0) := by rw [e]; exact h3
      rw [if_neg (fun z => h3 z.2), eb_nocard g hj h4, zt_ckI zt_in0, if_pos rfl, eb_fails0 (Or.inl rfl) z, zt_ckI (show zt_in 1 by decide), if_neg (by decide), up_up]
  · have h2 : ¬ (0 ≤ p ∧ p < (zt_up τ 163 0 0).1 164 1) := by rw [e]; exact h1
    rw [if_neg (fun z => h1 z.1), zt_letS, eb_noplayer g hi h2, zt_ckI zt_in0, if_pos rfl, eb_fails0 (Or.inl rfl) z, zt_ckI (show zt_in 1 by decide), if_neg (by decide), up_up]
theorem ak_could {p c : Int} (h : CO σ) (hi : zt_in p) (hj : zt_in c) : AK (F_L_could p c) (F_M_could p c) σ :=
  ak_if (el_could h hi hj) (fun τ e => ⟨0, by rw [em_could (by rw [e]; exact h.1) hi hj, e]⟩)
end QU
