/-! meanRank and share: doubles and floats -/
set_option maxRecDepth 100000 in
theorem mr_ok : ∀ s : Nat, s < 170 → ∀ c : Nat, c < 14 → c ≠ 0 → (FP.ddiv (zt_id (s : Int)) (zt_id (c : Int))) &&& 0x7fffffffffffffff ≤ 0x7ff0000000000000 ∧ zt_dc (FP.ddiv (zt_id (s : Int)) (zt_id (c : Int))) (FP.ddiv (zt_id (s : Int)) (zt_id (c : Int))) .l = 0 := by decide +kernel
theorem mr_0 : zt_dc FP.dconst0 FP.dconst0 .l = 0 := by decide +kernel
set_option maxRecDepth 100000 in
theorem sh_ok : ∀ s : Nat, s < 14 → ∀ c : Nat, c < 14 → c ≠ 0 → (FP.fdiv (zt_if (s : Int)) (zt_if (c : Int))) &&& 0x7fffffff ≤ 0x7f800000 ∧ FP.f2d (FP.fdiv (zt_if (s : Int)) (zt_if (c : Int))) &&& 0x7fffffffffffffff ≤ 0x7ff0000000000000 ∧ zt_dc (FP.f2d (FP.fdiv (zt_if (s : Int)) (zt_if (c : Int)))) (FP.f2d (FP.fdiv (zt_if (s : Int)) (zt_if (c : Int)))) .l = 0 := by decide +kernel
theorem sh_0 : FP.f2d FP.fconst0 &&& 0x7fffffffffffffff ≤ 0x7ff0000000000000 ∧ zt_dc (FP.f2d FP.fconst0) (FP.f2d FP.fconst0) .l = 0 := by decide +kernel
def wSm (w : Int → Int) (p : Int) : Int → Int → Nat → Int
  | a, _, 0 => a
  | a, k, m + 1 => wSm w p (a + (if wHd w k = p then wR w k else 0)) (k + 1) m
section MR
variable {σ : zt_S} {w : Int → Int} {n : Int}
theorem wSm_lt (h : RI w) {p : Int} : ∀ (m : Nat) (a k : Int), a ≤ wSm w p a k m ∧ wSm w p a k m ≤ a + 13 * cn (fun c => decide (wHd w c = p)) k m
  | 0, a, k => by rw [wSm, cn]; omega
  | m + 1, a, k => by
    have q := h.n
    have r := wR_lt h (c := k)
    have ih := wSm_lt h (p := p) m (a + (if wHd w k = p then wR w k else 0)) (k + 1)
    rw [wSm, cn]
    by_cases hk : wHd w k = p
    · rw [if_pos hk] at ih ⊢
      rw [if_pos (decide_eq_true hk)]
      omega
    · rw [if_neg hk] at ih ⊢
      rw [if_neg (fun z => hk (of_decide_eq_true z))]
      omega
theorem ec_mean_20 {V : Int64} {p : Int} (hs : SUw σ 3 w) (hw : RI w) (hV : ∀ c, 0 ≤ c → c < 64 → hb V c = decide (c < 4 * w 0 ∧ wHd w c = p)) : ∀ (m f : Nat) (a k : Int), k + m = 4 * w 0 → m < f → 0 ≤ k → F_C_meanRank_20 f V a k σ = F_C_meanRank_61 V (wSm w p a k m) σ
  | m, 0, _, _, _, h1, _ => absurd h1 (Nat.not_lt_zero m)
  | 0, f + 1, a, k, h0, h1, h2 => by
    have q := hw.n
    rw [F_C_meanRank_20, ed_cardCount hs, zt_ckI ⟨by unfold zt_in; omega, by unfold zt_in; omega⟩, if_neg (by omega), wSm]
  | m + 1, f + 1, a, k, h0, h1, h2 => by
    have q := hw.n
    have hk := hV k h2 (by omega)
    have ih := ec_mean_20 hs hw hV m f
    rw [F_C_meanRank_20, ed_cardCount hs, zt_ckI ⟨by unfold zt_in; omega, by unfold zt_in; omega⟩, if_pos (by omega), wSm]
    unfold F_C_meanRank_55
    by_cases hh : wHd w k = p
    · rw [be_has_t ⟨h2, by omega⟩ (by rw [hk]; exact decide_eq_true ⟨by omega, hh⟩), zt_ckI (by decide), if_neg (by decide), ed_rankOf hs hw ⟨h2, by omega⟩, ih _ _ (by omega) (by omega) (by omega), if_pos hh]
    · rw [be_has_f ⟨h2, by omega⟩ (by rw [hk]; exact fun z => hh (of_decide_eq_true z).2), zt_ckI (by decide), if_pos rfl, ih _ _ (by omega) (by omega) (by omega), if_neg hh, Int.add_zero]
theorem em_mean_24 {p : Int} (h : RI (σ.1 164)) (hp : 0 ≤ p ∧ p < 4) : ∀ (m f : Nat) (a k : Int), k + m = 4 * σ.1 164 0 → m < f → 0 ≤ k → F_M_meanRank_24 f p a k σ = F_M_meanRank_59 p (wSm (σ.1 164) p a k m) σ
  | m, 0, _, _, _, h1, _ => absurd h1 (Nat.not_lt_zero m)
  | 0, f + 1, a, k, h0, h1, h2 => by
    have q := h.n
    rw [F_M_meanRank_24, em_cards, zt_bdS, zt_ckI ⟨by unfold zt_in; omega, by unfold zt_in; omega⟩, if_neg (by omega), wSm]
  | m + 1, f + 1, a, k, h0, h1, h2 => by
    have q := h.n
    have hd := h.hd h2 (c := k) (by omega)
    have ih := em_mean_24 h hp m f
    rw [F_M_meanRank_24, em_cards, zt_bdS, zt_ckI ⟨by unfold zt_in; omega, by unfold zt_in; omega⟩, if_pos (by omega), em_holderOf ⟨h2, by omega⟩, zt_bdS, zt_ckI ⟨by unfold zt_in; omega, by unfold zt_in; omega⟩, wSm]
    unfold F_M_meanRank_51
    by_cases hh : wHd (σ.1 164) k = p
    · rw [if_pos hh, eb_rankOf h ⟨h2, by omega⟩, ih _ _ (by omega) (by omega) (by omega), if_pos hh]
    · rw [if_neg hh, ih _ _ (by omega) (by omega) (by omega), if_neg hh]
def wMr (w : Int → Int) (p : Int) : UInt64 := if wHc w p = 0 then FP.dconst0 else FP.ddiv (zt_id (wSm w p 0 0 (4 * w 0).toNat)) (zt_id (wHc w p))
theorem wMr_ok (h : RI w) {p : Int} (hp : 0 ≤ p ∧ p < w 1) : zt_dc (wMr w p) (wMr w p) .l = 0 ∧ (wHc w p ≠ 0 → (FP.ddiv (zt_id (wSm w p 0 0 (4 * w 0).toNat)) (zt_id (wHc w p))) &&& 0x7fffffffffffffff ≤ 0x7ff0000000000000) := by
  have a := h.n
  have hc := wHc_cut h hp.1
  have hr := h.2.2.2.2.2.2.2.2.2.2 p hp.1 hp.2
  have p13 := h.pl
  have s := wSm_lt h (p := p) (4 * w 0).toNat 0 0
  have c0 : 0 ≤ wHc w p := (cn_le _ 52 0).1
  rw [hc] at s
  have c13 : wHc w p ≤ 13 := by rw [hr]; split <;> omega
  have e1 : ((wSm w p 0 0 (4 * w 0).toNat).toNat : Int) = wSm w p 0 0 (4 * w 0).toNat := by omega
  have e2 : ((wHc w p).toNat : Int) = wHc w p := by omega
  unfold wMr
  by_cases hz : wHc w p = 0
  · rw [if_pos hz]
    exact ⟨mr_0, fun z => absurd hz z⟩
  · have g := mr_ok (wSm w p 0 0 (4 * w 0).toNat).toNat (by omega) (wHc w p).toNat (by omega) (by omega)
    rw [e1, e2] at g
    rw [if_neg hz]
    exact ⟨g.2, fun _ => g.1⟩
/-- a double is told -/
def AD (fl : zt_S → Option (Int × zt_S)) (fm : zt_S → Option (UInt64 × zt_S)) (m : Int) (σ : zt_S) : Prop := ∃ e v σ1 σ2, fl σ = some (e, σ1) ∧ fm σ1 = some (v, σ2) ∧ σ2.1 163 0 = e ∧ (0 ≤ e ∧ e ≤ 2) ∧ (e = 0 → zt_dc (σ2.2.2.1 0) v .l = 0) ∧ Inv m σ2
theorem ad_meanRank {p : Int} (h : Inv n σ) (hi : zt_in p) : AD (F_L_meanRank p) (F_M_meanRank p) (n + 1) σ := by
  have hc := h.1
  have a := hc.1.n
  by_cases hp : 0 ≤ p ∧ p < σ.1 164 1
  · have ok := wMr_ok hc.1 hp
    have cn9 := hand_count hc.1 hp.1 (fun c h0 h3 => hc.2.1.2.1 p c hp.1 (by omega) h0 h3)
    obtain ⟨V, hVe⟩ : ∃ V, V = σ.2.1 (6 + 2) p := ⟨_, rfl⟩
    have hV : ∀ c, 0 ≤ c → c < 64 → hb V c = decide (c < 4 * σ.1 164 0 ∧ wHd (σ.1 164) c = p) := fun c h0 h1 => by rw [hVe]; exact hc.2.1.2.1 p c hp.1 (by omega) h0 h1
    rw [← hVe] at cn9
    have hz : zt_lc V 0 = 0 ↔ wHc (σ.1 164) p = 0 := by
      rw [zt_lc0, hb_zero, ← cn9]
      constructor
      · intro z
        exact cn_none 64 0 (fun c h0 h1 => z c h0 (by omega))
      · intro z c h0 h1
        rcases hx : hb V c with _ | _
        · rfl
        · have := (cn_pos (P := hb V) 64 0).mpr ⟨c, h0, by omega, hx⟩
          omega
    have cs : F_L_meanRank p σ = some (0, zt_uD σ 0 (wMr (σ.1 164) p)) := by
      unfold F_L_meanRank F_C_meanRank
      rw [ec_needPlayer hc hi, if_pos hp, zt_bxS, be_handOf ⟨hp.1, by omega⟩, ← hVe, ec_mean_20 hc.2.2 hc.1 hV (4 * σ.1 164 0).toNat zt_N 0 0 (by omega) (zN (by omega)) (by omega)]
      unfold F_C_meanRank_61 F_C_meanRank_80 wMr
      by_cases h0 : wHc (σ.1 164) p = 0
      · rw [if_pos (hz.mpr h0), zt_bxS, zt_letS, if_pos h0]
      · rw [if_neg (fun z => h0 (hz.mp z)), be_bitCount, cn9, zt_ckI (ok.2 h0), zt_bxS, zt_letS, if_neg h0]
    obtain ⟨σ1, hσ1⟩ : ∃ x, x = zt_uD σ 0 (wMr (σ.1 164) p) := ⟨_, rfl⟩
    have s11 : σ1.1 = σ.1 := by rw [hσ1]; rfl
    have er : (zt_up σ1 163 0 0).1 164 = σ.1 164 := by rw [up_f (by decide), s11]
    have cm : F_M_meanRank p σ1 = some (wMr (σ.1 164) p, zt_up σ1 163 0 0) := by
      have g : RI ((zt_up σ1 163 0 0).1 164) := by rw [er]; exact hc.1
      unfold F_M_meanRank
      rw [zt_letS, eb_player g (by rw [er]; exact hp), eb_fails1 (up_s _ _ _ _), zt_ckI zt_in0, if_pos rfl, em_mean_24 g ⟨hp.1, by omega⟩ (4 * σ.1 164 0).toNat zt_N 0 0 (by rw [er]; omega) (zN (by omega)) (by omega), er]
      unfold F_M_meanRank_59 F_M_meanRank_88 wMr
      have hr := fun c h0 h3 => g.2.2.2.2.2.2.1 c h0 h3
      have c0 : 0 ≤ wHc (σ.1 164) p ∧ wHc (σ.1 164) p ≤ 52 := cn_le _ 52 0
      rw [eb_heldBy (c1 := 164) ⟨by omega, by omega⟩ (fun c h0 h3 => by have := g.2.2.2.2.2.2.1 c h0 h3; have := g.n; omega), er, zt_ckI (by unfold zt_in; omega)]
      by_cases h0 : wHc (σ.1 164) p = 0
      · rw [if_pos h0, if_pos h0]
      · rw [if_neg h0, eb_heldBy (c1 := 164) ⟨by omega, by omega⟩ (fun c h0 h3 => by have := g.2.2.2.2.2.2.1 c h0 h3; have := g.n; omega), er, zt_ckI (ok.2 h0), if_neg h0]
    refine ⟨0, _, σ1, _, by rw [hσ1]; exact cs, cm, up_s _ _ _ _, by omega, fun _ => ?_, h.q (fun c j hc => by rw [up_o (by omega), s11]) (fun c j _ => by rw [up_2, hσ1]; rfl) (by rw [up_2, hσ1]; exact Nat.le_succ _)⟩
    rw [up_2, hσ1]
    exact ok.1
  · refine ⟨1, FP.dconst0, zt_nx σ, zt_up (zt_nx σ) 163 0 1, ?_, ?_, up_s _ _ _ _, by omega, fun z => by omega, h.fr (fr_2 1)⟩
    · unfold F_L_meanRank F_C_meanRank
      rw [ec_needPlayer hc hi, if_neg hp]
      rfl
    · have er : (zt_up (zt_nx σ) 163 0 0).1 164 = σ.1 164 := up_f (by decide)
      unfold F_M_meanRank
      rw [zt_letS, eb_noplayer (by rw [er]; exact hc.1) hi (by rw [er]; exact hp), eb_fails0 (Or.inl rfl) (up_s _ _ _ _), zt_ckI (by decide), if_neg (by decide), up_up]
def wSh (w : Int → Int) (p : Int) : UInt32 := if w 13 = 0 then FP.fconst0 else FP.fdiv (zt_if (wTk w p)) (zt_if (w 13))
theorem wSh_ok (h : RI w) {p : Int} : (w 13 ≠ 0 → (FP.fdiv (zt_if (wTk w p)) (zt_if (w 13))) &&& 0x7fffffff ≤ 0x7f800000) ∧ FP.f2d (wSh w p) &&& 0x7fffffffffffffff ≤ 0x7ff0000000000000 ∧ zt_dc (FP.f2d (wSh w p)) (FP.f2d (wSh w p)) .l = 0 := by
  have a := h.n
  have b := h.p13
  have c := h.pl
  have t := wTk_lt h (p := p)
  unfold wSh
  by_cases hz : w 13 = 0
  · rw [if_pos hz]
    exact ⟨fun z => absurd hz z, sh_0⟩
  · have g := sh_ok (wTk w p).toNat (by omega) (w 13).toNat (by omega) (by omega)
    rw [show (((wTk w p).toNat : Nat) : Int) = wTk w p by omega, show (((w 13).toNat : Nat) : Int) = w 13 by omega] at g
    rw [if_neg hz]
    exact ⟨fun _ => g.1, g.2⟩
def AS (fl : zt_S → Option (Int × zt_S)) (fm : zt_S → Option (UInt32 × zt_S)) (m : Int) (σ : zt_S) : Prop := ∃ e v σ1 σ2, fl σ = some (e, σ1) ∧ fm σ1 = some (v, σ2) ∧ σ2.1 163 0 = e ∧ (0 ≤ e ∧ e ≤ 2) ∧ (e = 0 → (FP.f2d v &&& 0x7fffffffffffffff ≤ 0x7ff0000000000000) ∧ zt_dc (σ2.2.2.1 0) (FP.f2d v) .l = 0) ∧ Inv m σ2
theorem as_share {p : Int} (h : Inv n σ) (hi : zt_in p) : AS (F_L_share p) (F_M_share p) (n + 1) σ := by
  have hc := h.1
  have a := hc.1.n
  have b := hc.1.p13
  have pl := hc.1.pl
  have ok := wSh_ok hc.1 (p := p)
  have e17 : σ.1 6 17 = σ.1 164 13 := hc.2.1.2.2.2.2.2.2.2.2.2.2.2.2.1
  by_cases hp : 0 ≤ p ∧ p < σ.1 164 1
  · have cs : F_L_share p σ = some (0, zt_uD σ 0 (FP.f2d (wSh (σ.1 164) p))) := by
      have ok2 := ok.2.1
      unfold F_L_share F_C_share F_C_share_40
      rw [ec_needPlayer hc hi, if_pos hp, zt_bxS, e17, zt_ckI (by unfold zt_in; omega)]
      unfold wSh at ok2 ⊢
      by_cases h0 : σ.1 164 13 = 0
      · rw [if_pos h0] at ok2 ⊢
        rw [if_neg (by omega), zt_bxS, zt_ckI ok2, zt_letS]
      · rw [if_neg h0] at ok2 ⊢
        rw [if_pos (by omega), be_at ⟨hp.1, by omega⟩ (by decide), e17, show σ.1 10 p = wTk (σ.1 164) p from (hc.2.1.2.2.1 p hp.1 (by omega)).2.1, zt_ckI (ok.1 h0), zt_bxS, zt_ckI ok2, zt_letS]
    obtain ⟨σ1, hσ1⟩ : ∃ x, x = zt_uD σ 0 (FP.f2d (wSh (σ.1 164) p)) := ⟨_, rfl⟩
    have s11 : σ1.1 = σ.1 := by rw [hσ1]; rfl
    have er : (zt_up σ1 163 0 0).1 164 = σ.1 164 := by rw [up_f (by decide), s11]
    have cm : F_M_share p σ1 = some (wSh (σ.1 164) p, zt_up σ1 163 0 0) := by
      have g : RI ((zt_up σ1 163 0 0).1 164) := by rw [er]; exact hc.1
      unfold F_M_share F_M_share_49 wSh
      rw [zt_letS, eb_player g (by rw [er]; exact hp), eb_fails1 (up_s _ _ _ _), zt_ckI zt_in0, if_pos rfl, er, zt_ckI (by unfold zt_in; omega)]
      by_cases h0 : σ.1 164 13 = 0
      · rw [if_pos h0, if_pos h0]
      · rw [if_neg h0, eb_tricksOf g ⟨by omega, by omega⟩, er, zt_ckI (ok.1 h0), if_neg h0]
    refine ⟨0, _, σ1, _, by rw [hσ1]; exact cs, cm, up_s _ _ _ _, by omega, fun _ => ⟨ok.2.1, ?_⟩, h.q (fun c j hc => by rw [up_o (by omega), s11]) (fun c j _ => by rw [up_2, hσ1]; rfl) (by rw [up_2, hσ1]; exact Nat.le_succ _)⟩
    rw [up_2, hσ1]
    exact ok.2.2
  · refine ⟨1, FP.fconst0, zt_nx σ, zt_up (zt_nx σ) 163 0 1, ?_, ?_, up_s _ _ _ _, by omega, fun z => by omega, h.fr (fr_2 1)⟩
    · unfold F_L_share F_C_share
      rw [ec_needPlayer hc hi, if_neg hp]
      rfl
    · have er : (zt_up (zt_nx σ) 163 0 0).1 164 = σ.1 164 := up_f (by decide)
      unfold F_M_share
      rw [zt_letS, eb_noplayer (by rw [er]; exact hc.1) hi (by rw [er]; exact hp), eb_fails0 (Or.inl rfl) (up_s _ _ _ _), zt_ckI (by decide), if_neg (by decide), up_up]
end MR
