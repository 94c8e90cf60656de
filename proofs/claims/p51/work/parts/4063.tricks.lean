/-! areTricks: the complete tricks -/
set_option maxRecDepth 100000 in
theorem sf_ok : ∀ s : Nat, s < 14 → ∀ c : Nat, c < 14 → c ≠ 0 → zt_fc (FP.fdiv (zt_if (s : Int)) (zt_if (c : Int))) (FP.fdiv (zt_if (s : Int)) (zt_if (c : Int))) .l = 0 := by decide +kernel
theorem gB_r {f : Int → Int} : ∀ (m : Nat) (b k : Int), gB f b k (m + 1) = if gB f b k m = -1 ∨ f (gB f b k m) < f (k + m) then k + m else gB f b k m
  | 0, b, k => by
    rw [gB, gB, gB]
    simp
  | m + 1, b, k => by
    rw [gB, gB_r m, gB]
    rw [show k + 1 + (m : Int) = k + ((m + 1 : Nat) : Int) by omega]
theorem cn_r (P : Int → Bool) (m : Nat) : cn P 0 (m + 1) = cn P 0 m + (if P (m : Int) = true then 1 else 0) := by
  rw [cn_app P 1 m 0, cn, cn, Int.zero_add, Int.add_zero]
section TR0
variable {T : zt_T} {σ : zt_S} {w : Int → Int} {k : Nat}
/-- the row k of 4 may be used -/
def G4 (T : zt_T) (k : Nat) : Prop := (1 ≤ k ∧ k < T.1 ∧ k < 100000) ∧ T.2.1 k = 4
theorem G4.tk {j : Int} (h : G4 T k) (hj : 0 ≤ j ∧ j < 4) : zt_tk T k j := ⟨h.1, by rw [h.2]; decide, hj.1, by rw [h.2]; omega⟩
theorem G4.tu {i : Nat} {j v : Int} (h : G4 T k) : G4 (zt_tu T i j v) k := h
/-- the powers of a complete trick's cards -/
def tF (w : Int → Int) (t : Int) : Int → Int := fun k => pc (w 0) (w (196 + 6 * t + 4)) (w (196 + 6 * t + 5)) (w (196 + 6 * t + 3)) (w (92 + (t * w 1 + k)))
theorem a_72 {r12 : Int → Nat → Int → zt_S → zt_T → Option (Int × zt_S × zt_T)} (hw : CW σ w) (hx : XI w) {t : Int} (ht : 0 ≤ t ∧ t < w 13) : ∀ (m n i : Nat), (i : Int) + m = w 1 → 1 ≤ i → m < n → F_P_areTricks_72 r12 n (w 1) k t (w (196 + 6 * t + 3)) (t * w 1 + gB (tF w t) (-1) 0 i) (i : Int) σ T = F_P_areTricks_172 r12 (w 1) k t (t * w 1 + tB w t) σ T
  | m, 0, _, _, _, h => absurd h (Nat.not_lt_zero _)
  | 0, n + 1, i, h0, h1, h2 => by
    have a := hw.1.n
    rw [F_P_areTricks_72, zt_ckI ⟨by unfold zt_in; omega, by unfold zt_in; omega⟩, if_neg (by omega)]
    unfold tB
    rw [show (w 1).toNat = i by omega]
    rfl
  | m + 1, n + 1, i, h0, h1, h2 => by
    have a := hw.1.n
    have pl := hw.1.pl
    have p12 := hw.1.p12
    have p13 := hw.1.p13
    have mu := mul_up (p := w 1) ht.1 ht.2 (by omega)
    have b := hw.1.2.2.2.2.2.2.2.2.2.1 t ht.1 ht.2
    have x := hx.2.1 t ht.1 ht.2
    obtain ⟨g, hg⟩ : ∃ g, g = gB (tF w t) (-1) 0 i := ⟨_, rfl⟩
    have gl := gB_lt (f := tF w t) i (-1) 0 (by omega) (by omega) (by omega)
    have g0 := gl.2.2 (Or.inr (by omega))
    rw [← hg] at gl g0
    have ih := a_72 (r12 := r12) hw hx ht m n (i + 1) (by omega) (by omega) (by omega)
    rw [gB_r, Int.zero_add, ← hg] at ih
    have ci := hw.1.2.2.2.2.2.2.2.1 (t * w 1 + i) (by omega) (by omega)
    have cg := hw.1.2.2.2.2.2.2.2.1 (t * w 1 + g) (by omega) (by omega)
    have f1 : pc (w 0) (w (196 + 6 * t + 4)) (w (196 + 6 * t + 5)) (w (196 + 6 * t + 3)) (w (92 + (t * w 1 + i))) = tF w t i := rfl
    have f2 : pc (w 0) (w (196 + 6 * t + 4)) (w (196 + 6 * t + 5)) (w (196 + 6 * t + 3)) (w (92 + (t * w 1 + g))) = tF w t g := rfl
    have l1 := pc_lt (R := w 0) (t := w (196 + 6 * t + 4)) (G := w (196 + 6 * t + 5)) (u := w (196 + 6 * t + 3)) (c := w (92 + (t * w 1 + i))) (by omega) (by omega)
    have l2 := pc_lt (R := w 0) (t := w (196 + 6 * t + 4)) (G := w (196 + 6 * t + 5)) (u := w (196 + 6 * t + 3)) (c := w (92 + (t * w 1 + g))) (by omega) (by omega)
    rw [f1] at l1
    rw [f2] at l2
    have e1 := x.1 i (by omega) (by omega)
    have m0 := Int.emod_nonneg (w (196 + 6 * t) + (i : Int)) (show w 1 ≠ 0 by omega)
    have m1 := Int.emod_lt_of_pos (w (196 + 6 * t) + (i : Int)) (show 0 < w 1 by omega)
    rw [← hg, F_P_areTricks_72, zt_ckI ⟨by unfold zt_in; omega, by unfold zt_in; omega⟩, if_pos (by omega), px_played hw ⟨by omega, by omega⟩ (by omega), zt_byI, show wPd w (t * w 1 + i) 1 = w (144 + (t * w 1 + i)) from rfl, px_trick hw ht (by omega), zt_byI, Int.add_zero, e1, zt_ckI ⟨⟨by omega, by omega⟩, by omega, by omega⟩, zt_ckI ⟨by unfold zt_in; omega, by unfold zt_in; omega⟩, if_pos rfl, px_played hw ⟨by omega, by omega⟩ (by omega), zt_byI, show wPd w (t * w 1 + i) 0 = w (92 + (t * w 1 + i)) from rfl, px_trick hw ht (by omega), zt_byI, px_trick hw ht (by omega), zt_byI, p_power hw ⟨ci.1, ci.2.1⟩ (by omega) (by omega), zt_btI, f1, px_played hw ⟨by omega, by omega⟩ (by omega), zt_byI, show wPd w (t * w 1 + g) 0 = w (92 + (t * w 1 + g)) from rfl, px_trick hw ht (by omega), zt_byI, px_trick hw ht (by omega), zt_byI, p_power hw ⟨cg.1, cg.2.1⟩ (by omega) (by omega), zt_btI, f2, zt_ckI ⟨by unfold zt_in; omega, by unfold zt_in; omega⟩]
    unfold F_P_areTricks_166
    by_cases hz : tF w t g < tF w t i
    · rw [if_pos (Or.inr hz)] at ih
      rw [if_pos hz]
      exact ih
    · rw [if_neg (fun z => z.elim (by omega) hz)] at ih
      rw [if_neg hz]
      exact ih
theorem a_172 {r12 : Int → Nat → Int → zt_S → zt_T → Option (Int × zt_S × zt_T)} (hw : CW σ w) (hx : XI w) {t : Int} (ht : 0 ≤ t ∧ t < w 13) (hk : G4 T k) : F_P_areTricks_172 r12 (w 1) k t (t * w 1 + tB w t) σ T = r12 (w 1) k (t + 1) σ (zt_tu T k (w (196 + 6 * t + 1)) (T.2.2 k (w (196 + 6 * t + 1)) + 1)) := by
  have a := hw.1.n
  have pl := hw.1.pl
  have p12 := hw.1.p12
  have p13 := hw.1.p13
  have mu := mul_up (p := w 1) ht.1 ht.2 (by omega)
  have b := hw.1.2.2.2.2.2.2.2.2.2.1 t ht.1 ht.2
  have x := hx.2.1 t ht.1 ht.2
  have tl := tB_lt (w := w) (t := t) a.2.1.1
  have e1 : w (144 + (t * w 1 + tB w t)) = w (196 + 6 * t + 1) := by rw [x.1 _ tl.1 tl.2, x.2.2.1]
  have e2 : w (92 + (t * w 1 + tB w t)) = w (196 + 6 * t + 2) := x.2.2.2.symm
  have tail : F_P_areTricks_235 r12 (w 1) k t σ T = r12 (w 1) k (t + 1) σ (zt_tu T k (w (196 + 6 * t + 1)) (T.2.2 k (w (196 + 6 * t + 1)) + 1)) := by
    have e264 : F_P_areTricks_264 r12 (w 1) k t σ T = r12 (w 1) k (t + 1) σ (zt_tu T k (w (196 + 6 * t + 1)) (T.2.2 k (w (196 + 6 * t + 1)) + 1)) := by
      unfold F_P_areTricks_264
      rw [px_trick hw ht (by omega), zt_byI, zt_ckI (hk.tk (by omega)), zt_ckI (hk.tk (by omega)), zt_letS]
    unfold F_P_areTricks_235
    rw [px_size11 hw, zt_byI, zt_ckI ⟨by unfold zt_in; omega, by unfold zt_in; omega⟩]
    by_cases hz : t + 1 = w 13
    · have e9 := hx.2.2.2 (by omega)
      rw [show w 13 - 1 = t by omega] at e9
      rw [if_pos hz, px_size10 hw, zt_byI, px_trick hw ht (by omega), zt_byI, e9, zt_ckI ⟨by unfold zt_in; omega, by unfold zt_in; omega⟩, if_pos rfl, e264]
    · rw [if_neg hz, e264]
  unfold F_P_areTricks_172
  rw [px_trick hw ht (by omega), zt_byI, px_played hw ⟨by omega, by omega⟩ (by omega), zt_byI, show wPd w (t * w 1 + tB w t) 1 = w (144 + (t * w 1 + tB w t)) from rfl, e1, zt_ckI ⟨by unfold zt_in; omega, by unfold zt_in; omega⟩, if_pos rfl, px_trick hw ht (by omega), zt_byI, px_played hw ⟨by omega, by omega⟩ (by omega), zt_byI, show wPd w (t * w 1 + tB w t) 0 = w (92 + (t * w 1 + tB w t)) from rfl, e2, zt_ckI ⟨by unfold zt_in; omega, by unfold zt_in; omega⟩, if_pos rfl, px_size11 hw, zt_byI, zt_ckI ⟨by unfold zt_in; omega, by unfold zt_in; omega⟩]
  by_cases hz : t + 1 < w 13
  · have e := hx.2.2.1 t ht.1 hz
    rw [if_pos hz, px_trick hw ⟨by omega, hz⟩ (by omega), zt_byI, px_trick hw ht (by omega), zt_byI, Int.add_zero, e, zt_ckI ⟨by unfold zt_in; omega, by unfold zt_in; omega⟩, if_pos rfl, tail]
  · rw [if_neg hz, tail]
/-- tricks won of the first t -/
def wTt (w : Int → Int) (t : Nat) (p : Int) : Int := cn (fun t => decide (w (196 + 6 * t + 1) = p)) 0 t
theorem a_12 (hw : CW σ w) (hx : XI w) : ∀ (m n t : Nat) (T : zt_T), (t : Int) + m = w 13 → m < n → G4 T k → (∀ p, 0 ≤ p → p < 4 → T.2.2 k p = wTt w t p) → ∃ T', F_P_areTricks_12 n (w 1) k (t : Int) σ T = F_P_areTricks_284 zt_N (w 1) k 0 σ T' ∧ KP k T T' ∧ ∀ p, 0 ≤ p → p < 4 → T'.2.2 k p = wTk w p
  | m, 0, _, _, _, h, _, _ => absurd h (Nat.not_lt_zero _)
  | 0, n + 1, t, T, h0, h1, h2, h3 => by
    have a := hw.1.n
    have p13 := hw.1.p13
    refine ⟨T, ?_, KP.rf, fun p p0 p1 => ?_⟩
    · rw [F_P_areTricks_12, px_size11 hw, zt_byI, zt_ckI ⟨by unfold zt_in; omega, by unfold zt_in; omega⟩, if_neg (by omega)]
    · rw [h3 p p0 p1]
      unfold wTt wTk
      rw [show (w 13).toNat = t by omega]
  | m + 1, n + 1, t, T, h0, h1, h2, h3 => by
    have a := hw.1.n
    have pl := hw.1.pl
    have p12 := hw.1.p12
    have p13 := hw.1.p13
    have ht : 0 ≤ (t : Int) ∧ (t : Int) < w 13 := by omega
    have mu := mul_up (p := w 1) ht.1 ht.2 (by omega)
    have b := hw.1.2.2.2.2.2.2.2.2.2.1 t ht.1 ht.2
    have x := hx.2.1 t ht.1 ht.2
    have c0 := hw.1.2.2.2.2.2.2.2.1 (t * w 1) (by omega) (by omega)
    have tk : ∀ p, wTt w (t + 1) p = wTt w t p + (if w (196 + 6 * (t : Int) + 1) = p then 1 else 0) := fun p => by
      unfold wTt
      rw [cn_r]
      simp only [decide_eq_true_eq]
    obtain ⟨T', q1, q2, q3⟩ := a_12 hw hx m n (t + 1) (zt_tu T k (w (196 + 6 * (t : Int) + 1)) (T.2.2 k (w (196 + 6 * (t : Int) + 1)) + 1)) (by omega) (by omega) h2.tu (fun p p0 p1 => by
      rw [tk]
      by_cases hp : w (196 + 6 * (t : Int) + 1) = p
      · rw [hp, tu_s, if_pos rfl, h3 p p0 p1]
      · rw [tu_o (Or.inr (fun z => hp z.symm)), if_neg hp, h3 p p0 p1, Int.add_zero])
    refine ⟨T', ?_, KP.tr KP.tu q2, q3⟩
    have es : wS w (w (92 + (t : Int) * w 1)) = w (196 + 6 * (t : Int) + 3) := x.2.1.symm
    have e0 : w (144 + (t : Int) * w 1) = w (196 + 6 * (t : Int)) := by
      have := x.1 0 (by omega) (by omega)
      rw [Int.add_zero, Int.add_zero, Int.emod_eq_of_lt b.1.1 b.1.2] at this
      exact this
    have g1 : gB (tF w (t : Int)) (-1) 0 1 = 0 := by
      rw [gB, gB, if_pos (Or.inl rfl)]
    have l := a_72 (r12 := F_P_areTricks_12 n) (T := T) (k := k) hw hx ht (w 1 - 1).toNat zt_N 1 (by omega) (by omega) (zN (by omega))
    rw [g1, Int.add_zero] at l
    rw [F_P_areTricks_12, px_size11 hw, zt_byI, zt_ckI ⟨by unfold zt_in; omega, by unfold zt_in; omega⟩, if_pos ht.2, px_trick hw ht (by omega), zt_byI, px_played hw ⟨by omega, by omega⟩ (by omega), zt_byI, show wPd w ((t : Int) * w 1) 0 = w (92 + (t : Int) * w 1) from rfl, px_suit hw ⟨c0.1, c0.2.1⟩, zt_byI, es, zt_ckI ⟨by unfold zt_in; omega, by unfold zt_in; omega⟩, if_pos rfl, px_played hw ⟨by omega, by omega⟩ (by omega), zt_byI, show wPd w ((t : Int) * w 1) 1 = w (144 + (t : Int) * w 1) from rfl, e0, px_trick hw ht (by omega), zt_byI, Int.add_zero, zt_ckI ⟨by unfold zt_in; omega, by unfold zt_in; omega⟩, if_pos rfl]
    refine Eq.trans l ?_
    rw [a_172 hw hx ht h2]
    exact q1
theorem a_284 (hw : CW σ w) (hk : G4 T k) (h : ∀ p, 0 ≤ p → p < 4 → T.2.2 k p = wTk w p) : ∀ (m n : Nat) (p : Int), p + m = w 1 → m < n → 0 ≤ p → F_P_areTricks_284 n (w 1) k p σ T = some (1, σ, T)
  | m, 0, _, _, h, _ => absurd h (Nat.not_lt_zero _)
  | 0, n + 1, p, h0, h1, h2 => by
    have a := hw.1.n
    rw [F_P_areTricks_284, zt_ckI ⟨by unfold zt_in; omega, by unfold zt_in; omega⟩, if_neg (by omega)]
  | m + 1, n + 1, p, h0, h1, h2 => by
    have a := hw.1.n
    have p13 := hw.1.p13
    have pl := hw.1.pl
    have t := wTk_lt hw.1 (p := p)
    have ok := wSh_ok hw.1 (p := p)
    have ih := a_284 hw hk h m n (p + 1) (by omega) (by omega) (by omega)
    rw [F_P_areTricks_284, zt_ckI ⟨by unfold zt_in; omega, by unfold zt_in; omega⟩, if_pos (by omega), px_tricks hw ⟨h2, by omega⟩, zt_byI, zt_ckI (hk.tk ⟨h2, by omega⟩), h p h2 (by omega), zt_ckI ⟨by unfold zt_in; omega, by unfold zt_in; omega⟩, if_pos rfl, px_size11 hw, zt_byI, zt_ckI (by unfold zt_in; omega)]
    unfold F_P_areTricks_332
    by_cases hz : 0 < w 13
    · have e1 : ((wTk w p).toNat : Int) = wTk w p := by omega
      have e2 : ((w 13).toNat : Int) = w 13 := by omega
      have s := sf_ok (wTk w p).toNat (by omega) (w 13).toNat (by omega) (by omega)
      rw [e1, e2] at s
      have sh : wSh w p = FP.fdiv (zt_if (wTk w p)) (zt_if (w 13)) := if_neg (by omega)
      rw [if_pos hz, px_share hw ⟨h2, by omega⟩, zt_byI, zt_ckI (hk.tk ⟨h2, by omega⟩), px_size11 hw, zt_byI, zt_ckI (ok.1 (by omega)), sh, s, if_pos rfl, ih]
    · rw [if_neg hz, ih]
theorem p_areTricks (hw : CW σ w) (hx : XI w) (hT : TI T) (h1 : T.1 < 90000) : ∃ T', F_P_areTricks σ T = some (1, σ, T') ∧ TI T' ∧ T'.1 = T.1 + 1 := by
  have a := hw.1.n
  have t2 := hT.1
  have pl := hw.1.pl
  have p13 := hw.1.p13
  have g : G4 (zt_tn T 4) T.1 := ⟨⟨by omega, by rw [tn_1]; omega, by omega⟩, tn_s⟩
  obtain ⟨T1, a1, a2, a3⟩ := a_12 (k := T.1) hw hx (w 13).toNat zt_N 0 (zt_tn T 4) (by omega) (zN (by omega)) g (fun p p0 p1 => by rw [tn_z]; rfl)
  have g1 : G4 T1 T.1 := by
    unfold G4
    rw [a2.1.1, a2.1.2]
    exact g
  have c := a_284 hw g1 a3 (w 1).toNat zt_N 0 (by omega) (zN (by omega)) (by omega)
  refine ⟨T1, ?_, a2.1.ti (hT.tn (by decide)), a2.1.1⟩
  unfold F_P_areTricks
  rw [px_size1 hw, zt_byI, zt_ckI ⟨by omega, by omega⟩]
  show F_P_areTricks_12 zt_N (w 1) T.1 ((0 : Nat) : Int) σ (zt_tn T 4) = _
  rw [a1, c]
end TR0
