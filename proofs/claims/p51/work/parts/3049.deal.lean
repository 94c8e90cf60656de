/-! deal: the class hands out as the reference's row says -/
section DE
variable {σ : zt_S} {t : Nat} {w : Int → Int} {n : Int}
/-- a row ahead of the first card -/
theorem RI.of0 (b : (4 ≤ w 0 ∧ w 0 ≤ 13) ∧ (2 ≤ w 1 ∧ w 1 ≤ 4) ∧ (1 ≤ w 2 ∧ w 2 ≤ 13) ∧ (w 1 * w 2 ≤ 4 * w 0) ∧ (0 ≤ w 3 ∧ w 3 ≤ 3) ∧ (-1 ≤ w 4 ∧ w 4 ≤ 3) ∧ (0 ≤ w 5 ∧ w 5 ≤ 30) ∧ (0 ≤ w 6 ∧ w 6 ≤ 9) ∧ (0 ≤ w 7 ∧ w 7 ≤ 1) ∧ (0 ≤ w 8 ∧ w 8 < w 1) ∧ (0 ≤ w 9 ∧ w 9 < w 1) ∧ (-1 ≤ w 10 ∧ w 10 ≤ 3) ∧ (0 ≤ w 11 ∧ w 11 ≤ 30)) (h12 : w 12 = 0) (h13 : w 13 = 0) (b14 : 0 ≤ w 14 ∧ w 14 ≤ 1000000) (b16 : ∀ p, 0 ≤ p → p < 4 → -1 ≤ w (16 + p) ∧ w (16 + p) ≤ 13) (b20 : ∀ p, 0 ≤ p → p < 4 → -1000000000 ≤ w (20 + p) ∧ w (20 + p) ≤ 1000000000) (b24 : ∀ k, 0 ≤ k → k < 16 → 0 ≤ w (24 + k) ∧ w (24 + k) ≤ 1) (b40 : ∀ c, 0 ≤ c → c < 52 → -1 ≤ w (40 + c) ∧ w (40 + c) < w 1 ∧ (4 * w 0 ≤ c → w (40 + c) = -1)) (hc : ∀ p, 0 ≤ p → p < w 1 → wHc w p = w 2) : RI w := by
  have m : 0 ≤ w 1 * w 2 := Int.mul_nonneg (by omega) (by omega)
  refine ⟨b, ?_, b14, b16, b20, b24, b40, fun k h0 h1 => by omega, fun j k h0 h1 h2 => by omega, fun t h0 h1 => by omega, fun p h0 h1 => ?_⟩
  · rw [h12, h13]
    omega
  · have pl : wPl w = 0 := by unfold wPl; rw [h12, h13]; omega
    have m0 := Int.emod_nonneg (p + w 1 - w 9) (show w 1 ≠ 0 by omega)
    rw [hc p h0 h1, h13, pl, if_neg (by omega)]
    omega
theorem TB.of0 (h12 : w 12 = 0) (h13 : w 13 = 0) (h9 : 0 ≤ w 9 ∧ w 9 < w 1) (k : σ.1 (t + 1) 0 = w 9 ∧ σ.1 (t + 1) 1 = w 9 ∧ σ.1 (t + 1) 2 = 0 ∧ σ.1 (t + 1) 3 = -1 ∧ σ.1 (t + 1) 4 = 0 ∧ σ.1 (t + 1) 5 = -1 ∧ σ.1 (t + 1) 6 = -1 ∧ σ.1 (t + 1) 7 = w 10 ∧ σ.1 (t + 1) 8 = w 11) (hh : ∀ p c, 0 ≤ p → p < 4 → 0 ≤ c → c < 64 → hb (σ.2.1 (t + 2) p) c = decide (c < 4 * w 0 ∧ wHd w c = p)) (hp : ∀ p, 0 ≤ p → p < 4 → σ.1 (t + 3) p = w (16 + p) ∧ σ.1 (t + 4) p = 0 ∧ σ.1 (t + 5) p = wLk w p ∧ σ.1 (t + 6) p = w (20 + p)) (hg : σ.2.1 t 10 = 0) (hs : σ.1 t 11 = w 3 ∧ σ.1 t 12 = w 6 ∧ σ.1 t 13 = w 7 ∧ σ.1 t 14 = w 4 ∧ σ.1 t 15 = w 8 ∧ σ.1 t 16 = 0 ∧ σ.1 t 17 = 0 ∧ σ.1 t 18 = w 14) : TB σ t w := by
  have pl : wPl w = 0 := by unfold wPl; rw [h12, h13]; omega
  obtain ⟨k0, k1, k2, k3, k4, k5, k6, k7, k8⟩ := k
  refine ⟨⟨⟨k0, ?_, ?_, ?_⟩, ⟨?_, ?_, ?_⟩, k7, k8⟩, hh, fun p h0 h1 => ?_, fun k h0 h1 => by omega, fun k h0 h1 => by omega, fun c h0 h1 => ?_, ?_⟩
  · rw [k1, pl, Int.add_zero, Int.emod_eq_of_lt h9.1 h9.2]
  · rw [k2, pl]
  · rw [k3]; unfold wLd; rw [if_pos pl]
  · rw [k4, if_pos pl]
  · rw [k5, if_pos pl]
  · rw [k6, if_pos pl]
  · have g := hp p h0 h1
    refine ⟨g.1, ?_, g.2.2⟩
    rw [g.2.1]
    unfold wTk
    rw [h13]
    rfl
  · rw [hg, hb_0]
    unfold wPy
    rw [h12]
    rfl
  · rw [h12, h13]
    exact hs
theorem e_give {p c : Int} (hp : 0 ≤ p ∧ p < 4) : F_Tb_give t p c σ = some ((), zt_uL σ (t + 2) p (σ.2.1 (t + 2) p ||| zt_ls 1 c)) := by
  unfold F_Tb_give
  rw [be_handOf hp, be_with, be_setHand hp]
/-- one card more goes to a player -/
theorem hb_give {r : Int → Int} {p c x : Int} (hp : 0 ≤ p ∧ p < 4) (hc : 0 ≤ c ∧ c < 4 * w 0) (h13 : w 0 ≤ 13) (hf : r (40 + c) = -1) (h : ∀ q d, 0 ≤ q → q < 4 → 0 ≤ d → d < 64 → hb (σ.2.1 (t + 2) q) d = decide (d < 4 * w 0 ∧ r (40 + d) = q)) : ∀ q d, 0 ≤ q → q < 4 → 0 ≤ d → d < 64 → hb ((zt_uL σ (t + 2) p (σ.2.1 (t + 2) p ||| zt_ls 1 c)).2.1 (t + 2) q) d = decide (d < 4 * w 0 ∧ ru r (40 + c) p (40 + d) = q) := by
  intro q d q0 q1 d0 d1
  by_cases hq : q = p
  · rw [hq, uL_s, hb_with ⟨hc.1, by omega⟩ ⟨d0, d1⟩, h p d hp.1 hp.2 d0 d1]
    by_cases hd : d = c
    · rw [hd, ru_s]
      simp [hc.2]
    · rw [ru_o (by omega)]
      simp [hd]
  · rw [uL_o (Or.inr hq), h q d q0 q1 d0 d1]
    by_cases hd : d = c
    · have a1 : ¬ r (40 + c) = q := by omega
      have a2 : ¬ p = q := fun z => hq z.symm
      rw [hd, ru_s]
      simp [a1, a2]
    · rw [ru_o (by omega)]
theorem ec_handOut_4 {P : Int → Int} {u : Int → Int} (hu : SUw σ (zt_su t) w) (hw : (4 ≤ w 0 ∧ w 0 ≤ 13) ∧ (2 ≤ w 1 ∧ w 1 ≤ 4) ∧ (1 ≤ w 2 ∧ w 2 ≤ 13) ∧ w 1 * w 2 ≤ 4 * w 0 ∧ (0 ≤ w 5 ∧ w 5 ≤ 30)) (hP : PM (4 * w 0) P) (h40 : ∀ c, 0 ≤ c → c < 52 → u (40 + c) = -1) : ∀ (m f k : Nat) (σ : zt_S), SUw σ (zt_su t) w → (k : Int) + m = w 1 * w 2 → m < f → (∀ j, 0 ≤ j → j < 4 * w 0 → σ.1 5 j = P j) → (∀ q d, 0 ≤ q → q < 4 → 0 ≤ d → d < 64 → hb (σ.2.1 (t + 2) q) d = decide (d < 4 * w 0 ∧ dlr P (w 1) k u (40 + d) = q)) → ∃ s, F_Tb_handOutInTurn_4 t f ((k : Int) % w 1) (k : Int) σ = some ((), s) ∧ s.1 = σ.1 ∧ s.2.2 = σ.2.2 ∧ (∀ c j, c ≠ t + 2 → s.2.1 c j = σ.2.1 c j) ∧ ∀ q d, 0 ≤ q → q < 4 → 0 ≤ d → d < 64 → hb (s.2.1 (t + 2) q) d = decide (d < 4 * w 0 ∧ dlr P (w 1) (k + m) u (40 + d) = q)
  | m, 0, _, _, _, _, h1, _, _ => absurd h1 (Nat.not_lt_zero m)
  | 0, f + 1, k, σ, hs, h0, h1, h2, h3 => by
    refine ⟨σ, ?_, rfl, rfl, fun _ _ _ => rfl, h3⟩
    rw [F_Tb_handOutInTurn_4, ed_cardsOfHands hs, zt_ckI ⟨by unfold zt_in; omega, by unfold zt_in; omega⟩, if_neg (by omega)]
  | m + 1, f + 1, k, σ, hs, h0, h1, h2, h3 => by
    have m0 := Int.emod_nonneg (k : Int) (show w 1 ≠ 0 by omega)
    have m1 := Int.emod_lt_of_pos (k : Int) (show 0 < w 1 by omega)
    have pk := hP.1 (k : Int) (by omega) (by omega)
    have su : SU σ (zt_su t) := by
      obtain ⟨a0, a1, a2, a3⟩ := hs
      unfold SU
      rw [a0, a1, a2, a3]
      exact ⟨hw.1, hw.2.1, hw.2.2.1, hw.2.2.2.2⟩
    obtain ⟨σ1, hσ1⟩ : ∃ s, s = zt_uL σ (t + 2) ((k : Int) % w 1) (σ.2.1 (t + 2) ((k : Int) % w 1) ||| zt_ls 1 (P (k : Int))) := ⟨_, rfl⟩
    have g1 := hb_give (σ := σ) (t := t) (w := w) (r := dlr P (w 1) k u) (p := (k : Int) % w 1) (c := P (k : Int)) (x := 0) ⟨m0, by omega⟩ pk hw.1.2 (by rw [dlr_new hP (by omega)]; exact h40 _ pk.1 (by omega)) h3
    rw [← hσ1] at g1
    have s1 : σ1.1 = σ.1 := by rw [hσ1]; rfl
    have hs1 : SUw σ1 (zt_su t) w := by
      unfold SUw
      rw [s1]
      exact hs
    obtain ⟨s, q1, q2, q3, q4, q5⟩ := ec_handOut_4 hu hw hP h40 m f (k + 1) σ1 hs1 (by omega) (by omega) (by rw [s1]; exact h2) g1
    refine ⟨s, ?_, by rw [q2, s1], by rw [q3, hσ1]; rfl, fun c j hc => by rw [q4 c j hc, hσ1, uL_o (Or.inl hc)], ?_⟩
    · have su1 : SU σ1 (zt_su t) := by unfold SU; rw [s1]; exact su
      have e1 : σ1.1 (zt_su t) 1 = w 1 := hs1.2.1
      rw [F_Tb_handOutInTurn_4, ed_cardsOfHands hs, zt_ckI ⟨by unfold zt_in; omega, by unfold zt_in; omega⟩, if_pos (by omega)]
      unfold F_Pk_cardAt
      rw [be_at ⟨by omega, by omega⟩ (by decide), zt_bdS, h2 _ (by omega) (by omega), e_give ⟨m0, by omega⟩, zt_bdS, ← hσ1, e_behind su1 ⟨m0, by rw [e1]; exact m1⟩, zt_bdS, e1, Int.emod_add_emod]
      exact q1
    · rw [show k + (m + 1) = k + 1 + m by omega]
      exact q5
theorem em_deals_12 {c1 : Nat} {P : Int → Int} {u : Int → Int} (hc : c1 ≠ 168) (hu : (4 ≤ u 0 ∧ u 0 ≤ 13) ∧ (2 ≤ u 1 ∧ u 1 ≤ 4) ∧ (1 ≤ u 2 ∧ u 2 ≤ 13) ∧ u 1 * u 2 ≤ 4 * u 0) (hP : PM (4 * u 0) P) {σ : zt_S} (h2 : ∀ j, 0 ≤ j → j < 4 * u 0 → σ.1 168 j = P j) : ∀ (m f k : Nat), (k : Int) + m = u 1 * u 2 → m < f → F_M_deals_12 c1 274 f (k : Int) (rz c1 σ (dlr P (u 1) k u)) = some ((), rz c1 σ (dlr P (u 1) (k + m) u))
  | m, 0, _, _, h1 => absurd h1 (Nat.not_lt_zero m)
  | 0, f + 1, k, h0, h1 => by
    have e1 : dlr P (u 1) k u 1 = u 1 := dlr_o hP (by omega) (by omega) k (by omega)
    have e2 : dlr P (u 1) k u 2 = u 2 := dlr_o hP (by omega) (by omega) k (by omega)
    rw [F_M_deals_12, zt_ckI (by omega), zt_ckI (by omega), rz_r, e1, e2, zt_ckI ⟨by unfold zt_in; omega, by unfold zt_in; omega⟩, if_neg (by omega)]
    rfl
  | m + 1, f + 1, k, h0, h1 => by
    have e1 : dlr P (u 1) k u 1 = u 1 := dlr_o hP (by omega) (by omega) k (by omega)
    have e2 : dlr P (u 1) k u 2 = u 2 := dlr_o hP (by omega) (by omega) k (by omega)
    have pk := hP.1 (k : Int) (by omega) (by omega)
    have e3 : (rz c1 σ (dlr P (u 1) k u)).1 168 (k : Int) = P (k : Int) := by rw [rz_o (Ne.symm hc), h2 _ (by omega) (by omega)]
    have ih := em_deals_12 hc hu hP h2 m f (k + 1) (by omega) (by omega)
    rw [F_M_deals_12, zt_ckI (by omega), zt_ckI (by omega), e3, rz_r, e1, e2, zt_ckI ⟨by unfold zt_in; omega, by unfold zt_in; omega⟩, if_pos (by omega), zt_ckI (by omega), zt_ckI (by omega), zt_ckI ⟨⟨by omega, by omega⟩, by omega, by omega⟩, zt_ckI (by omega), zt_letS, rz_up, show k + (m + 1) = k + 1 + m by omega, ← ih]
    rfl
/-- the reference deals into a row -/
theorem em_deals {c1 : Nat} {v : Int} (hc : c1 ≠ 168) (hv : 0 ≤ v ∧ v < 100003) (hu : (4 ≤ σ.1 c1 0 ∧ σ.1 c1 0 ≤ 13) ∧ (2 ≤ σ.1 c1 1 ∧ σ.1 c1 1 ≤ 4) ∧ (1 ≤ σ.1 c1 2 ∧ σ.1 c1 2 ≤ 13) ∧ σ.1 c1 1 * σ.1 c1 2 ≤ 4 * σ.1 c1 0) : ∃ s, F_M_deals c1 274 v σ = some ((), s) ∧ s.2 = σ.2 ∧ s.1 c1 = dlr (wMx (4 * σ.1 c1 0) v) (σ.1 c1 1) (σ.1 c1 1 * σ.1 c1 2).toNat (σ.1 c1) ∧ ∀ c j, c ≠ c1 → c ≠ 168 → s.1 c j = σ.1 c j := by
  have mm : 0 ≤ σ.1 c1 1 * σ.1 c1 2 := Int.mul_nonneg (by omega) (by omega)
  obtain ⟨r, g1, g2⟩ := em_piles (σ := σ) (v := v) (n := 4 * σ.1 c1 0) hv (by omega)
  have hP := wMx_pm (n := 4 * σ.1 c1 0) (seed := v) (by omega)
  have e : (rz 168 σ r).1 c1 = σ.1 c1 := funext fun j => rz_o hc
  have h2 : ∀ j, 0 ≤ j → j < 4 * σ.1 c1 0 → (rz 168 σ r).1 168 j = wMx (4 * σ.1 c1 0) v j := fun j h0 h1 => by rw [rz_r]; exact g2 j h0 h1
  have d := em_deals_12 (σ := rz 168 σ r) hc (u := σ.1 c1) hu hP h2 (σ.1 c1 1 * σ.1 c1 2).toNat zt_N 0 (by omega) (zN (by omega))
  have e0 : rz c1 (rz 168 σ r) (dlr (wMx (4 * σ.1 c1 0) v) (σ.1 c1 1) 0 (σ.1 c1)) = rz 168 σ r := by
    rw [dlr, ← e, rz_id]
  rw [e0, Nat.zero_add] at d
  refine ⟨rz c1 (rz 168 σ r) (dlr (wMx (4 * σ.1 c1 0) v) (σ.1 c1 1) (σ.1 c1 1 * σ.1 c1 2).toNat (σ.1 c1)), ?_, rfl, rz_r _ _ _, fun c j a b => by rw [rz_o a, rz_o b]⟩
  unfold F_M_deals
  rw [zt_ckI (by omega), g1, zt_bdS]
  exact d
/-- the row of a hand that is dealt -/
def rDeal (v : Int) (u : Int → Int) : Int → Int := dlr (wMx (4 * u 0) v) (u 1) (u 1 * u 2).toNat (rStart u)
theorem rDeal_s {v : Int} (h : RI w) {i : Int} (hi : i < 40 ∨ 92 ≤ i) : rDeal v w i = rStart w i := by
  have a := h.n
  have mm : 0 ≤ w 1 * w 2 := Int.mul_nonneg (by omega) (by omega)
  exact dlr_o (n := 4 * w 0) (wMx_pm (by omega)) (by omega) hi _ (by omega)
theorem RI.deal {v : Int} (h : RI w) : RI (rDeal v w) := by
  have a := h.n
  have mm : 0 ≤ w 1 * w 2 := Int.mul_nonneg (by omega) (by omega)
  have s := fun i hi => rDeal_s (v := v) (i := i) h hi
  have f := fun i hi => rStart_f (w := w) (i := i) hi
  have vv := rStart_v (w := w)
  have hP := wMx_pm (n := 4 * w 0) (seed := v) (by omega)
  have h40 : ∀ c, 0 ≤ c → c < 52 → rStart w (40 + c) = -1 := fun c h0 h1 => rStart_h (by omega)
  refine RI.of0 ?_ ?_ ?_ ?_ (fun p h0 h1 => ?_) (fun p h0 h1 => ?_) (fun k h0 h1 => ?_) (fun c h0 h1 => ?_) (fun p h0 h1 => ?_)
  · rw [s 0 (by omega), s 1 (by omega), s 2 (by omega), s 3 (by omega), s 4 (by omega), s 5 (by omega), s 6 (by omega), s 7 (by omega), s 8 (by omega), s 9 (by omega), s 10 (by omega), s 11 (by omega), f 0 (by omega), f 1 (by omega), f 2 (by omega), f 3 (by omega), f 4 (by omega), f 5 (by omega), f 6 (by omega), f 7 (by omega), f 8 (by omega), vv.1, vv.2.2.2.1, vv.2.2.2.2]
    refine ⟨a.1, a.2.1, a.2.2.1, a.2.2.2.1, a.2.2.2.2.1, a.2.2.2.2.2.1, a.2.2.2.2.2.2.1, a.2.2.2.2.2.2.2.1, a.2.2.2.2.2.2.2.2.1, a.2.2.2.2.2.2.2.2.2.1, a.2.2.2.2.2.2.2.2.2.1, a.2.2.2.2.2.1, ?_⟩
    split <;> omega
  · rw [s 12 (by omega), vv.2.1]
  · rw [s 13 (by omega), vv.2.2.1]
  · rw [s 14 (by omega), f 14 (by omega)]
    exact h.2.2.1
  · rw [s _ (by omega), rStart_t (by omega)]
    omega
  · rw [s _ (by omega), f _ (by omega)]
    exact h.2.2.2.2.1 p h0 h1
  · rw [s _ (by omega), rStart_l (by omega)]
    omega
  · rw [s 1 (by omega), s 0 (by omega), f 1 (by omega), f 0 (by omega)]
    exact dlr_rg (n := 4 * w 0) hP (by omega) a.2.1 h40 _ (by omega) c h0 h1
  · rw [s 1 (by omega), f 1 (by omega)] at h1
    rw [s 2 (by omega), f 2 (by omega)]
    unfold rDeal
    rw [dlr_hc (n := 4 * w 0) hP (by omega) a.2.1 h40 ⟨h0, h1⟩ _ (by omega), show (((w 1 * w 2).toNat : Nat) : Int) = w 1 * w 2 by omega]
    have q : w 1 = 2 ∨ w 1 = 3 ∨ w 1 = 4 := by omega
    rcases q with q | q | q <;> rw [q] at h1 ⊢ <;> omega
theorem RI.r8 (h : RI w) {x : Int} (hx : 0 ≤ x ∧ x < w 1) : RI (ru w 8 x) := by
  have a := h.n
  refine h.ex (ru_ex (by omega)) ?_ ?_ (fun p h0 h1 => ?_) (fun p h0 h1 => ?_) (fun p h0 h1 => ?_)
  · rw [ru_s, ru_o (by omega), ru_o (by omega), ru_o (by omega), ru_o (by omega), ru_o (by omega)]
    omega
  · rw [ru_o (by omega)]; exact h.2.2.1
  · rw [ru_o (by omega)]; exact h.2.2.2.1 p h0 h1
  · rw [ru_o (by omega)]; exact h.2.2.2.2.1 p h0 h1
  · rw [ru_o (by omega)]; exact h.2.2.2.2.2.1 p h0 h1
theorem op_deal {v : Int} (h : Inv n σ) (hi : zt_in v) : OP (n + 1) (F_L_deal v) (F_M_deal v) σ := by
  have hc := h.1
  have a := hc.1.n
  by_cases hv : 0 ≤ v ∧ v ≤ 99999
  · by_cases ho : wOv (σ.1 164) = true
    · obtain ⟨s, q1, q2⟩ := ec_keep hc h.2.2.1
      have ts := q2.tb hc h.2.2.1
      have ss := q2.su hc h.2.2.1
      have tt := ts.2.2.2.2.2.2
      have mm : 0 ≤ σ.1 164 1 * σ.1 164 2 := Int.mul_nonneg (by omega) (by omega)
      -- the row
      have e0 := Int.emod_nonneg (σ.1 164 8 + 1) (show σ.1 164 1 ≠ 0 by omega)
      have e1 := Int.emod_lt_of_pos (σ.1 164 8 + 1) (show 0 < σ.1 164 1 by omega)
      have ri8 := hc.1.r8 ⟨e0, e1⟩
      have ri := ri8.deal (v := v)
      obtain ⟨u, hu⟩ : ∃ u, u = ru (σ.1 164) 8 ((σ.1 164 8 + 1) % σ.1 164 1) := ⟨_, rfl⟩
      rw [← hu] at ri8 ri
      have u8 : u 8 = (σ.1 164 8 + 1) % σ.1 164 1 := by rw [hu, ru_s]
      have ue : ∀ i, i ≠ 8 → u i = σ.1 164 i := fun i hi => by rw [hu, ru_o hi]
      have u0 := ue 0 (by omega)
      have u1 := ue 1 (by omega)
      have u2 := ue 2 (by omega)
      have ds := fun i hi => rDeal_s (v := v) (i := i) ri8 hi
      have df := fun i hi => rStart_f (w := u) (i := i) hi
      have dv := rStart_v (w := u)
      have hP := wMx_pm (n := 4 * u 0) (seed := v) (by omega)
      -- the class
      obtain ⟨r, m1, m2⟩ := e_mix (σ := s) (v := v) (n := 4 * σ.1 164 0) (by omega) (by omega)
      obtain ⟨s2, c1, c2⟩ := ec_clearHand (σ := rz 5 s r) (t := 6)
      obtain ⟨d1, d2, d3, d4, d5, d6, d7⟩ := c2
      have z1 : ∀ c j, c ≠ 5 → c ≠ 9 → c ≠ 10 → c ≠ 11 → (c ≠ 6 ∨ (j ≠ 16 ∧ j ≠ 17)) → s2.1 c j = s.1 c j := fun c j b1 b2 b3 b4 b5 => by rw [d5 c j b2 b3 b4 b5, rz_o b1]
      obtain ⟨s3, hs3⟩ : ∃ x, x = zt_up s2 6 15 (u 8) := ⟨_, rfl⟩
      have su3 : SUw s3 (zt_su 6) u := by
        obtain ⟨y0, y1, y2, y3⟩ := ss
        rw [hs3]
        refine ⟨?_, ?_, ?_, ?_⟩
        · rw [up_o (Or.inl (by decide)), z1 _ _ (by decide) (by decide) (by decide) (by decide) (by decide), u0]; exact y0
        · rw [up_o (Or.inl (by decide)), z1 _ _ (by decide) (by decide) (by decide) (by decide) (by decide), u1]; exact y1
        · rw [up_o (Or.inl (by decide)), z1 _ _ (by decide) (by decide) (by decide) (by decide) (by decide), u2]; exact y2
        · rw [up_o (Or.inl (by decide)), z1 _ _ (by decide) (by decide) (by decide) (by decide) (by decide), ue 5 (by omega)]; exact y3
      have hh0 : ∀ q d, 0 ≤ q → q < 4 → 0 ≤ d → d < 64 → hb (s3.2.1 (6 + 2) q) d = decide (d < 4 * u 0 ∧ dlr (wMx (4 * u 0) v) (u 1) 0 (rStart u) (40 + d) = q) := by
        intro q d h0 h1 h2 h3
        rw [hs3, up_2, (d1 q h0 h1).1, hb_0, dlr]
        by_cases hd : d < 4 * u 0
        · rw [rStart_h (by omega)]
          exact (decide_eq_false (by omega)).symm
        · exact (decide_eq_false (by omega)).symm
      obtain ⟨s4, f1, f2, f3, f4, f5⟩ := ec_handOut_4 (σ := s3) (t := 6) (w := u) (u := rStart u) su3 ⟨by omega, by omega, by omega, by rw [u0, u1, u2]; exact a.2.2.2.1, by rw [ue 5 (by omega)]; omega⟩ hP (fun c h0 h1 => rStart_h (by omega)) (u 1 * u 2).toNat zt_N 0 s3 su3 (by rw [u1, u2]; omega) (zN (by rw [u1, u2]; omega)) (fun j h0 h1 => by
        rw [hs3, up_o (Or.inl (by decide)), d5 _ _ (by omega) (by omega) (by omega) (by omega), rz_r, m2 j h0 (by rw [← u0]; exact h1), u0]) hh0
      rw [Nat.zero_add] at f5
      have s43 : ∀ c j, s4.1 c j = s3.1 c j := fun c j => by rw [f2]
      have o14 : s4.1 6 14 = u 4 := by
        rw [s43, hs3, up_o (by omega), z1 _ _ (by decide) (by decide) (by decide) (by decide) (by decide), ue 4 (by omega)]
        exact tt.2.2.2.1
      have o15 : s4.1 6 15 = u 8 := by rw [s43, hs3, up_s]
      obtain ⟨s5, g1, g2, g3, g4, g5, g6, g7, g8, g9, g10, g11, g12⟩ := ec_openHand (σ := s4) (t := 6) (by decide) (by rw [o14, ue 4 (by omega)]; unfold zt_in; omega)
      have w5 : ∀ c j, c ≠ 5 → c ≠ 7 → c ≠ 9 → c ≠ 10 → c ≠ 11 → (c ≠ 6 ∨ (j ≠ 15 ∧ j ≠ 16 ∧ j ≠ 17)) → s5.1 c j = s.1 c j := fun c j b1 b2 b3 b4 b5 b6 => by
        rw [g3 c j b2, s43, hs3, up_o (by omega), z1 c j b1 b3 b4 b5 (by omega)]
      have tb5 : TB s5 6 (rDeal v u) := by
        have p1 : ∀ {c : Nat} {j : Int}, c ≠ 7 → (c ≠ 6 ∨ j ≠ 15) → s5.1 c j = s2.1 c j := fun {c j} b1 b2 => by rw [g3 c j b1, s43, hs3, up_o (by omega)]
        refine TB.of0 ?_ ?_ ?_ ?_ (fun q d h0 h1 h2 h3 => ?_) (fun q h0 h1 => ?_) ?_ ?_
        · rw [ds 12 (by omega), dv.2.1]
        · rw [ds 13 (by omega), dv.2.2.1]
        · rw [ds 9 (by omega), ds 1 (by omega), df 1 (by omega), dv.1, u8, u1]
          exact ⟨e0, e1⟩
        · rw [ds 9 (by omega), ds 10 (by omega), ds 11 (by omega), dv.1, dv.2.2.2.1, dv.2.2.2.2, g4, g5, g6, g7, g8, g9, g10, g11, g12, o14, o15]
          refine ⟨rfl, rfl, rfl, rfl, rfl, rfl, rfl, rfl, ?_⟩
          have y : s4.1 (zt_su 6) 3 = u 5 := by rw [s43]; exact su3.2.2.2
          rw [y]
        · rw [g2, f5 q d h0 h1 h2 h3, ds 0 (by omega), df 0 (by omega)]
          rfl
        · have dq := d1 q h0 h1
          have tq := ts.2.2.1 q h0 h1
          refine ⟨?_, ?_, ?_, ?_⟩
          · rw [p1 (by omega) (by omega), dq.2.1, ds _ (by omega), rStart_t (by omega)]
          · rw [p1 (by omega) (by omega), dq.2.2.1]
          · rw [p1 (by omega) (by omega), dq.2.2.2]
            unfold wLk
            rw [ds _ (by omega), ds _ (by omega), ds _ (by omega), ds _ (by omega), rStart_l (by omega), rStart_l (by omega), rStart_l (by omega), rStart_l (by omega)]
            rfl
          · rw [w5 _ _ (by omega) (by omega) (by omega) (by omega) (by omega) (by omega), ds _ (by omega), df _ (by omega), ue _ (by omega)]
            exact tq.2.2.2
        · rw [g2, f4 6 10 (by decide), hs3, up_2]
          exact d2
        · rw [ds 3 (by omega), ds 6 (by omega), ds 7 (by omega), ds 4 (by omega), ds 8 (by omega), ds 14 (by omega), df 3 (by omega), df 6 (by omega), df 7 (by omega), df 4 (by omega), df 8 (by omega), df 14 (by omega), ue 3 (by omega), ue 6 (by omega), ue 7 (by omega), ue 4 (by omega), ue 14 (by omega)]
          refine ⟨?_, ?_, ?_, ?_, ?_, ?_, ?_, ?_⟩
          · rw [w5 _ _ (by omega) (by omega) (by omega) (by omega) (by omega) (by omega)]; exact tt.1
          · rw [w5 _ _ (by omega) (by omega) (by omega) (by omega) (by omega) (by omega)]; exact tt.2.1
          · rw [w5 _ _ (by omega) (by omega) (by omega) (by omega) (by omega) (by omega)]; exact tt.2.2.1
          · rw [w5 _ _ (by omega) (by omega) (by omega) (by omega) (by omega) (by omega)]; exact tt.2.2.2.1
          · rw [g3 _ _ (by decide), o15]
          · rw [p1 (by omega) (by omega)]; exact d3
          · rw [p1 (by omega) (by omega)]; exact d4
          · rw [w5 _ _ (by omega) (by omega) (by omega) (by omega) (by omega) (by omega)]; exact tt.2.2.2.2.2.2.2
      refine op_done h (σc := s5) (v := u 8) (w' := rDeal v u) ?_ (q2.kd h.2.2.1 (fun c j hc => w5 c j (by omega) (by omega) (by omega) (by omega) (by omega) (by omega)) (fun c j hc => by rw [g2, f4 c j (by omega), hs3, up_2, d6 c j (by omega) (by omega)]; rfl) (by rw [g2, f3, hs3, up_2, d7]; rfl) tb5) (fun τ e => ?_) ri ?_ (fun j hj => by rw [ds j (by omega), df j (by omega), ue j (by omega)])
      · unfold F_L_deal F_C_deal
        have e15 : s2.1 6 15 = σ.1 164 8 := by rw [z1 _ _ (by decide) (by decide) (by decide) (by decide) (by decide)]; exact tt.2.2.2.2.1
        have su2 : SUw s2 3 (σ.1 164) := by
          obtain ⟨y0, y1, y2, y3⟩ := ss
          refine ⟨?_, ?_, ?_, ?_⟩
          · rw [z1 _ _ (by decide) (by decide) (by decide) (by decide) (by decide)]; exact y0
          · rw [z1 _ _ (by decide) (by decide) (by decide) (by decide) (by decide)]; exact y1
          · rw [z1 _ _ (by decide) (by decide) (by decide) (by decide) (by decide)]; exact y2
          · rw [z1 _ _ (by decide) (by decide) (by decide) (by decide) (by decide)]; exact y3
        rw [ec_needRange hi (by decide) (by decide), if_pos hv, zt_bxS, ed_isOver_t hc.hu hc.1 hc.2.1 ho, zt_ckI (by decide), if_neg (by decide), q1, zt_bdS, ed_cardCount ss, m1, zt_bdS, c1, zt_bdS, e15, ed_behind su2 hc.1 ⟨by omega, by omega⟩, zt_letS, ← u8, ← hs3]
        unfold F_Tb_handOutInTurn
        have f1' : F_Tb_handOutInTurn_4 6 zt_N 0 0 s3 = some ((), s4) := by
          have := f1
          rw [show ((0 : Nat) : Int) % u 1 = 0 from Int.zero_emod _] at this
          exact this
        rw [f1', zt_bdS, g1, zt_bdS, zt_bxS, zt_letS, show s5.1 7 0 = u 8 from by rw [g4, o15]]
      · obtain ⟨v1, v2⟩ := h.u5 e
        obtain ⟨s', y1, y2⟩ := em_kept v1
        have er : (zt_up τ 163 0 0).1 164 = σ.1 164 := by rw [up_f (by decide), v2]
        have sr : s'.1 164 = σ.1 164 := by rw [y2.row, v2]
        obtain ⟨x1, hx1⟩ : ∃ x, x = zt_up s' 164 8 ((σ.1 164 8 + 1) % σ.1 164 1) := ⟨_, rfl⟩
        have xr : x1.1 164 = u := by rw [hx1, row_up, sr, hu]
        have st := em_starts0 (σ := x1) (c0 := 164) (by rw [xr, ue 4 (by omega)]; unfold zt_in; omega)
        rw [xr] at st
        have xs : (rz 164 x1 (rStart u)).1 164 = rStart u := rz_r _ _ _
        obtain ⟨x2, k1, k2, k3, k4⟩ := em_deals (σ := rz 164 x1 (rStart u)) (c1 := 164) (v := v) (by decide) (by omega) (by rw [xs, df 0 (by omega), df 1 (by omega), df 2 (by omega), u0, u1, u2]; exact ⟨a.1, a.2.1, a.2.2.1, a.2.2.2.1⟩)
        rw [xs, df 0 (by omega), df 1 (by omega), df 2 (by omega)] at k3
        have k3' : x2.1 164 = rDeal v u := k3
        refine ⟨x2, ?_, y2.ke (fun c j b1 b2 => by rw [k4 c j b1 b2, rz_o b1, hx1, up_o (Or.inl b1)]) (by rw [k2, rz_2, hx1, up_2]) k3'⟩
        unfold F_M_deal
        rw [zt_letS, eb_inI zl_0 zl_99999 hi (by decide) (by decide) hv, eb_fails1 (up_s _ _ _ _), zt_ckI zt_in0, if_pos rfl, eb_isOver_t (by rw [er]; exact hc.1) (by rw [er]; exact ho), zt_ckI (by decide), if_neg (by decide), y1, zt_bdS, sr, zt_ckI ⟨⟨by omega, by omega⟩, by omega, by omega⟩, zt_letS, ← hx1, st, zt_bdS, k1, zt_bdS, k3', ds 9 (by omega), dv.1]
      · refine RB.up (n := n) ⟨?_, fun p h0 h1 => ?_⟩ (by omega)
        · rw [ds 14 (by omega), df 14 (by omega), ue 14 (by omega)]; exact h.2.1.1
        · rw [ds _ (by omega), df _ (by omega), ue _ (by omega)]; exact h.2.1.2 p h0 h1
    · refine AK.op (ak_ok (v := -2) ?_ ?_) h
      · unfold F_L_deal F_C_deal
        rw [ec_needRange hi (by decide) (by decide), if_pos hv, zt_bxS, ed_isOver_f hc.hu hc.1 hc.2.1 ho, zt_ckI (by decide), if_pos rfl, zt_bxS, zt_letS]
      · have er : (zt_up (zt_uL σ 184 0 (zt_l (-2))) 163 0 0).1 164 = σ.1 164 := up_f (by decide)
        unfold F_M_deal
        rw [zt_letS, eb_inI zl_0 zl_99999 hi (by decide) (by decide) hv, eb_fails1 (up_s _ _ _ _), zt_ckI zt_in0, if_pos rfl, eb_isOver_f (by rw [er]; exact hc.1) (by rw [er]; exact ho), zt_ckI (by decide), if_pos rfl]
  · refine op_no h (e := 1) (u := 0) (Or.inl rfl) ?_ ?_
    · unfold F_L_deal F_C_deal
      rw [ec_needRange hi (by decide) (by decide), if_neg hv]
      rfl
    · unfold F_M_deal
      rw [zt_letS, eb_inO zl_0 zl_99999 hi (by decide) (by decide) hv, eb_fails0 (Or.inl rfl) (up_s _ _ _ _), zt_ckI (by decide), if_neg (by decide), up_up]
end DE
