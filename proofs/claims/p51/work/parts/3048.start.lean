/-! A HAND BEGINS -/
/-- a piece of a row gets a number -/
def fl (a b v : Int) (r : Int → Int) : Int → Int := fun i => if a ≤ i ∧ i < b then v else r i
theorem fl_i {a b v i : Int} {r : Int → Int} (h : a ≤ i ∧ i < b) : fl a b v r i = v := if_pos h
theorem fl_o {a b v i : Int} {r : Int → Int} (h : i < a ∨ b ≤ i) : fl a b v r i = r i := if_neg (by omega)
theorem fl_nil {a b v : Int} {r : Int → Int} (h : b ≤ a) : fl a b v r = r := funext fun i => fl_o (by omega)
theorem fl_step {a b v : Int} {r : Int → Int} (h : a < b) : fl (a + 1) b v (ru r a v) = fl a b v r := funext fun i => by
  by_cases h1 : a + 1 ≤ i ∧ i < b
  · rw [fl_i h1, fl_i ⟨by omega, h1.2⟩]
  · rw [fl_o (by omega)]
    by_cases h2 : i = a
    · rw [h2, ru_s, fl_i ⟨by omega, h⟩]
    · rw [ru_o h2, fl_o (by omega)]
section FI
variable {σ : zt_S}
theorem e_fill_2 {c n : Nat} {v : Int} (hn : n ≤ 1000) : ∀ (m f : Nat) (k : Int) (r : Int → Int), k + m = n → m < f → 0 ≤ k → F_Rw_fill_2 c n f v k (rz c σ r) = some ((), rz c σ (fl k n v r))
  | m, 0, _, _, _, h1, _ => absurd h1 (Nat.not_lt_zero m)
  | 0, f + 1, k, r, h0, h1, h2 => by
    rw [F_Rw_fill_2, zt_ckI ⟨by unfold zt_in; omega, by unfold zt_in; omega⟩, if_neg (by omega), fl_nil (by omega)]
  | m + 1, f + 1, k, r, h0, h1, h2 => by
    rw [F_Rw_fill_2, zt_ckI ⟨by unfold zt_in; omega, by unfold zt_in; omega⟩, if_pos (by omega), zt_ckI (by omega), zt_letS, rz_up, e_fill_2 hn m f (k + 1) _ (by omega) (by omega) (by omega), fl_step (by omega)]
theorem e_fill {c n : Nat} {v : Int} (hn : n ≤ 1000) : F_Rw_fill c n v σ = some ((), rz c σ (fl 0 n v (σ.1 c))) := by
  have := e_fill_2 (σ := σ) (c := c) (v := v) hn n zt_N 0 (σ.1 c) (by omega) (zN (by omega)) (by omega)
  rw [rz_id] at this
  exact this
theorem be_fill {β : Type} {c n : Nat} {v : Int} (hn : n ≤ 1000) {K : Unit → zt_S → Option β} : zt_bd (F_Rw_fill c n v σ) K = K () (rz c σ (fl 0 n v (σ.1 c))) := by rw [e_fill hn]; rfl
theorem ec_clearHand_2 {t : Nat} : ∀ (m f : Nat) (k : Int) (σ : zt_S), k + m = 4 → m < f → 0 ≤ k → ∃ s, F_Tb_clearHand_2 t f k σ = F_Tb_clearHand_24 t s ∧ s.1 = σ.1 ∧ s.2.2 = σ.2.2 ∧ (∀ c j, c ≠ t + 2 → s.2.1 c j = σ.2.1 c j) ∧ (∀ j, k ≤ j → j < 4 → s.2.1 (t + 2) j = 0) ∧ (∀ j, j < k → s.2.1 (t + 2) j = σ.2.1 (t + 2) j)
  | m, 0, _, _, _, h1, _ => absurd h1 (Nat.not_lt_zero m)
  | 0, f + 1, k, σ, h0, h1, h2 => by
    refine ⟨σ, ?_, rfl, rfl, fun _ _ _ => rfl, fun j a b => by omega, fun _ _ => rfl⟩
    rw [F_Tb_clearHand_2, zt_ckI (by unfold zt_in; omega), if_neg (by omega)]
  | m + 1, f + 1, k, σ, h0, h1, h2 => by
    obtain ⟨s, g1, g2, g3, g4, g5, g6⟩ := ec_clearHand_2 m f (k + 1) (zt_uL σ (t + 2) k 0) (by omega) (by omega) (by omega)
    refine ⟨s, ?_, g2, g3, fun c j hc => by rw [g4 c j hc, uL_o (Or.inl hc)], fun j a b => ?_, fun j a => by rw [g6 j (by omega), uL_o (Or.inr (by omega))]⟩
    · rw [F_Tb_clearHand_2, zt_ckI (by unfold zt_in; omega), if_pos (by omega), zt_ckI (by omega), zt_letS, g1]
    · by_cases hj : j = k
      · rw [g6 j (by omega), hj, uL_s]
      · exact g5 j (by omega) b
/-- the table t, cleared for a hand -/
def CLH (t : Nat) (σ s : zt_S) : Prop := (∀ j, 0 ≤ j → j < 4 → s.2.1 (t + 2) j = 0 ∧ s.1 (t + 3) j = -1 ∧ s.1 (t + 4) j = 0 ∧ s.1 (t + 5) j = 0) ∧ s.2.1 t 10 = 0 ∧ s.1 t 16 = 0 ∧ s.1 t 17 = 0 ∧ (∀ c j, c ≠ t + 3 → c ≠ t + 4 → c ≠ t + 5 → (c ≠ t ∨ (j ≠ 16 ∧ j ≠ 17)) → s.1 c j = σ.1 c j) ∧ (∀ c j, c ≠ t + 2 → (c ≠ t ∨ j ≠ 10) → s.2.1 c j = σ.2.1 c j) ∧ s.2.2 = σ.2.2
theorem ec_clearHand {t : Nat} : ∃ s, F_Tb_clearHand t σ = some ((), s) ∧ CLH t σ s := by
  obtain ⟨u, g1, g2, g3, g4, g5, g6⟩ := ec_clearHand_2 (t := t) 4 zt_N 0 σ (by omega) (zN (by omega)) (by omega)
  unfold F_Tb_clearHand
  rw [g1]
  unfold F_Tb_clearHand_24
  rw [be_fill (by decide), be_fill (by decide), be_fill (by decide), zt_letS, zt_letS, zt_letS]
  refine ⟨_, rfl, fun j a b => ⟨?_, ?_, ?_, ?_⟩, ?_, ?_, ?_, fun c j h1 h2 h3 h4 => ?_, fun c j h1 h2 => ?_, ?_⟩
  · simp (disch := omega) only [up_2, uL_o, rz_2, g5]
  · simp (disch := omega) only [up_o, uL_1, rz_o, rz_r, fl_i]
  · simp (disch := omega) only [up_o, uL_1, rz_o, rz_r, fl_i]
  · simp (disch := omega) only [up_o, uL_1, rz_o, rz_r, fl_i]
  · simp (disch := omega) only [up_2, uL_s]
  · simp (disch := omega) only [up_o, up_s]
  · simp (disch := omega) only [up_s]
  · simp (disch := omega) only [up_o, uL_1, rz_o, g2]
  · simp (disch := omega) only [up_2, uL_o, rz_2, g4]
  · simp (disch := omega) only [up_2, uL_3, rz_2, g3]
/-- a trick begins -/
theorem ec_openHand {t : Nat} (ho : zt_su t < t ∨ t + 9 < zt_su t) (hv : zt_in (σ.1 t 14)) : ∃ s, F_Tb_openHand t σ = some ((), s) ∧ s.2 = σ.2 ∧ (∀ c j, c ≠ t + 1 → s.1 c j = σ.1 c j) ∧ s.1 (t + 1) 0 = σ.1 t 15 ∧ s.1 (t + 1) 1 = σ.1 t 15 ∧ s.1 (t + 1) 2 = 0 ∧ s.1 (t + 1) 3 = -1 ∧ s.1 (t + 1) 4 = 0 ∧ s.1 (t + 1) 5 = -1 ∧ s.1 (t + 1) 6 = -1 ∧ s.1 (t + 1) 7 = σ.1 t 14 ∧ s.1 (t + 1) 8 = (if σ.1 t 14 = -1 then 0 else σ.1 (zt_su t) 3) := by
  unfold F_Tb_openHand F_Tr_begin
  rw [zt_letS, zt_letS, zt_letS, zt_letS, zt_letS, zt_letS, zt_letS, zt_bdS]
  have e14 : (zt_up (zt_up (zt_up (zt_up (zt_up (zt_up (zt_up σ (t + 1) 0 (σ.1 t 15)) (t + 1) 1 (σ.1 t 15)) (t + 1) 2 0) (t + 1) 3 (-1)) (t + 1) 4 0) (t + 1) 5 (-1)) (t + 1) 6 (-1)).1 t 14 = σ.1 t 14 := by simp (disch := omega) only [up_o]
  have e3 : (zt_up (zt_up (zt_up (zt_up (zt_up (zt_up (zt_up σ (t + 1) 0 (σ.1 t 15)) (t + 1) 1 (σ.1 t 15)) (t + 1) 2 0) (t + 1) 3 (-1)) (t + 1) 4 0) (t + 1) 5 (-1)) (t + 1) 6 (-1)).1 (zt_su t) 3 = σ.1 (zt_su t) 3 := by simp (disch := omega) only [up_o]
  rw [ec_lightTrump ho (by rw [e14]; exact hv), zt_bdS, e14, e3]
  refine ⟨_, rfl, rfl, fun c j hc => ?_, ?_, ?_, ?_, ?_, ?_, ?_, ?_, ?_, ?_⟩
  · simp (disch := omega) only [up_o]
  all_goals simp (disch := omega) only [up_o, up_s]
end FI
/-! the reference's row -/
def rStart (w : Int → Int) : Int → Int := ru (ru (ru (ru (ru (fl 40 92 (-1) (fl 24 40 0 (fl 16 20 (-1) w))) 9 (w 8)) 12 0) 13 0) 10 (w 4)) 11 (if w 4 = -1 then 0 else w 5)
section SR
variable {σ : zt_S} {c0 : Nat}
theorem em_starts0_2 : ∀ (m f : Nat) (k : Int) (r : Int → Int), k + m = 4 → m < f → 0 ≤ k → F_M_starts0_2 c0 274 f k (rz c0 σ r) = F_M_starts0_22 c0 274 zt_N 0 (rz c0 σ (fl (16 + k) 20 (-1) r))
  | m, 0, _, _, _, h1, _ => absurd h1 (Nat.not_lt_zero m)
  | 0, f + 1, k, r, h0, h1, h2 => by
    rw [F_M_starts0_2, zt_ckI (by unfold zt_in; omega), if_neg (by omega), fl_nil (by omega)]
  | m + 1, f + 1, k, r, h0, h1, h2 => by
    rw [F_M_starts0_2, zt_ckI (by unfold zt_in; omega), if_pos (by omega), zt_ckI (by omega), zt_letS, rz_up, em_starts0_2 m f (k + 1) _ (by omega) (by omega) (by omega), ← Int.add_assoc, fl_step (by omega)]
theorem em_starts0_22 : ∀ (m f : Nat) (k : Int) (r : Int → Int), k + m = 16 → m < f → 0 ≤ k → F_M_starts0_22 c0 274 f k (rz c0 σ r) = F_M_starts0_43 c0 274 zt_N 0 (rz c0 σ (fl (24 + k) 40 0 r))
  | m, 0, _, _, _, h1, _ => absurd h1 (Nat.not_lt_zero m)
  | 0, f + 1, k, r, h0, h1, h2 => by
    rw [F_M_starts0_22, zt_ckI (by unfold zt_in; omega), if_neg (by omega), fl_nil (by omega)]
  | m + 1, f + 1, k, r, h0, h1, h2 => by
    rw [F_M_starts0_22, zt_ckI (by unfold zt_in; omega), if_pos (by omega), zt_ckI (by omega), zt_letS, rz_up, em_starts0_22 m f (k + 1) _ (by omega) (by omega) (by omega), ← Int.add_assoc, fl_step (by omega)]
theorem em_starts0_43 : ∀ (m f : Nat) (k : Int) (r : Int → Int), k + m = 52 → m < f → 0 ≤ k → F_M_starts0_43 c0 274 f k (rz c0 σ r) = F_M_starts0_62 c0 274 (rz c0 σ (fl (40 + k) 92 (-1) r))
  | m, 0, _, _, _, h1, _ => absurd h1 (Nat.not_lt_zero m)
  | 0, f + 1, k, r, h0, h1, h2 => by
    rw [F_M_starts0_43, zt_ckI (by unfold zt_in; omega), if_neg (by omega), fl_nil (by omega)]
  | m + 1, f + 1, k, r, h0, h1, h2 => by
    rw [F_M_starts0_43, zt_ckI (by unfold zt_in; omega), if_pos (by omega), zt_ckI (by omega), zt_letS, rz_up, em_starts0_43 m f (k + 1) _ (by omega) (by omega) (by omega), ← Int.add_assoc, fl_step (by omega)]
theorem em_starts0 (h : zt_in (σ.1 c0 4)) : F_M_starts0 c0 274 σ = some ((), rz c0 σ (rStart (σ.1 c0))) := by
  have e := em_starts0_2 (σ := σ) (c0 := c0) 4 zt_N 0 (σ.1 c0) (by omega) (zN (by omega)) (by omega)
  rw [rz_id, em_starts0_22 16 zt_N 0 _ (by omega) (zN (by omega)) (by omega), em_starts0_43 52 zt_N 0 _ (by omega) (zN (by omega)) (by omega)] at e
  unfold F_M_starts0
  rw [e]
  unfold F_M_starts0_62
  rw [zt_ckI (by omega), zt_ckI (by omega), zt_letS, zt_ckI (by omega), zt_letS, zt_ckI (by omega), zt_letS]
  rw [rz_up, rz_up, rz_up, rz_r]
  rw [em_lights (v := σ.1 c0 4) (by rw [rz_r]; simp (disch := omega) only [ru_o, fl_o]) h, zt_bdS, rz_r, rz_up, rz_up]
  unfold rStart
  rw [show (40 : Int) + 0 = 40 from rfl, show (24 : Int) + 0 = 24 from rfl, show (16 : Int) + 0 = 16 from rfl]
  have e8 : fl 40 92 (-1) (fl 24 40 0 (fl 16 20 (-1) (σ.1 c0))) 8 = σ.1 c0 8 := by simp (disch := omega) only [fl_o]
  have e5 : ru (ru (ru (fl 40 92 (-1) (fl 24 40 0 (fl 16 20 (-1) (σ.1 c0)))) 9 (σ.1 c0 8)) 12 0) 13 0 5 = σ.1 c0 5 := by simp (disch := omega) only [ru_o, fl_o]
  rw [e8, e5]
theorem rStart_v {w : Int → Int} : rStart w 9 = w 8 ∧ rStart w 12 = 0 ∧ rStart w 13 = 0 ∧ rStart w 10 = w 4 ∧ rStart w 11 = (if w 4 = -1 then 0 else w 5) := by
  unfold rStart
  refine ⟨?_, ?_, ?_, ?_, ?_⟩ <;> simp (disch := omega) only [ru_o, ru_s]
theorem rStart_f {w : Int → Int} {i : Int} (h : (0 ≤ i ∧ i ≤ 8) ∨ i = 14 ∨ i = 15 ∨ (20 ≤ i ∧ i < 24) ∨ 92 ≤ i) : rStart w i = w i := by
  unfold rStart
  simp (disch := omega) only [ru_o, fl_o]
theorem rStart_t {w : Int → Int} {i : Int} (h : 16 ≤ i ∧ i < 20) : rStart w i = -1 := by
  unfold rStart
  rw [ru_o (by omega), ru_o (by omega), ru_o (by omega), ru_o (by omega), ru_o (by omega), fl_o (by omega), fl_o (by omega), fl_i h]
theorem rStart_l {w : Int → Int} {i : Int} (h : 24 ≤ i ∧ i < 40) : rStart w i = 0 := by
  unfold rStart
  rw [ru_o (by omega), ru_o (by omega), ru_o (by omega), ru_o (by omega), ru_o (by omega), fl_o (by omega), fl_i h]
theorem rStart_h {w : Int → Int} {i : Int} (h : 40 ≤ i ∧ i < 92) : rStart w i = -1 := by
  unfold rStart
  rw [ru_o (by omega), ru_o (by omega), ru_o (by omega), ru_o (by omega), ru_o (by omega), fl_i h]
end SR
/-! cards go to the players in turn -/
def dlr (P : Int → Int) (pl : Int) : Nat → (Int → Int) → (Int → Int)
  | 0, w => w
  | m + 1, w => ru (dlr P pl m w) (40 + P (m : Int)) ((m : Int) % pl)
section DL
variable {P : Int → Int} {pl : Int} {w : Int → Int}
theorem dlr_cg {Q : Int → Int} : ∀ (m : Nat), (∀ k, 0 ≤ k → k < (m : Int) → P k = Q k) → dlr P pl m w = dlr Q pl m w
  | 0, _ => rfl
  | m + 1, h => by
    rw [dlr, dlr, dlr_cg m (fun k h0 h1 => h k h0 (by omega)), h (m : Int) (by omega) (by omega)]
theorem dlr_o {n : Int} (hP : PM n P) (hn : n ≤ 52) {i : Int} (hi : i < 40 ∨ 92 ≤ i) : ∀ (m : Nat), (m : Int) ≤ n → dlr P pl m w i = w i
  | 0, _ => rfl
  | m + 1, h => by
    have := hP.1 (m : Int) (by omega) (by omega)
    rw [dlr, ru_o (by omega), dlr_o hP hn hi m (by omega)]
theorem dlr_fresh {c : Int} : ∀ (m : Nat), (∀ k, 0 ≤ k → k < (m : Int) → P k ≠ c) → dlr P pl m w (40 + c) = w (40 + c)
  | 0, _ => rfl
  | m + 1, h => by
    have := h (m : Int) (by omega) (by omega)
    rw [dlr, ru_o (by omega), dlr_fresh m (fun k h0 h1 => h k h0 (by omega))]
theorem dlr_new {n : Int} (hP : PM n P) {m : Nat} (hm : (m : Int) < n) : dlr P pl m w (40 + P (m : Int)) = w (40 + P (m : Int)) :=
  dlr_fresh m (fun k h0 h1 z => by
    have := hP.2 k (m : Int) h0 (by omega) (by omega) hm z
    omega)
theorem dlr_rg {n : Int} (hP : PM n P) (hn : n ≤ 52) (hpl : 2 ≤ pl ∧ pl ≤ 4) (hw : ∀ c, 0 ≤ c → c < 52 → w (40 + c) = -1) : ∀ (m : Nat), (m : Int) ≤ n → ∀ c, 0 ≤ c → c < 52 → -1 ≤ dlr P pl m w (40 + c) ∧ dlr P pl m w (40 + c) < pl ∧ (n ≤ c → dlr P pl m w (40 + c) = -1)
  | 0, _, c, h0, h1 => by
    rw [dlr, hw c h0 h1]
    omega
  | m + 1, h, c, h0, h1 => by
    have ih := dlr_rg hP hn hpl hw m (by omega) c h0 h1
    have p := hP.1 (m : Int) (by omega) (by omega)
    have m0 := Int.emod_nonneg (m : Int) (show pl ≠ 0 by omega)
    have m1 := Int.emod_lt_of_pos (m : Int) (show 0 < pl by omega)
    rw [dlr]
    by_cases hc : c = P (m : Int)
    · rw [hc, ru_s]
      exact ⟨by omega, m1, fun z => by omega⟩
    · rw [ru_o (by omega)]
      exact ih
theorem div_next {m p : Int} (hpl : 2 ≤ pl ∧ pl ≤ 4) (hp : 0 ≤ p ∧ p < pl) (hm : 0 ≤ m) : (m + 1 + pl - 1 - p) / pl = (m + pl - 1 - p) / pl + (if m % pl = p then 1 else 0) := by
  have : pl = 2 ∨ pl = 3 ∨ pl = 4 := by omega
  rcases this with rfl | rfl | rfl
  · split <;> omega
  · split <;> omega
  · split <;> omega
theorem dlr_hc {n : Int} (hP : PM n P) (hn : n ≤ 52) (hpl : 2 ≤ pl ∧ pl ≤ 4) (hw : ∀ c, 0 ≤ c → c < 52 → w (40 + c) = -1) {p : Int} (hp : 0 ≤ p ∧ p < pl) : ∀ (m : Nat), (m : Int) ≤ n → wHc (dlr P pl m w) p = ((m : Int) + pl - 1 - p) / pl
  | 0, _ => by
    rw [dlr]
    unfold wHc wHd
    rw [cn_none 52 0 (fun c h0 h1 => by rw [hw c h0 (by omega)]; exact decide_eq_false (by omega))]
    have : pl = 2 ∨ pl = 3 ∨ pl = 4 := by omega
    rcases this with rfl | rfl | rfl <;> omega
  | m + 1, h => by
    have ih := dlr_hc hP hn hpl hw hp m (by omega)
    have q := hP.1 (m : Int) (by omega) (by omega)
    have f := dlr_new (pl := pl) (w := w) hP (m := m) (by omega)
    rw [hw _ (by omega) (by omega)] at f
    unfold wHc at ih ⊢
    rw [cn_upd (P := fun c => decide (wHd (dlr P pl m w) c = p)) (Q := fun c => decide (wHd (dlr P pl (m + 1) w) c = p)) (j := P (m : Int)) 52 0 (by omega) (by omega) (fun c h0 h1 hc => by
      unfold wHd
      rw [dlr, ru_o (by omega)]), ih]
    have e1 : wHd (dlr P pl m w) (P (m : Int)) = -1 := f
    have e2 : wHd (dlr P pl (m + 1) w) (P (m : Int)) = (m : Int) % pl := by unfold wHd; rw [dlr, ru_s]
    rw [e1, e2, decide_eq_false (show ¬ (-1 : Int) = p by omega)]
    have d := div_next (m := (m : Int)) hpl hp (by omega)
    have e3 : (((m + 1 : Nat) : Int) + pl - 1 - p) = (m : Int) + 1 + pl - 1 - p := by omega
    rw [e3, d]
    by_cases hz : (m : Int) % pl = p
    · simp [hz]
    · simp [hz]
end DL
