/-! THE CLASS closes a trick, and a hand -/
/-- the trick k alone has changed -/
def FK (k : Nat) (σ σ' : zt_S) : Prop := (∀ c j, c ≠ k → σ'.1 c j = σ.1 c j) ∧ σ'.2 = σ.2
theorem FK.up {k : Nat} {σ : zt_S} {b v : Int} : FK k σ (zt_up σ k b v) := ⟨fun c j h => up_o (Or.inl h), rfl⟩
theorem FK.tr {k : Nat} {a b c : zt_S} (h1 : FK k a b) (h2 : FK k b c) : FK k a c := ⟨fun x j h => (h2.1 x j h).trans (h1.1 x j h), h2.2.trans h1.2⟩
section EC
variable {σ : zt_S} {t k s : Nat} {w r : Int → Int}
theorem ec_dim {x : Int} (hks : k ≠ s) (hs : SUw σ s w) (hw : QI w) (h10 : σ.1 k 7 = w 10) (h11 : σ.1 k 8 = w 11) (h5 : σ.1 k 5 = x) (hx : 0 ≤ x ∧ x < 4 * w 0) : ∃ σ', F_Tr_dim k s (w 6) (w 7) σ = some ((), σ') ∧ FK k σ σ' ∧ (∀ j, j ≠ 7 → j ≠ 8 → σ'.1 k j = σ.1 k j) ∧ σ'.1 k 7 = rFade w (wS w x) 10 ∧ σ'.1 k 8 = rFade w (wS w x) 11 := by
  have a := hw.n
  have sx := wS_ltq hw hx.1 hx.2
  have su : SU σ s := by
    obtain ⟨h0, h1, h2, h3⟩ := hs
    unfold SU
    rw [h0, h1, h2, h3]
    exact ⟨a.1, a.2.1, a.2.2.1, a.2.2.2.2.2.2.1⟩
  unfold F_Tr_dim F_Tr_dim_47 F_Tr_dim_63 rFade
  by_cases h1 : w 11 = 0
  · refine ⟨σ, ?_, ⟨fun _ _ _ => rfl, rfl⟩, fun _ _ _ => rfl, ?_, ?_⟩
    · rw [h11, zt_ckI (by unfold zt_in; omega), if_pos h1]
    · rw [if_pos (Or.inl h1), ru_o (by omega), h10]
    · rw [if_pos (Or.inl h1), ru_s, h11, h1]
      split <;> omega
  · by_cases h2 : 0 < w 11 - w 6
    · refine ⟨zt_up σ k 8 (w 11 - w 6), ?_, FK.up, fun j _ h => up_o (Or.inr h), ?_, ?_⟩
      · rw [h11, zt_ckI (by unfold zt_in; omega), if_neg h1, zt_ckI (by unfold zt_in; omega), if_pos h2, zt_letS, up_s, zt_ckI (by unfold zt_in; omega), if_pos h2]
      · rw [if_pos (Or.inr h2), up_o (Or.inr (by omega)), h10, ru_o (by omega)]
      · rw [if_pos (Or.inr h2), up_s, ru_s, if_pos h2]
    · rw [h11, zt_ckI (by unfold zt_in; omega), if_neg h1, zt_ckI (by unfold zt_in; omega), if_neg h2, zt_letS, up_s, zt_ckI (by unfold zt_in; omega), if_neg (by omega), zt_ckI (by unfold zt_in; omega)]
      by_cases h7 : w 7 = 1
      · have e1 : F_Su_suitOf s ((zt_up σ k 8 0).1 k 5) (zt_up σ k 8 0) = some (wS w x, zt_up σ k 8 0) := by
          have su' : SU (zt_up σ k 8 0) s := by
            unfold SU
            rw [up_o (Or.inl hks.symm), up_o (Or.inl hks.symm), up_o (Or.inl hks.symm), up_o (Or.inl hks.symm)]
            exact su
          rw [up_o (Or.inr (by omega)), h5, e_suitOf su' ⟨hx.1, by omega⟩, up_o (Or.inl hks.symm), hs.1]
          rfl
        refine ⟨zt_up (zt_up (zt_up σ k 8 0) k 7 (wS w x)) k 8 (w 5), ?_, (FK.up.tr FK.up).tr FK.up, fun j h h' => ?_, ?_, ?_⟩
        · rw [if_neg (by omega), e1, zt_bdS, zt_letS, zt_ckI (by unfold zt_in; omega), if_neg (by omega), zt_letS, up_o (Or.inl hks.symm), up_o (Or.inl hks.symm), hs.2.2.2]
        · rw [up_o (Or.inr h'), up_o (Or.inr h), up_o (Or.inr h')]
        · rw [if_neg (by omega), up_o (Or.inr (by omega)), up_s, ru_o (by omega), ru_s, if_pos h7]
        · rw [if_neg (by omega), up_s, ru_s, if_pos h7]
      · have h70 : w 7 = 0 := by omega
        refine ⟨zt_up (zt_up (zt_up σ k 8 0) k 7 (-1)) k 8 0, ?_, (FK.up.tr FK.up).tr FK.up, fun j h h' => ?_, ?_, ?_⟩
        · rw [if_pos h70, zt_letS, zt_ckI (by unfold zt_in; omega), if_pos h70, zt_letS]
        · rw [up_o (Or.inr h'), up_o (Or.inr h), up_o (Or.inr h')]
        · rw [if_neg (by omega), up_o (Or.inr (by omega)), up_s, ru_o (by omega), ru_s, if_neg h7]
        · rw [if_neg (by omega), up_s, ru_s, if_neg h7]
theorem e_begin {v : Int} : ∃ σ', F_Tr_begin k v σ = some ((), σ') ∧ FK k σ σ' ∧ σ'.1 k 0 = v ∧ σ'.1 k 1 = v ∧ σ'.1 k 2 = 0 ∧ σ'.1 k 3 = -1 ∧ σ'.1 k 4 = 0 ∧ σ'.1 k 5 = -1 ∧ σ'.1 k 6 = -1 ∧ σ'.1 k 7 = σ.1 k 7 ∧ σ'.1 k 8 = σ.1 k 8 := by
  refine ⟨_, rfl, ((((((FK.up.tr FK.up).tr FK.up).tr FK.up).tr FK.up).tr FK.up).tr FK.up), ?_⟩
  simp [up_1]
theorem ec_finish {x : Int} (hks : k ≠ s) (hs : SUw σ s w) (hw : QI w) (h10 : σ.1 k 7 = w 10) (h11 : σ.1 k 8 = w 11) (h5 : σ.1 k 5 = x) (hx : 0 ≤ x ∧ x < 4 * w 0) : ∃ σ', F_Tr_finish k s (w 6) (w 7) σ = some ((), σ') ∧ FK k σ σ' ∧ σ'.1 k 0 = σ.1 k 6 ∧ σ'.1 k 1 = σ.1 k 6 ∧ σ'.1 k 2 = 0 ∧ σ'.1 k 3 = -1 ∧ σ'.1 k 4 = 0 ∧ σ'.1 k 5 = -1 ∧ σ'.1 k 6 = -1 ∧ σ'.1 k 7 = rFade w (wS w x) 10 ∧ σ'.1 k 8 = rFade w (wS w x) 11 := by
  obtain ⟨σ1, d1, d2, d3, d4, d5⟩ := ec_dim hks hs hw h10 h11 h5 hx
  obtain ⟨σ2, b1, b2, b3, b4, b5, b6, b7, b8, b9, b10, b11⟩ := e_begin (σ := σ1) (k := k) (v := σ1.1 k 6)
  have e6 := d3 6 (by omega) (by omega)
  refine ⟨σ2, ?_, d2.tr b2, by rw [b3, e6], by rw [b4, e6], b5, b6, b7, b8, b9, by rw [b10, d4], by rw [b11, d5]⟩
  unfold F_Tr_finish
  rw [d1, zt_bdS, b1, zt_bdS]
theorem e_isOver {v : Int → Int} (hs : SUw σ (zt_su t) v) (h16 : σ.1 t 16 = v 12) (hv : RI v) : F_Tb_isOver t σ = some (if wOv v = true then 1 else 0, σ) := by
  have a := hv.n
  have b := hv.pl
  have c := hv.p12
  unfold F_Tb_isOver F_Tb_isOver_19 wOv
  rw [ec_cardsOfHands hs, zt_bdS, h16]
  by_cases h1 : v 12 = v 1 * v 2
  · simp (disch := first | omega | (unfold zt_in; omega)) only [↓zt_ckI, ↓if_pos, ↓if_neg, if_true, if_false, zt_letS, zt_ckI, if_pos, if_neg, up_s, up_o, up_2, h1, decide_true, or_true, true_or]
  · simp (disch := first | omega | (unfold zt_in; omega)) only [↓zt_ckI, ↓if_pos, ↓if_neg, if_true, if_false, zt_letS, zt_ckI, if_pos, if_neg, up_s, up_o, up_2, h1, decide_false, Bool.false_eq_true, true_or]
theorem e_resultOf {p : Int} (hw : RI w) (e1 : σ.1 (t + 3) p = w (16 + p)) (e2 : σ.1 (t + 4) p = wTk w p) (hp : 0 ≤ p ∧ p < 4) : F_Tb_resultOf t p σ = some (wRs w p, σ) := by
  have a := wTk_lt hw (p := p)
  have b := hw.2.2.2.1 p hp.1 hp.2
  unfold F_Tb_resultOf F_Tb_resultOf_44 wRs
  by_cases h1 : w (16 + p) = -1
  · simp (disch := first | omega | (unfold zt_in; omega)) only [↓zt_ckI, ↓if_pos, ↓if_neg, if_true, if_false, zt_letS, zt_ckI, if_pos, if_neg, up_s, up_o, up_2, ↓be_at, e1, e2]
  · by_cases h2 : w (16 + p) = wTk w p
    · simp (disch := first | omega | (unfold zt_in; omega)) only [↓zt_ckI, ↓if_pos, ↓if_neg, if_true, if_false, zt_letS, zt_ckI, if_pos, if_neg, up_s, up_o, up_2, ↓be_at, e1, e2]
    · by_cases h3 : wTk w p < w (16 + p)
      · simp (disch := first | omega | (unfold zt_in; omega)) only [↓zt_ckI, ↓if_pos, ↓if_neg, if_true, if_false, zt_letS, zt_ckI, if_pos, if_neg, up_s, up_o, up_2, ↓be_at, e1, e2]
        rw [Int.neg_sub]
      · simp (disch := first | omega | (unfold zt_in; omega)) only [↓zt_ckI, ↓if_pos, ↓if_neg, if_true, if_false, zt_letS, zt_ckI, if_pos, if_neg, up_s, up_o, up_2, ↓be_at, e1, e2]
        have : -(0 - (w (16 + p) - wTk w p)) = w (16 + p) - wTk w p := by omega
        rw [this]
theorem ec_closeHand_12 (ho : OK t) (hw : RI w) : ∀ (m n : Nat) (p : Int) (τ : zt_S), p + m = w 1 → m < n → 0 ≤ p → SUw τ (zt_su t) w → (∀ q, 0 ≤ q → q < 4 → τ.1 (t + 3) q = w (16 + q) ∧ τ.1 (t + 4) q = wTk w q) →
    ∃ τ', F_Tb_closeHand_12 t n p τ = some ((), τ') ∧ (∀ c j, c ≠ t + 6 → τ'.1 c j = τ.1 c j) ∧ τ'.2 = τ.2 ∧ ∀ q, 0 ≤ q → q < 4 → τ'.1 (t + 6) q = τ.1 (t + 6) q + (if p ≤ q ∧ q < w 1 then wRs w q else 0)
  | m, 0, _, _, _, h1, _, _, _ => absurd h1 (Nat.not_lt_zero m)
  | 0, n + 1, p, τ, h0, h1, h2, hs, hr => by
    have a := hw.n
    rw [F_Tb_closeHand_12, hs.2.1, zt_ckI (by unfold zt_in; omega), if_neg (by omega)]
    exact ⟨τ, rfl, fun _ _ _ => rfl, rfl, fun q _ _ => by rw [if_neg (by omega), Int.add_zero]⟩
  | m + 1, n + 1, p, τ, h0, h1, h2, hs, hr => by
    have a := hw.n
    have hok : zt_su t < t ∨ t + 9 < zt_su t := ho
    obtain ⟨r1, r2⟩ := hr p h2 (by omega)
    rw [F_Tb_closeHand_12, hs.2.1, zt_ckI (by unfold zt_in; omega), if_pos (by omega), be_at ⟨h2, by omega⟩ (by omega), e_resultOf hw r1 r2 ⟨h2, by omega⟩, zt_bdS, be_set ⟨h2, by omega⟩ (by omega)]
    have ih := ec_closeHand_12 ho hw m n (p + 1) (zt_up τ (t + 6) p (τ.1 (t + 6) p + wRs w p)) (by omega) (by omega) (by omega) ⟨by rw [up_o (Or.inl (by omega))]; exact hs.1, by rw [up_o (Or.inl (by omega))]; exact hs.2.1, by rw [up_o (Or.inl (by omega))]; exact hs.2.2.1, by rw [up_o (Or.inl (by omega))]; exact hs.2.2.2⟩
      (fun q q0 q1 => ⟨by rw [up_o (Or.inl (by omega))]; exact (hr q q0 q1).1, by rw [up_o (Or.inl (by omega))]; exact (hr q q0 q1).2⟩)
    obtain ⟨τ', i1, i2, i3, i4⟩ := ih
    refine ⟨τ', i1, fun c j hc => by rw [i2 c j hc, up_o (Or.inl hc)], i3, fun q q0 q1 => ?_⟩
    rw [i4 q q0 q1]
    by_cases hq : q = p
    · rw [hq, up_s, if_neg (by omega), if_pos (by omega), Int.add_zero]
    · rw [up_o (Or.inr hq)]
      by_cases h3 : p + 1 ≤ q ∧ q < w 1
      · rw [if_pos h3, if_pos (by omega)]
      · rw [if_neg h3, if_neg (by omega)]
/-- closing the hand where it is over -/
theorem ec_close (ho : OK t) (hs : SUw σ (zt_su t) w) (hw : RI w) (h : TB σ t w) : ∃ σ', zt_bd (F_Tb_isOver t σ) (fun a s => zt_ck (zt_in a) (if a = 0 then F_Tb_closeTrick_178 t s else zt_bd (F_Tb_closeHand t s) fun _ s' => F_Tb_closeTrick_178 t s')) = some ((), σ') ∧ TB σ' t (rCount w) ∧ FT t σ σ' := by
  have a := hw.n
  have p12 := hw.p12
  have hok : zt_su t < t ∨ t + 9 < zt_su t := ho
  have e16 := h.2.2.2.2.2.2.2.2.2.2.2.1
  rw [e_isOver hs e16 hw, zt_bdS]
  by_cases hov : wOv w = true
  · have rc : rCount w = fun i => if 20 ≤ i ∧ i < 20 + w 1 then w i + wRs w (i - 20) else if i = 14 then w 14 + 1 else w i := by unfold rCount; rw [if_pos hov]
    obtain ⟨e11, e12, e13, e14, e15, _, e17, e18⟩ := h.2.2.2.2.2.2
    obtain ⟨σ', c1, c2, c3, c4⟩ := ec_closeHand_12 (t := t) ho hw (w 1).toNat zt_N 0 (zt_up σ t 18 (σ.1 t 18 + 1)) (by omega) (zN (by omega)) (by omega)
      ⟨by rw [up_o (Or.inl (by omega))]; exact hs.1, by rw [up_o (Or.inl (by omega))]; exact hs.2.1, by rw [up_o (Or.inl (by omega))]; exact hs.2.2.1, by rw [up_o (Or.inl (by omega))]; exact hs.2.2.2⟩
      (fun q q0 q1 => ⟨by rw [up_o (Or.inl (by omega))]; exact (h.2.2.1 q q0 q1).1, by rw [up_o (Or.inl (by omega))]; exact (h.2.2.1 q q0 q1).2.1⟩)
    have e : ∀ i, (i < 14 ∨ (14 < i ∧ i < 20) ∨ 24 ≤ i) → rCount w i = w i := fun i hi => rCount_o hw hi
    have i2 : ∀ c j, c ≠ t + 6 → (c ≠ t ∨ j ≠ 18) → σ'.1 c j = σ.1 c j := fun c j h1 h2 => by rw [c2 c j h1, up_o h2]
    have i22 : σ'.2 = σ.2 := c3
    have s0 : ∀ x, wS (rCount w) x = wS w x := fun x => by unfold wS; rw [e 0 (by omega)]
    have r0 : ∀ x, wR (rCount w) x = wR w x := fun x => by unfold wR; rw [e 0 (by omega)]
    have pl : wPl (rCount w) = wPl w := by unfold wPl; rw [e 12 (by omega), e 13 (by omega), e 1 (by omega)]
    have z : wPl w = 0 := by
      have y := hw.p13
      have y2 : w 12 = w 1 * w 2 := of_decide_eq_true hov
      unfold wPl
      rw [y.2.mpr y2, y2, Int.mul_comm]
      omega
    refine ⟨σ', ?_, ⟨?_, ?_, ?_, ?_, ?_, ?_, ?_⟩, ?_⟩
    · rw [if_pos hov, zt_ckI (by unfold zt_in; omega), if_neg (by omega)]
      unfold F_Tb_closeHand F_Tb_closeTrick_178
      rw [zt_letS, c1, zt_bdS]
    · have tk := h.1.of (τ := σ') (fun j => i2 _ j (by omega) (Or.inl (by omega)))
      unfold TK at tk ⊢
      have ld : wLd (rCount w) = wLd w := by unfold wLd; rw [pl, if_pos z, if_pos z]
      rw [pl, z, ld, e 9 (by omega), e 1 (by omega), e 10 (by omega), e 11 (by omega)]
      rw [z] at tk
      exact tk
    · intro p x h0 h1 h2 h3
      rw [i22, h.2.1 p x h0 h1 h2 h3, e 0 (by omega)]
      unfold wHd
      rw [e (40 + x) (by omega)]
    · intro p h0 h1
      obtain ⟨q1, q2, q3, q4⟩ := h.2.2.1 p h0 h1
      refine ⟨?_, ?_, ?_, ?_⟩
      · rw [i2 _ _ (by omega) (Or.inl (by omega)), q1, e _ (by omega)]
      · rw [i2 _ _ (by omega) (Or.inl (by omega)), q2, wTk_ag (e 13 (by omega)) (fun i hi => e i (by omega))]
      · rw [i2 _ _ (by omega) (Or.inl (by omega)), q3]
        exact (lk_lo (fun i h2 h3 => e _ (by omega)) ⟨h0, h1⟩).symm
      · rw [c4 p h0 h1, up_o (Or.inl (by omega)), q4, rc]
        dsimp only
        rw [show 20 + p - 20 = p by omega]
        by_cases hp : p < w 1
        · rw [if_pos ⟨h0, hp⟩, if_pos (by omega)]
        · rw [if_neg (by omega), if_neg (by omega), if_neg (by omega), Int.add_zero]
    · intro k h0 h1
      rw [e 12 (by omega)] at h1
      have g := h.2.2.2.1 k h0 h1
      rw [i2 _ _ (by omega) (Or.inl (by omega)), i2 _ _ (by omega) (Or.inl (by omega)), e _ (by omega), e _ (by omega)]
      exact g
    · intro k h0 h1
      rw [e 13 (by omega)] at h1
      rw [i2 _ _ (by omega) (Or.inl (by omega)), e _ (by omega)]
      exact h.2.2.2.2.1 k h0 h1
    · intro x h0 h1
      rw [i22, h.2.2.2.2.2.1 x h0 h1]
      unfold wPy
      rw [e 12 (by omega)]
      have cg := cn_congr (P := fun k => decide (rCount w (92 + k) = x)) (Q := fun k => decide (w (92 + k) = x)) (w 12).toNat 0 (fun k k0 k1 => by rw [e _ (by omega)])
      rw [cg]
    · refine ⟨?_, ?_, ?_, ?_, ?_, ?_, ?_, ?_⟩
      · rw [i2 _ _ (by omega) (Or.inr (by omega)), e11, e _ (by omega)]
      · rw [i2 _ _ (by omega) (Or.inr (by omega)), e12, e _ (by omega)]
      · rw [i2 _ _ (by omega) (Or.inr (by omega)), e13, e _ (by omega)]
      · rw [i2 _ _ (by omega) (Or.inr (by omega)), e14, e _ (by omega)]
      · rw [i2 _ _ (by omega) (Or.inr (by omega)), e15, e _ (by omega)]
      · rw [i2 _ _ (by omega) (Or.inr (by omega)), e16, e _ (by omega)]
      · rw [i2 _ _ (by omega) (Or.inr (by omega)), e17, e _ (by omega)]
      · rw [c2 _ _ (by omega), up_s, e18, rc]
        dsimp only
        rw [if_neg (by omega), if_pos rfl]
    · exact ⟨fun c j hc => ⟨i2 c j (by omega) (Or.inl (by omega)), by rw [i22]⟩, by rw [i22]⟩
  · have rc : rCount w = w := by unfold rCount; rw [if_neg hov]
    refine ⟨σ, ?_, by rw [rc]; exact h, FT.rf⟩
    rw [if_neg hov, zt_ckI (by unfold zt_in; omega), if_pos rfl]
    rfl
end EC
