/-! THE CLASS puts a card down: up to the trick's end -/
/-- the table t and its setup lie apart -/
def OK (t : Nat) : Prop := zt_su t < t ∨ t + 9 < zt_su t
/-- outside the table t nothing has changed -/
def FT (t : Nat) (σ σ' : zt_S) : Prop := (∀ c j, (c < t ∨ t + 9 < c) → σ'.1 c j = σ.1 c j ∧ σ'.2.1 c j = σ.2.1 c j) ∧ σ'.2.2 = σ.2.2
theorem FT.rf {t : Nat} {σ : zt_S} : FT t σ σ := ⟨fun _ _ _ => ⟨rfl, rfl⟩, rfl⟩
theorem FT.tr {t : Nat} {a b c : zt_S} (h1 : FT t a b) (h2 : FT t b c) : FT t a c := ⟨fun x j hx => ⟨(h2.1 x j hx).1.trans (h1.1 x j hx).1, (h2.1 x j hx).2.trans (h1.1 x j hx).2⟩, h2.2.trans h1.2⟩
theorem FT.up {t c : Nat} {σ : zt_S} {b v : Int} (h : t ≤ c ∧ c ≤ t + 9) : FT t σ (zt_up σ c b v) := ⟨fun x j hx => ⟨up_o (Or.inl (by omega)), rfl⟩, rfl⟩
theorem FT.uL {t c : Nat} {σ : zt_S} {b : Int} {v : Int64} (h : t ≤ c ∧ c ≤ t + 9) : FT t σ (zt_uL σ c b v) := ⟨fun x j hx => ⟨rfl, uL_o (Or.inl (by omega))⟩, rfl⟩
theorem FT.su {t : Nat} {σ σ' : zt_S} {w : Int → Int} (h : FT t σ σ') (ho : OK t) (hs : SUw σ (zt_su t) w) : SUw σ' (zt_su t) w := by
  unfold OK at ho
  obtain ⟨h0, h1, h2, h3⟩ := hs
  refine ⟨?_, ?_, ?_, ?_⟩
  · rw [(h.1 _ _ (by omega)).1]; exact h0
  · rw [(h.1 _ _ (by omega)).1]; exact h1
  · rw [(h.1 _ _ (by omega)).1]; exact h2
  · rw [(h.1 _ _ (by omega)).1]; exact h3
theorem SUw.ag {σ : zt_S} {s : Nat} {w w' : Int → Int} (hs : SUw σ s w) (h0 : w' 0 = w 0) (h1 : w' 1 = w 1) (h2 : w' 2 = w 2) (h5 : w' 5 = w 5) : SUw σ s w' := ⟨by rw [h0]; exact hs.1, by rw [h1]; exact hs.2.1, by rw [h2]; exact hs.2.2.1, by rw [h5]; exact hs.2.2.2⟩
section EC
variable {σ : zt_S} {t : Nat} {w : Int → Int} {c : Int}
theorem lk_set (hw : RI w) {p s : Int} (hp : 0 ≤ p ∧ p < 4) (hs : 0 ≤ s ∧ s < 4) : zt_or (wLk w p) (zt_shl 1 s) = wLk (ru w (24 + 4 * p + s) 1) p := by
  obtain ⟨⟨a0, a1⟩, ⟨b0, b1⟩, ⟨c0, c1⟩, ⟨d0, d1⟩⟩ := hw.lk hp
  have h0 : 0 ≤ wLk w p ∧ wLk w p < 16 := by unfold wLk; omega
  obtain ⟨v, hv⟩ := Int.eq_ofNat_of_zero_le h0.1
  obtain ⟨n, rfl⟩ := Int.eq_ofNat_of_zero_le hs.1
  rw [hv, lk_or v (by omega) n (by omega)]
  unfold wLk at hv
  unfold wLk
  have hn : n = 0 ∨ n = 1 ∨ n = 2 ∨ n = 3 := by omega
  rcases hn with rfl | rfl | rfl | rfl
  · have z : 24 + 4 * p + ((0 : Nat) : Int) = 24 + 4 * p := by omega
    rw [z, ru_s, ru_o (i := 24 + 4 * p + 1) (by omega), ru_o (i := 24 + 4 * p + 2) (by omega), ru_o (i := 24 + 4 * p + 3) (by omega)]
    simp only [Nat.pow_zero, Nat.div_one]
    split <;> omega
  · have z : 24 + 4 * p + ((1 : Nat) : Int) = 24 + 4 * p + 1 := by omega
    rw [z, ru_s, ru_o (i := 24 + 4 * p) (by omega), ru_o (i := 24 + 4 * p + 2) (by omega), ru_o (i := 24 + 4 * p + 3) (by omega)]
    simp only [show 2 ^ 1 = 2 from rfl]
    split <;> omega
  · have z : 24 + 4 * p + ((2 : Nat) : Int) = 24 + 4 * p + 2 := by omega
    rw [z, ru_s, ru_o (i := 24 + 4 * p) (by omega), ru_o (i := 24 + 4 * p + 1) (by omega), ru_o (i := 24 + 4 * p + 3) (by omega)]
    simp only [show 2 ^ 2 = 4 from rfl]
    split <;> omega
  · have z : 24 + 4 * p + ((3 : Nat) : Int) = 24 + 4 * p + 3 := by omega
    rw [z, ru_s, ru_o (i := 24 + 4 * p) (by omega), ru_o (i := 24 + 4 * p + 1) (by omega), ru_o (i := 24 + 4 * p + 2) (by omega)]
    simp only [show 2 ^ 3 = 8 from rfl]
    split <;> omega
theorem lk_oth {p q s v : Int} (hp : 0 ≤ p ∧ p < 4) (hs : 0 ≤ s ∧ s < 4) (hq : 0 ≤ q ∧ q < 4) (h : q ≠ p) : wLk (ru w (24 + 4 * p + s) v) q = wLk w q := by
  unfold wLk
  rw [ru_o (by omega), ru_o (by omega), ru_o (by omega), ru_o (by omega)]
theorem lk_lo {w' : Int → Int} (e : ∀ i, 24 ≤ i → i < 40 → w' i = w i) {q : Int} (hq : 0 ≤ q ∧ q < 4) : wLk w' q = wLk w q := by
  unfold wLk
  rw [e _ (by omega) (by omega), e _ (by omega) (by omega), e _ (by omega) (by omega), e _ (by omega) (by omega)]
theorem ec_noteLack (hw : RI w) (h : TB σ t w) (ho : wOv w = false) (hc : 0 ≤ c ∧ c < 4 * w 0) : ∃ σ', F_Tb_noteLack t (wTn w) (wS w c) σ = some ((), σ') ∧ (∀ c' j, c' ≠ t + 5 → σ'.1 c' j = σ.1 c' j) ∧ σ'.2 = σ.2 ∧ ∀ q, 0 ≤ q → q < 4 → σ'.1 (t + 5) q = wLk (rLack w c) q := by
  have a := hw.n
  have b := hw.wpl
  have tt := wTn_lt hw
  have t2 := tt.2.2 ho
  have l := wLd_lt hw
  have d := wS_lt hw hc.1 hc.2
  have k2 := h.1.1.2.2.1
  have k3 := h.1.1.2.2.2
  have e11 := h.2.2.2.2.2.2.1
  have lk := fun q h0 h1 => (h.2.2.1 q h0 h1).2.2.1
  unfold F_Tb_noteLack
  by_cases h1 : w 3 = 0 ∨ wPl w = 0 ∨ wS w c = wLd w
  · have e : rLack w c = w := by unfold rLack; rw [if_pos h1]
    rw [e]
    refine ⟨σ, ?_, fun _ _ _ => rfl, rfl, lk⟩
    by_cases h3 : w 3 = 0
    · simp (disch := first | omega | (unfold zt_in; omega)) only [↓zt_ckI, ↓if_pos, ↓if_neg, if_true, if_false, zt_letS, zt_ckI, if_pos, if_neg, up_s, up_o, up_2, F_Tb_noteLack_54, e11]
    · by_cases h4 : wPl w = 0
      · simp (disch := first | omega | (unfold zt_in; omega)) only [↓zt_ckI, ↓if_pos, ↓if_neg, if_true, if_false, zt_letS, zt_ckI, if_pos, if_neg, up_s, up_o, up_2, F_Tb_noteLack_54, e11, k2]
      · have h5 : wS w c = wLd w := by omega
        simp (disch := first | omega | (unfold zt_in; omega)) only [↓zt_ckI, ↓if_pos, ↓if_neg, if_true, if_false, zt_letS, zt_ckI, if_pos, if_neg, up_s, up_o, up_2, F_Tb_noteLack_54, e11, k2, k3]
  · have e : rLack w c = ru w (24 + 4 * wTn w + wLd w) 1 := by unfold rLack; rw [if_neg h1]
    have l2 := l.2.2 (by omega)
    rw [e]
    refine ⟨zt_up σ (t + 5) (wTn w) (wLk (ru w (24 + 4 * wTn w + wLd w) 1) (wTn w)), ?_, fun c' j hc' => up_o (Or.inl hc'), rfl, fun q h0 q1 => ?_⟩
    · simp (disch := first | omega | (unfold zt_in; omega)) only [↓zt_ckI, ↓if_pos, ↓if_neg, if_true, if_false, zt_letS, zt_ckI, if_pos, if_neg, up_s, up_o, up_2, F_Tb_noteLack_54, e11, k2, k3, ↓be_at, lk (wTn w) t2 (by omega), lk_set hw ⟨t2, by omega⟩ ⟨l2, l.2.1⟩, ↓be_set]
    · by_cases hq : q = wTn w
      · rw [hq, up_s]
      · rw [up_o (Or.inr hq), lk q h0 q1, lk_oth ⟨t2, by omega⟩ ⟨l2, l.2.1⟩ ⟨h0, q1⟩ hq]
theorem cn_mono_len {P : Int → Bool} {m : Nat} {k : Int} : cn P k (m + 1) = cn P k m + (if P (k + m) = true then 1 else 0) := by
  rw [cn_app P 1 m k, cn, cn]
  simp
theorem wPy_next {w' : Int → Int} {x : Int} (h0 : 0 ≤ w 12) (h12 : w' 12 = w 12 + 1) (e : ∀ k, 0 ≤ k → k < w 12 → w' (92 + k) = w (92 + k)) (ec : w' (92 + w 12) = c) : wPy w' x = (wPy w x || decide (x = c)) := by
  unfold wPy
  rw [h12, show (w 12 + 1).toNat = (w 12).toNat + 1 by omega, cn_mono_len, show (0 : Int) + ((w 12).toNat : Int) = w 12 by omega, ec]
  rw [cn_congr (P := fun k => decide (w' (92 + k) = x)) (Q := fun k => decide (w (92 + k) = x)) _ 0 (fun k k0 k1 => by rw [e k k0 (by omega)])]
  have g := cn_le (fun k => decide (w (92 + k) = x)) (w 12).toNat 0
  by_cases hx : x = c
  · subst hx
    simp only [decide_true, if_true, Bool.or_true]
    exact decide_eq_true (by omega)
  · have : ¬ c = x := fun z => hx z.symm
    simp only [this, hx, decide_false, Bool.or_false, Bool.false_eq_true, if_false, Int.add_zero]
/-- what place leaves is the trick of the row with the card -/
theorem TK_place {k : Nat} {σ' : zt_S} {u : Int → Int} (hw : RI w) (n : Nx w u c) (hb : 0 ≤ wPl w) (h : σ'.1 k 0 = w 9 ∧ σ'.1 k 1 = (w 9 + wPl w + 1) % w 1 ∧ σ'.1 k 2 = wPl w + 1 ∧ σ'.1 k 3 = (if wPl w = 0 then wS w c else wLd w) ∧ σ'.1 k 4 = (if wBt w c = true then wPn w c else wPn w (wCd w (wBp w))) ∧ σ'.1 k 5 = (if wBt w c = true then c else wCd w (wBp w)) ∧ σ'.1 k 6 = (if wBt w c = true then (w 9 + wPl w) % w 1 else (w 9 + wBp w) % w 1) ∧ σ'.1 k 7 = w 10 ∧ σ'.1 k 8 = w 11) : TK σ' k u := by
  obtain ⟨h0, h1, h2, h3, h4, h5, h6, h7, h8⟩ := h
  have pl := n.pl
  have z : ¬ wPl u = 0 := by omega
  refine ⟨⟨?_, ?_, ?_, ?_⟩, ⟨?_, ?_, ?_⟩, ?_, ?_⟩
  · rw [h0, n.2.2.1]
  · rw [h1, n.2.2.1, n.2.1, pl, Int.add_assoc]
  · rw [h2, pl]
  · rw [h3, n.ld hb]
  · rw [if_neg z, h4, n.pb hw]
  · rw [if_neg z, h5, n.bc hw]
  · rw [if_neg z, h6, n.bp hb, n.2.2.1, n.2.1]
    split <;> rfl
  · rw [h7, n.2.2.2.1]
  · rw [h8, n.2.2.2.2.1]
end EC
