/-! TOKENS: the reference's side, and words -/
def MBY (B : Int → Int) (N : Int) (τ : zt_S) : Prop := (0 ≤ N ∧ N ≤ 500) ∧ τ.1 163 10 = N ∧ ∀ j, 0 ≤ j → j < N → τ.1 169 j = B j ∧ 0 ≤ B j ∧ B j ≤ 255
def kM (k : Int) : Int := if k = 0 then 0 else k - 1
def RT (B : Int → Int) (N : Int) (τ : zt_S) (i : Int) : Prop := τ.1 163 12 = tS B N i ∧ τ.1 163 11 = tE B N i ∧ τ.1 163 13 = kM (tK B N i) ∧ (tK B N i = 3 → τ.1 163 14 = tV B N i) ∧ (tK B N i = 2 → τ.2.1 163 15 = tW B N i)
/-- only the token has changed -/
def F3 (τ τ' : zt_S) : Prop := (∀ c j, (c ≠ 163 ∨ (j ≠ 11 ∧ j ≠ 12 ∧ j ≠ 13 ∧ j ≠ 14)) → τ'.1 c j = τ.1 c j) ∧ (∀ c j, (c ≠ 163 ∨ j ≠ 15) → τ'.2.1 c j = τ.2.1 c j) ∧ τ'.2.2 = τ.2.2
section NR
variable {B : Int → Int} {N : Int} {τ : zt_S}
theorem F3.rf : F3 τ τ := ⟨fun _ _ _ => rfl, fun _ _ _ => rfl, rfl⟩
theorem F3.tr {a b c : zt_S} (h : F3 a b) (g : F3 b c) : F3 a c := ⟨fun x j hx => by rw [g.1 x j hx, h.1 x j hx], fun x j hx => by rw [g.2.1 x j hx, h.2.1 x j hx], g.2.2.trans h.2.2⟩
theorem F3.up {j v : Int} (h : j = 11 ∨ j = 12 ∨ j = 13 ∨ j = 14) : F3 τ (zt_up τ 163 j v) := ⟨fun x i hx => up_o (by omega), fun _ _ _ => rfl, rfl⟩
theorem F3.uL {v : Int64} : F3 τ (zt_uL τ 163 15 v) := ⟨fun _ _ _ => rfl, fun x i hx => uL_o (by omega), rfl⟩
theorem MBY.f {τ' : zt_S} (h : MBY B N τ) (f : F3 τ τ') : MBY B N τ' := by
  refine ⟨h.1, by rw [f.1 163 10 (by omega)]; exact h.2.1, fun j h0 h1 => ?_⟩
  rw [f.1 169 j (by omega)]
  exact h.2.2 j h0 h1
theorem em_byteAt {j : Int} (h : MBY B N τ) (hj : 0 ≤ j ∧ j < 1000) : F_M_byteAt j τ = some (if j < N then B j else -1, τ) := by
  have hN := h.1
  unfold F_M_byteAt F_M_byteAt_18
  rw [h.2.1, zt_ckI ⟨by unfold zt_in; omega, by unfold zt_in; omega⟩]
  by_cases hl : j < N
  · rw [if_pos hl, if_pos hl, zt_ckI (by omega), (h.2.2 j hj.1 hl).1]
  · rw [if_neg hl, if_neg hl]
theorem em_isLetter {b : Int} (h : -1 ≤ b ∧ b ≤ 255) : F_M_isLetter b τ = some (if 97 ≤ b ∧ b ≤ 122 then 1 else 0, τ) := by
  unfold F_M_isLetter F_M_isLetter_16 F_M_isLetter_17
  by_cases h1 : b < 97
  · rw [zt_ckI (by unfold zt_in; omega), if_pos h1, zt_ckI (Or.inl rfl), if_neg (by omega)]
  · by_cases h2 : 122 < b
    · rw [zt_ckI (by unfold zt_in; omega), if_neg h1, zt_ckI (by unfold zt_in; omega), if_pos h2, zt_ckI (Or.inl rfl), if_neg (by omega)]
    · rw [zt_ckI (by unfold zt_in; omega), if_neg h1, zt_ckI (by unfold zt_in; omega), if_neg h2, zt_ckI (Or.inr rfl), if_pos (by omega)]
theorem em_isFigure {b : Int} (h : -1 ≤ b ∧ b ≤ 255) : F_M_isFigure b τ = some (if 48 ≤ b ∧ b ≤ 57 then 1 else 0, τ) := by
  unfold F_M_isFigure F_M_isFigure_16 F_M_isFigure_17
  by_cases h1 : b < 48
  · rw [zt_ckI (by unfold zt_in; omega), if_pos h1, zt_ckI (Or.inl rfl), if_neg (by omega)]
  · by_cases h2 : 57 < b
    · rw [zt_ckI (by unfold zt_in; omega), if_neg h1, zt_ckI (by unfold zt_in; omega), if_pos h2, zt_ckI (Or.inl rfl), if_neg (by omega)]
    · rw [zt_ckI (by unfold zt_in; omega), if_neg h1, zt_ckI (by unfold zt_in; omega), if_neg h2, zt_ckI (Or.inr rfl), if_pos (by omega)]
theorem bK_iff {b : Int} : (bK b = 1 ↔ b = 32 ∨ b = 10) ∧ (bK b = 2 ↔ 97 ≤ b ∧ b ≤ 122) ∧ (bK b = 3 ↔ 48 ≤ b ∧ b ≤ 57) := by
  unfold bK
  by_cases h1 : b = 32 ∨ b = 10
  · rw [if_pos h1]; omega
  · rw [if_neg h1]
    by_cases h2 : 97 ≤ b ∧ b ≤ 122
    · rw [if_pos h2]; omega
    · rw [if_neg h2]
      by_cases h3 : 48 ≤ b ∧ b ≤ 57
      · rw [if_pos h3]; omega
      · rw [if_neg h3]; omega
theorem em_next_0 : ∀ (m f : Nat) (i : Int) (τ : zt_S), MBY B N τ → τ.1 163 11 = i → i + m = N → m < f → 0 ≤ i → ∃ s, F_M_next_0 f τ = F_M_next_39 s ∧ s.1 163 11 = tkR B N 1 i m ∧ F3 τ s
  | m, 0, _, _, _, _, _, h1, _ => absurd h1 (Nat.not_lt_zero m)
  | 0, f + 1, i, τ, hB, hi, h0, h1, h2 => by
    have hN := hB.1
    refine ⟨τ, ?_, hi, F3.rf⟩
    rw [F_M_next_0, hi, em_byteAt hB (by omega), zt_bdS, if_neg (by omega), zt_ckI (by decide), if_neg (by decide), hi, em_byteAt hB (by omega), zt_bdS, if_neg (by omega), zt_ckI (by decide), if_neg (by decide)]
  | m + 1, f + 1, i, τ, hB, hi, h0, h1, h2 => by
    have hN := hB.1
    have hb := hB.2.2 i h2 (by omega)
    have e : tkK B N i = bK (B i) := by unfold tkK; rw [if_pos ⟨h2, by omega⟩]
    have bi := bK_iff (b := B i)
    rw [F_M_next_0, hi, em_byteAt hB (by omega), zt_bdS, if_pos (by omega), zt_ckI (by unfold zt_in; omega), tkR, e]
    unfold F_M_next_26
    by_cases hk : bK (B i) = 1
    · rw [if_pos hk]
      obtain ⟨s, g1, g2, g3⟩ := em_next_0 m f (i + 1) (zt_up τ 163 11 (i + 1)) (hB.f (F3.up (Or.inl rfl))) (up_s _ _ _ _) (by omega) (by omega) (by omega)
      refine ⟨s, ?_, g2, (F3.up (Or.inl rfl)).tr g3⟩
      by_cases h32 : B i = 32
      · rw [if_pos h32, zt_letS, hi, g1]
      · rw [if_neg h32, hi, em_byteAt hB (by omega), zt_bdS, if_pos (by omega), zt_ckI (by unfold zt_in; omega), if_pos (by omega), zt_letS, hi, g1]
    · rw [if_neg hk, if_neg (by omega), hi, em_byteAt hB (by omega), zt_bdS, if_pos (by omega), zt_ckI (by unfold zt_in; omega), if_neg (by omega)]
      exact ⟨τ, rfl, hi, F3.rf⟩
theorem em_word_5 {st : Int} : ∀ (m f : Nat) (i : Int) (a : Int64) (τ : zt_S), MBY B N τ → τ.1 163 11 = i → τ.1 163 12 = st → τ.2.1 163 15 = a → i + m = N → m < f → 0 ≤ st → st ≤ i → ∃ s, F_M_readsWord_5 f τ = F_M_readsWord_73 s ∧ s.1 163 11 = tkR B N 2 i m ∧ s.1 163 12 = st ∧ s.2.1 163 15 = wdH B a i (if tkR B N 2 i m < st + 10 then (tkR B N 2 i m - i).toNat else (st + 10 - i).toNat) ∧ F3 τ s
  | m, 0, _, _, _, _, _, _, _, _, h1, _, _ => absurd h1 (Nat.not_lt_zero m)
  | 0, f + 1, i, a, τ, hB, hi, hs, ha, h0, h1, h2, h3 => by
    have hN := hB.1
    refine ⟨τ, ?_, hi, hs, ?_, F3.rf⟩
    · rw [F_M_readsWord_5, hi, em_byteAt hB (by omega), zt_bdS, if_neg (by omega), em_isLetter (by omega), zt_bdS, if_neg (by omega), zt_ckI (by decide), if_pos rfl]
    · rw [tkR, Int.sub_self, ha]
      split
      · rfl
      · rw [show (st + 10 - i).toNat = 0 by omega]; rfl
  | m + 1, f + 1, i, a, τ, hB, hi, hs, ha, h0, h1, h2, h3 => by
    have hN := hB.1
    have hb := hB.2.2 i (by omega) (by omega)
    have e : tkK B N i = bK (B i) := by unfold tkK; rw [if_pos ⟨by omega, by omega⟩]
    have bi := bK_iff (b := B i)
    have rl := tkR_lt (B := B) (N := N) (k := 2) m (i + 1)
    rw [F_M_readsWord_5, hi, em_byteAt hB (by omega), zt_bdS, if_pos (by omega), em_isLetter (by omega), zt_bdS, tkR, e]
    unfold F_M_readsWord_60
    by_cases hk : bK (B i) = 2
    · rw [if_pos (bi.2.1.mp hk), zt_ckI (by decide), if_neg (by decide), if_pos hk, hi, hs, zt_ckI (by unfold zt_in; omega)]
      by_cases h10 : i - st < 10
      · obtain ⟨s, g1, g2, g3, g4, g5⟩ := em_word_5 m f (i + 1) (27 * a + zt_l (B i) - 96) (zt_up (zt_uL τ 163 15 (27 * a + zt_l (B i) - 96)) 163 11 (i + 1)) (hB.f (F3.uL.tr (F3.up (Or.inl rfl)))) (up_s _ _ _ _) (by rw [up_o (by omega), uL_1]; exact hs) (by rw [up_2, uL_s]) (by omega) (by omega) h2 (by omega)
        refine ⟨s, ?_, g2, g3, ?_, (F3.uL.tr (F3.up (Or.inl rfl))).tr g5⟩
        · rw [if_pos h10, zt_ckI (by omega), ha, hb.1, zt_letS, zt_letS, uL_1, hi, g1]
        · rw [g4]
          by_cases hE : tkR B N 2 (i + 1) m < st + 10
          · rw [if_pos hE, if_pos hE, show (tkR B N 2 (i + 1) m - i).toNat = (tkR B N 2 (i + 1) m - (i + 1)).toNat + 1 by omega, wdH]
          · rw [if_neg hE, if_neg hE, show (st + 10 - i).toNat = (st + 10 - (i + 1)).toNat + 1 by omega, wdH]
      · obtain ⟨s, g1, g2, g3, g4, g5⟩ := em_word_5 m f (i + 1) a (zt_up τ 163 11 (i + 1)) (hB.f (F3.up (Or.inl rfl))) (up_s _ _ _ _) (by rw [up_o (by omega)]; exact hs) (by rw [up_2]; exact ha) (by omega) (by omega) h2 (by omega)
        refine ⟨s, ?_, g2, g3, ?_, (F3.up (Or.inl rfl)).tr g5⟩
        · rw [if_neg h10, zt_letS, g1]
        · rw [g4, if_neg (by omega), if_neg (by omega), show (st + 10 - (i + 1)).toNat = 0 by omega, show (st + 10 - i).toNat = 0 by omega]
          rfl
    · rw [if_neg (fun z => hk (bi.2.1.mpr z)), zt_ckI (by decide), if_pos rfl, if_neg hk]
      refine ⟨τ, rfl, hi, hs, ?_, F3.rf⟩
      rw [Int.sub_self, ha]
      split
      · rfl
      · rw [show (st + 10 - i).toNat = 0 by omega]; rfl
theorem em_num_5 : ∀ (m f : Nat) (i a : Int) (τ : zt_S), MBY B N τ → τ.1 163 11 = i → τ.1 163 14 = a → (0 ≤ a ∧ a ≤ 99999999) → i + m = N → m < f → 0 ≤ i → ∃ s, F_M_readsNumber_5 f τ = F_M_readsNumber_72 s ∧ s.1 163 11 = tkR B N 3 i m ∧ s.1 163 12 = τ.1 163 12 ∧ s.1 163 14 = nmV B a i (tkR B N 3 i m - i).toNat ∧ F3 τ s
  | m, 0, _, _, _, _, _, _, _, _, h1, _ => absurd h1 (Nat.not_lt_zero m)
  | 0, f + 1, i, a, τ, hB, hi, ha, hal, h0, h1, h2 => by
    have hN := hB.1
    refine ⟨τ, ?_, hi, rfl, ?_, F3.rf⟩
    · rw [F_M_readsNumber_5, hi, em_byteAt hB (by omega), zt_bdS, if_neg (by omega), em_isFigure (by omega), zt_bdS, if_neg (by omega), zt_ckI (by decide), if_pos rfl]
    · rw [tkR, Int.sub_self, ha]
      rfl
  | m + 1, f + 1, i, a, τ, hB, hi, ha, hal, h0, h1, h2 => by
    have hN := hB.1
    have hb := hB.2.2 i (by omega) (by omega)
    have e : tkK B N i = bK (B i) := by unfold tkK; rw [if_pos ⟨by omega, by omega⟩]
    have bi := bK_iff (b := B i)
    have rl := tkR_lt (B := B) (N := N) (k := 3) m (i + 1)
    rw [F_M_readsNumber_5, hi, em_byteAt hB (by omega), zt_bdS, if_pos (by omega), em_isFigure (by omega), zt_bdS, tkR, e]
    unfold F_M_readsNumber_56
    by_cases hk : bK (B i) = 3
    · have b3 := bi.2.2.mp hk
      obtain ⟨x, hx⟩ : ∃ x, x = (if 9999999 < a then a else 10 * a + B i - 48) := ⟨_, rfl⟩
      have xl : 0 ≤ x ∧ x ≤ 99999999 := by rw [hx]; split <;> omega
      have f1 : F3 τ (zt_up (zt_up τ 163 14 x) 163 11 (i + 1)) := (F3.up (by omega)).tr (F3.up (by omega))
      obtain ⟨s, g1, g2, g3, g4, g5⟩ := em_num_5 m f (i + 1) x (zt_up (zt_up τ 163 14 x) 163 11 (i + 1)) (hB.f f1) (up_s _ _ _ _) (by rw [up_o (by omega), up_s]) xl (by omega) (by omega) (by omega)
      have e11 : (zt_up τ 163 14 x).1 163 11 = i := by rw [up_o (by omega), hi]
      rw [if_pos b3, zt_ckI (by decide), if_neg (by decide), if_pos hk, ha, zt_ckI (by unfold zt_in; omega)]
      refine ⟨s, ?_, g2, by rw [g3, up_o (by omega), up_o (by omega)], ?_, f1.tr g5⟩
      · by_cases h9 : 9999999 < a
        · rw [if_pos h9] at hx ⊢
          rw [← hx, zt_letS, e11, zt_letS, g1]
        · rw [if_neg h9] at hx ⊢
          rw [hi, zt_ckI (by omega), hb.1, ← hx, zt_letS, e11, zt_letS, g1]
      · rw [g4, show (tkR B N 3 (i + 1) m - i).toNat = (tkR B N 3 (i + 1) m - (i + 1)).toNat + 1 by omega, nmV, ← hx]
    · rw [if_neg (fun z => hk (bi.2.2.mpr z)), zt_ckI (by decide), if_pos rfl, if_neg hk]
      refine ⟨τ, rfl, hi, rfl, ?_, F3.rf⟩
      rw [Int.sub_self, ha]
      rfl
theorem em_next (hB : MBY B N τ) (hi : 0 ≤ τ.1 163 11 ∧ τ.1 163 11 ≤ N) : ∃ s, F_M_next τ = some ((), s) ∧ RT B N s (τ.1 163 11) ∧ F3 τ s := by
  have hN := hB.1
  obtain ⟨i, hie⟩ : ∃ i, i = τ.1 163 11 := ⟨_, rfl⟩
  rw [← hie] at hi ⊢
  obtain ⟨s, g1, g2, g3⟩ := em_next_0 (B := B) (N := N) (N - i).toNat zt_N i τ hB hie.symm (by omega) (zN (by omega)) (by omega)
  have sl := tS_lt (B := B) hi
  have kv := tK_v (B := B) hi
  have g2' : s.1 163 11 = tS B N i := g2
  unfold F_M_next
  rw [g1]
  unfold F_M_next_39 F_M_next_125
  rw [zt_letS, g2']
  obtain ⟨u, hu⟩ : ∃ u, u = zt_up s 163 12 (tS B N i) := ⟨_, rfl⟩
  rw [← hu]
  have fu : F3 τ u := by rw [hu]; exact g3.tr (F3.up (by omega))
  have hBu := hB.f fu
  have u12 : u.1 163 12 = tS B N i := by rw [hu, up_s]
  have u11 : u.1 163 11 = tS B N i := by rw [hu, up_o (by omega), g2']
  rw [u11, hBu.2.1, zt_ckI ⟨by unfold zt_in; omega, by unfold zt_in; omega⟩]
  by_cases h0 : tK B N i = 0
  · have sN := sl.2.2.2.mp h0
    rw [if_neg (by omega), zt_letS]
    refine ⟨_, rfl, ⟨by rw [up_o (by omega)]; exact u12, ?_, ?_, fun z => by omega, fun z => by omega⟩, fu.tr (F3.up (by omega))⟩
    · rw [up_o (by omega), u11]; unfold tE; rw [if_pos h0]
    · rw [up_s, h0]; rfl
  · have sN : tS B N i ≠ N := fun z => h0 (sl.2.2.2.mpr z)
    have hb := hBu.2.2 (tS B N i) (by omega) (by omega)
    have e : tK B N i = bK (B (tS B N i)) := by unfold tK tkK; rw [if_pos ⟨by omega, by omega⟩]
    have bi := bK_iff (b := B (tS B N i))
    rw [← e] at bi
    rw [if_pos (by omega), zt_ckI (by omega), hb.1, em_isLetter (by omega), zt_bdS]
    by_cases h2 : tK B N i = 2
    · obtain ⟨nn, hnn⟩ : ∃ n, (N - tS B N i).toNat = n := ⟨_, rfl⟩
      obtain ⟨v, q1, q2, q3, q4, q5⟩ := em_word_5 (B := B) (N := N) (st := tS B N i) (N - tS B N i).toNat zt_N (tS B N i) 0 (zt_uL u 163 15 0) (hBu.f F3.uL) u11 u12 (uL_s _ _ _ _) (by omega) (zN (by omega)) (by omega) (Int.le_refl _)
      have eE : tE B N i = tkR B N 2 (tS B N i) (N - tS B N i).toNat := by unfold tE; rw [if_neg h0, if_neg (by omega), h2]
      rw [if_pos (bi.2.1.mp h2), zt_ckI (by decide), if_neg (by decide)]
      unfold F_M_readsWord
      rw [zt_letS, q1]
      unfold F_M_readsWord_73
      rw [zt_letS, zt_bdS]
      refine ⟨_, rfl, ⟨by rw [up_o (by omega)]; exact q3, ?_, ?_, fun z => by omega, fun _ => ?_⟩, (fu.tr F3.uL).tr (q5.tr (F3.up (by omega)))⟩
      · rw [up_o (by omega), q2, eE]
      · rw [up_s, h2]; rfl
      · rw [up_2, q4]
        unfold tW
        rw [eE]
        congr 1
        split <;> split <;> omega
    · rw [if_neg (fun z => h2 (bi.2.1.mpr z)), zt_ckI (by decide), if_pos rfl, u11, zt_ckI (by omega), hb.1, em_isFigure (by omega), zt_bdS]
      by_cases h3 : tK B N i = 3
      · obtain ⟨v, q1, q2, q3, q4, q5⟩ := em_num_5 (B := B) (N := N) (N - tS B N i).toNat zt_N (tS B N i) 0 (zt_up u 163 14 0) (hBu.f (F3.up (by omega))) (by rw [up_o (by omega)]; exact u11) (up_s _ _ _ _) (by omega) (by omega) (zN (by omega)) (by omega)
        have eE : tE B N i = tkR B N 3 (tS B N i) (N - tS B N i).toNat := by unfold tE; rw [if_neg h0, if_neg (by omega), h3]
        rw [if_pos (bi.2.2.mp h3), zt_ckI (by decide), if_neg (by decide)]
        unfold F_M_readsNumber
        rw [zt_letS, q1]
        unfold F_M_readsNumber_72
        rw [zt_letS, zt_bdS]
        refine ⟨_, rfl, ⟨by rw [up_o (by omega), q3, up_o (by omega)]; exact u12, ?_, ?_, fun _ => ?_, fun z => by omega⟩, (fu.tr (F3.up (by omega))).tr (q5.tr (F3.up (by omega)))⟩
        · rw [up_o (by omega), q2, eE]
        · rw [up_s, h3]; rfl
        · rw [up_o (by omega), q4]
          unfold tV
          rw [eE]
      · rw [if_neg (fun z => h3 (bi.2.2.mpr z)), zt_ckI (by decide), if_pos rfl, zt_letS, zt_letS, up_o (by omega), u11]
        refine ⟨_, rfl, ⟨by rw [up_o (by omega), up_o (by omega)]; exact u12, ?_, ?_, fun z => by omega, fun z => by omega⟩, fu.tr ((F3.up (by omega)).tr (F3.up (by omega)))⟩
        · rw [up_s]; unfold tE; rw [if_neg h0, if_pos (by omega)]
        · rw [up_o (by omega), up_s, show tK B N i = 4 by omega]; rfl
end NR
