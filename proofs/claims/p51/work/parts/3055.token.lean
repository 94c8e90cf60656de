/-! TOKENS of a text: what both readers see -/
def bK (b : Int) : Int := if b = 32 ∨ b = 10 then 1 else if 97 ≤ b ∧ b ≤ 122 then 2 else if 48 ≤ b ∧ b ≤ 57 then 3 else 4
def tkK (B : Int → Int) (N i : Int) : Int := if 0 ≤ i ∧ i < N then bK (B i) else 0
/-- the end of a run of one kind -/
def tkR (B : Int → Int) (N k : Int) : Int → Nat → Int
  | i, 0 => i
  | i, m + 1 => if tkK B N i = k then tkR B N k (i + 1) m else i
def tS (B : Int → Int) (N i : Int) : Int := tkR B N 1 i (N - i).toNat
def tK (B : Int → Int) (N i : Int) : Int := tkK B N (tS B N i)
def tE (B : Int → Int) (N i : Int) : Int := if tK B N i = 0 then tS B N i else if tK B N i = 4 then tS B N i + 1 else tkR B N (tK B N i) (tS B N i) (N - tS B N i).toNat
def nmC (B : Int → Int) : Int → Int → Nat → Int
  | a, _, 0 => a
  | a, i, m + 1 => nmC B (if a * 10 + B i - 48 < 1000000 then a * 10 + B i - 48 else 1000000) (i + 1) m
def nmV (B : Int → Int) : Int → Int → Nat → Int
  | a, _, 0 => a
  | a, i, m + 1 => nmV B (if 9999999 < a then a else 10 * a + B i - 48) (i + 1) m
def wdH (B : Int → Int) : Int64 → Int → Nat → Int64
  | a, _, 0 => a
  | a, i, m + 1 => wdH B (27 * a + zt_l (B i) - 96) (i + 1) m
def tN (B : Int → Int) (N i : Int) : Int := if tK B N i = 3 then nmC B 0 (tS B N i) (tE B N i - tS B N i).toNat else 0
def tV (B : Int → Int) (N i : Int) : Int := nmV B 0 (tS B N i) (tE B N i - tS B N i).toNat
def tW (B : Int → Int) (N i : Int) : Int64 := wdH B 0 (tS B N i) (if tE B N i - tS B N i < 10 then (tE B N i - tS B N i).toNat else 10)
section TO
variable {B : Int → Int} {N : Int}
theorem bK_lt (b : Int) : bK b = 1 ∨ bK b = 2 ∨ bK b = 3 ∨ bK b = 4 := by
  unfold bK
  split
  · exact Or.inl rfl
  · split
    · exact Or.inr (Or.inl rfl)
    · split
      · exact Or.inr (Or.inr (Or.inl rfl))
      · exact Or.inr (Or.inr (Or.inr rfl))
theorem tkK_lt (i : Int) : (tkK B N i = 0 ∧ ¬ (0 ≤ i ∧ i < N)) ∨ ((tkK B N i = 1 ∨ tkK B N i = 2 ∨ tkK B N i = 3 ∨ tkK B N i = 4) ∧ 0 ≤ i ∧ i < N ∧ tkK B N i = bK (B i)) := by
  unfold tkK
  by_cases h : 0 ≤ i ∧ i < N
  · rw [if_pos h]
    exact Or.inr ⟨bK_lt _, h.1, h.2, rfl⟩
  · rw [if_neg h]
    exact Or.inl ⟨rfl, h⟩
theorem tkR_lt {k : Int} : ∀ (m : Nat) (i : Int), i ≤ tkR B N k i m ∧ tkR B N k i m ≤ i + m
  | 0, i => by rw [tkR]; omega
  | m + 1, i => by
    have ih := tkR_lt (k := k) m (i + 1)
    rw [tkR]
    split <;> omega
theorem tkR_in {k : Int} : ∀ (m : Nat) (i j : Int), i ≤ j → j < tkR B N k i m → tkK B N j = k
  | 0, i, j, h0, h1 => by rw [tkR] at h1; omega
  | m + 1, i, j, h0, h1 => by
    rw [tkR] at h1
    by_cases hk : tkK B N i = k
    · rw [if_pos hk] at h1
      by_cases hj : j = i
      · rw [hj]; exact hk
      · exact tkR_in m (i + 1) j (by omega) h1
    · rw [if_neg hk] at h1
      omega
theorem tkR_out {k : Int} (hk : k ≠ 0) : ∀ (m : Nat) (i : Int), i + m = N → 0 ≤ i → tkK B N (tkR B N k i m) ≠ k
  | 0, i, h, h0 => by
    rw [tkR]
    unfold tkK
    rw [if_neg (by omega)]
    exact fun z => hk z.symm
  | m + 1, i, h, h0 => by
    rw [tkR]
    by_cases hz : tkK B N i = k
    · rw [if_pos hz]
      exact tkR_out hk m (i + 1) (by omega) (by omega)
    · rw [if_neg hz]
      exact hz
theorem tS_lt {i : Int} (h : 0 ≤ i ∧ i ≤ N) : i ≤ tS B N i ∧ tS B N i ≤ N ∧ tK B N i ≠ 1 ∧ (tK B N i = 0 ↔ tS B N i = N) := by
  have a := tkR_lt (B := B) (N := N) (k := 1) (N - i).toNat i
  have b := tkR_out (B := B) (N := N) (k := 1) (by decide) (N - i).toNat i (by omega) h.1
  have c := tkK_lt (B := B) (N := N) (tS B N i)
  unfold tK
  unfold tS at *
  refine ⟨a.1, by omega, b, ?_⟩
  constructor
  · intro z
    rcases c with c | c
    · omega
    · omega
  · intro z
    rcases c with c | c
    · exact c.1
    · omega
theorem tK_v {i : Int} (h : 0 ≤ i ∧ i ≤ N) : tK B N i = 0 ∨ tK B N i = 2 ∨ tK B N i = 3 ∨ tK B N i = 4 := by
  have a := (tS_lt (B := B) h).2.2.1
  rcases tkK_lt (B := B) (N := N) (tS B N i) with c | c
  · exact Or.inl c.1
  · unfold tK at a ⊢
    omega
theorem tE_lt {i : Int} (h : 0 ≤ i ∧ i ≤ N) : tS B N i ≤ tE B N i ∧ tE B N i ≤ N ∧ (tK B N i ≠ 0 → tS B N i < tE B N i) := by
  have a := tS_lt (B := B) h
  have b := tK_v (B := B) h
  have r := tkR_lt (B := B) (N := N) (k := tK B N i) (N - tS B N i).toNat (tS B N i)
  unfold tE
  by_cases h0 : tK B N i = 0
  · rw [if_pos h0]
    exact ⟨Int.le_refl _, a.2.1, fun z => absurd h0 z⟩
  · rw [if_neg h0]
    by_cases h4 : tK B N i = 4
    · rw [if_pos h4]
      have : tS B N i ≠ N := fun z => h0 (a.2.2.2.mpr z)
      omega
    · rw [if_neg h4]
      have hn : tS B N i ≠ N := fun z => h0 (a.2.2.2.mpr z)
      refine ⟨r.1, by omega, fun _ => ?_⟩
      have e : (N - tS B N i).toNat = (N - tS B N i).toNat - 1 + 1 := by omega
      have r2 := tkR_lt (B := B) (N := N) (k := tK B N i) ((N - tS B N i).toNat - 1) (tS B N i + 1)
      rw [e, tkR, if_pos (show tkK B N (tS B N i) = tK B N i from rfl)]
      omega
theorem tE_in {i j : Int} (h : 0 ≤ i ∧ i ≤ N) (h0 : tS B N i ≤ j) (h1 : j < tE B N i) : tkK B N j = tK B N i := by
  unfold tE at h1
  by_cases hz : tK B N i = 0
  · rw [if_pos hz] at h1; omega
  · rw [if_neg hz] at h1
    by_cases h4 : tK B N i = 4
    · rw [if_pos h4] at h1
      have : j = tS B N i := by omega
      rw [this]
      rfl
    · rw [if_neg h4] at h1
      exact tkR_in _ _ j h0 h1
/-- a number on both sides -/
theorem nm_both : ∀ (m : Nat) (a b i : Int), (∀ j, i ≤ j → j < i + m → 48 ≤ B j ∧ B j ≤ 57) → (0 ≤ a ∧ (a < 1000000 ∧ b = a ∨ a = 1000000 ∧ 1000000 ≤ b ∧ b ≤ 99999999)) → (0 ≤ nmC B a i m ∧ (nmC B a i m < 1000000 ∧ nmV B b i m = nmC B a i m ∨ nmC B a i m = 1000000 ∧ 1000000 ≤ nmV B b i m ∧ nmV B b i m ≤ 99999999))
  | 0, _, _, _, _, h => h
  | m + 1, a, b, i, hB, h => by
    have h0 := hB i (by omega) (by omega)
    rw [nmC, nmV]
    refine nm_both m _ _ (i + 1) (fun j h1 h2 => hB j (by omega) (by omega)) ?_
    split <;> split <;> omega
theorem bK3 {b : Int} (h : bK b = 3) : 48 ≤ b ∧ b ≤ 57 := by
  unfold bK at h
  split at h
  · exact absurd h (by decide)
  · split at h
    · exact absurd h (by decide)
    · split at h
      · assumption
      · exact absurd h (by decide)
theorem bK2 {b : Int} (h : bK b = 2) : 97 ≤ b ∧ b ≤ 122 := by
  unfold bK at h
  split at h
  · exact absurd h (by decide)
  · split at h
    · assumption
    · split at h
      · exact absurd h (by decide)
      · exact absurd h (by decide)
theorem tN_tV {i : Int} (h : 0 ≤ i ∧ i ≤ N) (h3 : tK B N i = 3) : 0 ≤ tN B N i ∧ (tN B N i < 1000000 ∧ tV B N i = tN B N i ∨ tN B N i = 1000000 ∧ 1000000 ≤ tV B N i ∧ tV B N i ≤ 99999999) := by
  have e := tE_lt (B := B) h
  have a := tS_lt (B := B) h
  unfold tN tV
  rw [if_pos h3]
  refine nm_both _ 0 0 _ (fun j h0 h1 => ?_) (by omega)
  have k := tE_in (B := B) h h0 (by omega)
  rw [h3] at k
  rcases tkK_lt (B := B) (N := N) j with c | c
  · omega
  · exact bK3 (by rw [← c.2.2.2]; exact k)
end TO
/-! the class reads the next token -/
def CBY (B : Int → Int) (N : Int) (σ : zt_S) : Prop := (0 ≤ N ∧ N ≤ 500) ∧ σ.1 2 1 = N ∧ ∀ j, 0 ≤ j → j < N → (0 ≤ B j ∧ B j ≤ 255) ∧ σ.1 1 j = (if B j < 128 then B j else B j - 256)
def CT (B : Int → Int) (N : Int) (σ : zt_S) (i : Int) : Prop := σ.1 2 2 = tS B N i ∧ σ.1 2 3 = tE B N i ∧ σ.1 2 4 = tK B N i ∧ σ.1 2 5 = tN B N i
/-- only the token has changed -/
def F2 (σ σ' : zt_S) : Prop := (∀ c j, (c ≠ 2 ∨ (j ≠ 2 ∧ j ≠ 3 ∧ j ≠ 4 ∧ j ≠ 5)) → σ'.1 c j = σ.1 c j) ∧ σ'.2 = σ.2
section NE
variable {B : Int → Int} {N : Int} {σ : zt_S}
theorem F2.tr {a b c : zt_S} (h : F2 a b) (g : F2 b c) : F2 a c := ⟨fun x j hx => by rw [g.1 x j hx, h.1 x j hx], g.2.trans h.2⟩
theorem F2.up {j v : Int} (h : j = 2 ∨ j = 3 ∨ j = 4 ∨ j = 5) : F2 σ (zt_up σ 2 j v) := ⟨fun x i hx => up_o (by omega), rfl⟩
theorem CBY.f {σ' : zt_S} (h : CBY B N σ) (f : F2 σ σ') : CBY B N σ' := by
  refine ⟨h.1, by rw [f.1 2 1 (by omega)]; exact h.2.1, fun j h0 h1 => ?_⟩
  rw [f.1 1 j (by omega)]
  exact h.2.2 j h0 h1
theorem e_kindAt {j : Int} (h : CBY B N σ) (hj : -1000 ≤ j ∧ j < 1000) : F_Tk_kindAt j σ = some (tkK B N j, σ) := by
  obtain ⟨h1, h2, h3⟩ := h
  unfold F_Tk_kindAt F_Tk_kindAt_21 F_Tk_kindAt_42 F_Tk_kindAt_58 F_Tk_kindAt_74 F_Tk_kindAt_75 tkK
  by_cases a : j < 0
  · rw [zt_ckI (by unfold zt_in; omega), if_pos a, if_neg (by omega)]
  · rw [zt_ckI (by unfold zt_in; omega), if_neg a, h2, zt_ckI ⟨by unfold zt_in; omega, by unfold zt_in; omega⟩]
    by_cases b : j < N
    · obtain ⟨g1, g2⟩ := h3 j (by omega) b
      have g3 : zt_in (σ.1 1 j) := by rw [g2]; unfold zt_in; split <;> omega
      rw [if_pos b, zt_ckI (by unfold zt_in; omega), if_pos (by omega), zt_ckI (by omega), zt_ckI g3, if_pos (show 0 ≤ j ∧ j < N by omega)]
      unfold bK
      generalize σ.1 1 j = x at g2 g3
      generalize B j = y at g1 g2
      have hx : (y < 128 ∧ x = y) ∨ (128 ≤ y ∧ x = y - 256) := by split at g2 <;> omega
      by_cases c1 : x = 32
      · rw [if_pos c1, if_pos (by omega)]
      · rw [if_neg c1, zt_ckI g3]
        by_cases c2 : x = 10
        · rw [if_pos c2, if_pos (by omega)]
        · rw [if_neg c2, zt_ckI g3, if_neg (show ¬ (y = 32 ∨ y = 10) by omega)]
          have tail : (zt_ck (zt_in x) <| if x < 48 then (some ((4 : Int), σ) : Option (Int × zt_S)) else zt_ck (zt_in x) <| if 57 < x then some (4, σ) else some (3, σ)) = some (if 48 ≤ y ∧ y ≤ 57 then 3 else 4, σ) := by
            by_cases d1 : x < 48
            · rw [zt_ckI g3, if_pos d1, if_neg (by omega)]
            · by_cases d2 : 57 < x
              · rw [zt_ckI g3, if_neg d1, zt_ckI g3, if_pos d2, if_neg (by omega)]
              · rw [zt_ckI g3, if_neg d1, zt_ckI g3, if_neg d2, if_pos (by omega)]
          by_cases c3 : x < 97
          · rw [if_pos c3, if_neg (show ¬ (97 ≤ y ∧ y ≤ 122) by omega)]
            exact tail
          · rw [if_neg c3, zt_ckI g3]
            by_cases c4 : 122 < x
            · rw [if_pos c4, if_neg (show ¬ (97 ≤ y ∧ y ≤ 122) by omega)]
              exact tail
            · rw [if_neg c4, if_pos (by omega)]
    · rw [if_neg b, if_neg (by omega)]
theorem zt_and_in {x : Int} (h : zt_in x) : zt_and x 255 = x % 256 := by
  have : zt_and x 255 = (Int32.ofInt x).toInt % 256 := and255 (Int32.ofInt x)
  rw [this, zt_ti h]
theorem e_byteAt {j : Int} (h : CBY B N σ) (hj : 0 ≤ j ∧ j < N) : F_Tk_byteAt j σ = some (B j, σ) := by
  obtain ⟨h1, h2, h3⟩ := h
  obtain ⟨g1, g2⟩ := h3 j hj.1 hj.2
  have g3 : zt_in (σ.1 1 j) := by rw [g2]; unfold zt_in; split <;> omega
  unfold F_Tk_byteAt F_Tk_byteAt_27
  rw [zt_ckI (by unfold zt_in; omega), if_neg (by omega), zt_ckI (by unfold zt_in; omega), if_pos (by omega), zt_ckI (by omega), zt_and_in g3, g2]
  split
  · rw [show B j % 256 = B j by omega]
  · rw [show (B j - 256) % 256 = B j by omega]
theorem e_next_8 : ∀ (m f : Nat) (i : Int) (σ : zt_S), CBY B N σ → σ.1 2 2 = i → i + m = N → m < f → 0 ≤ i → ∃ s, F_Tk_next_8 f σ = F_Tk_next_44 s ∧ s.1 2 2 = tkR B N 1 i m ∧ F2 σ s
  | m, 0, _, _, _, _, _, h1, _ => absurd h1 (Nat.not_lt_zero m)
  | 0, f + 1, i, σ, hB, hi, h0, h1, h2 => by
    refine ⟨σ, ?_, hi, ⟨fun _ _ _ => rfl, rfl⟩⟩
    have hN := hB.1
    rw [F_Tk_next_8, hi, hB.2.1, zt_ckI ⟨by unfold zt_in; omega, by unfold zt_in; omega⟩, if_neg (by omega)]
  | m + 1, f + 1, i, σ, hB, hi, h0, h1, h2 => by
    have hN := hB.1
    have kl := tkK_lt (B := B) (N := N) i
    rw [F_Tk_next_8, hi, hB.2.1, zt_ckI ⟨by unfold zt_in; omega, by unfold zt_in; omega⟩, if_pos (by omega), e_kindAt hB (by omega), zt_bdS, zt_ckI (by unfold zt_in; omega), tkR]
    by_cases hk : tkK B N i = 1
    · rw [if_pos hk, if_pos hk, zt_letS, hi]
      obtain ⟨s, g1, g2, g3⟩ := e_next_8 m f (i + 1) (zt_up σ 2 2 (i + 1)) (hB.f (F2.up (Or.inl rfl))) (up_s _ _ _ _) (by omega) (by omega) (by omega)
      exact ⟨s, g1, g2, (F2.up (Or.inl rfl)).tr g3⟩
    · rw [if_neg hk, if_neg hk]
      exact ⟨σ, rfl, hi, ⟨fun _ _ _ => rfl, rfl⟩⟩
/-- words, numbers: to their end -/
theorem e_next_69 {k : Int} (hk : k = 2 ∨ k = 3) : ∀ (m f : Nat) (i a : Int) (σ : zt_S), CBY B N σ → σ.1 2 4 = k → σ.1 2 3 = i → σ.1 2 5 = a → (0 ≤ a ∧ a ≤ 1000000) → i + m = N → m < f → 0 ≤ i → ∃ s, F_Tk_next_69 f σ = some ((), s) ∧ s.1 2 3 = tkR B N k i m ∧ s.1 2 5 = (if k = 3 then nmC B a i (tkR B N k i m - i).toNat else a) ∧ s.1 2 4 = k ∧ s.1 2 2 = σ.1 2 2 ∧ F2 σ s
  | m, 0, _, _, _, _, _, _, _, _, _, h1, _ => absurd h1 (Nat.not_lt_zero m)
  | 0, f + 1, i, a, σ, hB, h4, h3, h5, ha, h0, h1, h2 => by
    have hN := hB.1
    refine ⟨σ, ?_, h3, ?_, h4, rfl, ⟨fun _ _ _ => rfl, rfl⟩⟩
    · rw [F_Tk_next_69, h3, hB.2.1, zt_ckI ⟨by unfold zt_in; omega, by unfold zt_in; omega⟩, if_neg (by omega)]
      rfl
    · rw [h5, tkR, Int.sub_self]
      split <;> rfl
  | m + 1, f + 1, i, a, σ, hB, h4, h3, h5, ha, h0, h1, h2 => by
    have hN := hB.1
    have kl := tkK_lt (B := B) (N := N) i
    have rl := tkR_lt (B := B) (N := N) (k := k) m (i + 1)
    rw [F_Tk_next_69, h3, hB.2.1, zt_ckI ⟨by unfold zt_in; omega, by unfold zt_in; omega⟩, if_pos (by omega), e_kindAt hB (by omega), zt_bdS, h4, zt_ckI ⟨by unfold zt_in; omega, by unfold zt_in; omega⟩, tkR]
    by_cases hz : tkK B N i = k
    · rw [if_pos hz, if_pos hz, zt_ckI (by unfold zt_in; omega)]
      unfold F_Tk_next_131
      by_cases k3 : k = 3
      · have b3 : 48 ≤ B i ∧ B i ≤ 57 := by
          rcases kl with c | c
          · omega
          · exact bK3 (by rw [← c.2.2.2, hz, k3])
        obtain ⟨x, hx⟩ : ∃ x, x = (if a * 10 + B i - 48 < 1000000 then a * 10 + B i - 48 else 1000000) := ⟨_, rfl⟩
        have xl : 0 ≤ x ∧ x ≤ 1000000 := by rw [hx]; split <;> omega
        rw [if_pos k3, h3, e_byteAt hB ⟨h2, by omega⟩, zt_bdS, h5, zt_ckI (by unfold zt_in; omega), zt_letS, ← hx, zt_letS, show (zt_up σ 2 5 x).1 2 3 = i from by rw [up_o (by omega), h3], show (zt_up (zt_up σ 2 5 x) 2 3 (i + 1)).1 2 4 = k from by rw [up_o (by omega), up_o (by omega), h4], zt_ckI (by unfold zt_in; omega), if_neg (by omega)]
        have f1 : F2 σ (zt_up (zt_up σ 2 5 x) 2 3 (i + 1)) := (F2.up (by omega)).tr (F2.up (by omega))
        obtain ⟨s, g1, g2, g3, g4, g5, g6⟩ := e_next_69 hk m f (i + 1) x (zt_up (zt_up σ 2 5 x) 2 3 (i + 1)) (hB.f f1) (by rw [up_o (by omega), up_o (by omega)]; exact h4) (up_s _ _ _ _) (by rw [up_o (by omega), up_s]) xl (by omega) (by omega) (by omega)
        refine ⟨s, g1, g2, ?_, g4, by rw [g5, up_o (by omega), up_o (by omega)], f1.tr g6⟩
        rw [g3, if_pos k3, if_pos k3, show (tkR B N k (i + 1) m - i).toNat = (tkR B N k (i + 1) m - (i + 1)).toNat + 1 by omega, nmC, ← hx]
      · rw [if_neg k3, zt_letS, h3, up_o (by omega), h4, zt_ckI (by unfold zt_in; omega), if_neg (by omega)]
        have f1 : F2 σ (zt_up σ 2 3 (i + 1)) := F2.up (by omega)
        obtain ⟨s, g1, g2, g3, g4, g5, g6⟩ := e_next_69 hk m f (i + 1) a (zt_up σ 2 3 (i + 1)) (hB.f f1) (by rw [up_o (by omega)]; exact h4) (up_s _ _ _ _) (by rw [up_o (by omega)]; exact h5) ha (by omega) (by omega) (by omega)
        refine ⟨s, g1, g2, ?_, g4, by rw [g5, up_o (by omega)], f1.tr g6⟩
        rw [g3, if_neg k3, if_neg k3]
    · rw [if_neg hz, if_neg hz]
      refine ⟨σ, rfl, h3, ?_, h4, rfl, ⟨fun _ _ _ => rfl, rfl⟩⟩
      rw [h5, Int.sub_self]
      split <;> rfl
theorem e_next (hB : CBY B N σ) (hi : 0 ≤ σ.1 2 3 ∧ σ.1 2 3 ≤ N) : ∃ s, F_Tk_next σ = some ((), s) ∧ CT B N s (σ.1 2 3) ∧ F2 σ s := by
  have hN := hB.1
  obtain ⟨i, hie⟩ : ∃ i, i = σ.1 2 3 := ⟨_, rfl⟩
  rw [← hie] at hi ⊢
  have f0 : F2 σ (zt_up σ 2 2 i) := F2.up (by omega)
  obtain ⟨s, g1, g2, g3⟩ := e_next_8 (B := B) (N := N) (N - i).toNat zt_N i (zt_up σ 2 2 i) (hB.f f0) (up_s _ _ _ _) (by omega) (zN (by omega)) (by omega)
  have sl := tS_lt (B := B) hi
  have kv := tK_v (B := B) hi
  have g2' : s.1 2 2 = tS B N i := g2
  have hBs : CBY B N s := hB.f (f0.tr g3)
  unfold F_Tk_next
  rw [zt_letS, ← hie, g1]
  unfold F_Tk_next_44
  rw [g2', e_kindAt hBs (by omega), zt_bdS, show tkK B N (tS B N i) = tK B N i from rfl, zt_letS, zt_letS, zt_letS, up_o (by omega), up_o (by omega), g2']
  obtain ⟨u, hu⟩ : ∃ u, u = zt_up (zt_up (zt_up s 2 4 (tK B N i)) 2 5 0) 2 3 (tS B N i) := ⟨_, rfl⟩
  rw [← hu]
  have fu : F2 s u := by rw [hu]; exact ((F2.up (by omega)).tr (F2.up (by omega))).tr (F2.up (by omega))
  have u2 : u.1 2 2 = tS B N i := by rw [hu, up_o (by omega), up_o (by omega), up_o (by omega), g2']
  have u3 : u.1 2 3 = tS B N i := by rw [hu, up_s]
  have u4 : u.1 2 4 = tK B N i := by rw [hu, up_o (by omega), up_o (by omega), up_s]
  have u5 : u.1 2 5 = 0 := by rw [hu, up_o (by omega), up_s]
  have hBu := hBs.f fu
  obtain ⟨nn, hnn⟩ : ∃ n, zt_N = n + 1 := ⟨zt_N - 1, by have := zN (m := 5) (by omega); omega⟩
  by_cases h0 : tK B N i = 0
  · have sN := sl.2.2.2.mp h0
    refine ⟨u, ?_, ⟨u2, ?_, u4, ?_⟩, (f0.tr g3).tr fu⟩
    · rw [hnn, F_Tk_next_69, u3, hBu.2.1, zt_ckI ⟨by unfold zt_in; omega, by unfold zt_in; omega⟩, if_neg (by omega)]
      rfl
    · rw [u3]; unfold tE; rw [if_pos h0]
    · rw [u5]; unfold tN; rw [if_neg (by omega)]
  · have sN : tS B N i ≠ N := fun z => h0 (sl.2.2.2.mpr z)
    by_cases h4 : tK B N i = 4
    · refine ⟨zt_up u 2 3 (tS B N i + 1), ?_, ⟨by rw [up_o (by omega)]; exact u2, ?_, by rw [up_o (by omega)]; exact u4, ?_⟩, ((f0.tr g3).tr fu).tr (F2.up (by omega))⟩
      · rw [hnn, F_Tk_next_69, u3, hBu.2.1, zt_ckI ⟨by unfold zt_in; omega, by unfold zt_in; omega⟩, if_pos (by omega), e_kindAt hBu (by omega), zt_bdS, u4, zt_ckI ⟨by unfold tK at h4; unfold zt_in; omega, by unfold zt_in; omega⟩, if_pos (show tkK B N (tS B N i) = tK B N i from rfl), zt_ckI (by unfold zt_in; omega), if_neg (by omega)]
        unfold F_Tk_next_131
        rw [zt_letS, u3, up_o (by omega), u4, zt_ckI (by unfold zt_in; omega), if_pos h4]
        rfl
      · rw [up_s]; unfold tE; rw [if_neg h0, if_pos h4]
      · rw [up_o (by omega), u5]; unfold tN; rw [if_neg (by omega)]
    · obtain ⟨v, q1, q2, q3, q4, q5, q6⟩ := e_next_69 (B := B) (N := N) (k := tK B N i) (by omega) (N - tS B N i).toNat zt_N (tS B N i) 0 u hBu u4 u3 u5 (by omega) (by omega) (zN (by omega)) (by omega)
      have eE : tE B N i = tkR B N (tK B N i) (tS B N i) (N - tS B N i).toNat := by unfold tE; rw [if_neg h0, if_neg h4]
      refine ⟨v, q1, ⟨by rw [q5, u2], by rw [q2, eE], q4, ?_⟩, ((f0.tr g3).tr fu).tr q6⟩
      rw [q3]
      unfold tN
      rw [eE]
end NE
