/-! WORDS: by their letters, by their number -/
def mtW (B : Int → Int) (w : Nat) (s : Int) : Int → Nat → Bool
  | _, 0 => true
  | j, m + 1 => decide (B (s + j) = zt_sc w j) && mtW B w s (j + 1) m
def isW (B : Int → Int) (N i : Int) (w : Nat) : Bool := decide (tK B N i = 2) && decide (tE B N i - tS B N i = zt_sl w) && mtW B w (tS B N i) 0 (zt_sl w).toNat
def hV (d : Nat → Int) : Nat → Int
  | 0 => 0
  | n + 1 => 27 * hV d n + d n
theorem hV_lt {d : Nat → Int} : ∀ (n : Nat), (∀ j, j < n → 1 ≤ d j ∧ d j ≤ 26) → 0 ≤ hV d n ∧ (0 < n → 1 ≤ hV d n) ∧ hV d n < 27 ^ n
  | 0, _ => ⟨Int.le_refl _, fun z => absurd z (Nat.lt_irrefl 0), by rw [hV]; decide⟩
  | n + 1, h => by
    have ih := hV_lt (d := d) n (fun j hj => h j (by omega))
    have hn := h n (by omega)
    rw [hV, Int.pow_succ]
    refine ⟨by omega, fun _ => by omega, by omega⟩
theorem hV_inj {d e : Nat → Int} : ∀ (n k : Nat), (∀ j, j < n → 1 ≤ d j ∧ d j ≤ 26) → (∀ j, j < k → 1 ≤ e j ∧ e j ≤ 26) → hV d n = hV e k → n = k ∧ ∀ j, j < n → d j = e j
  | 0, 0, _, _, _ => ⟨rfl, fun j hj => absurd hj (Nat.not_lt_zero j)⟩
  | 0, k + 1, _, he, h => by
    have := (hV_lt (d := e) (k + 1) he).2.1 (by omega)
    rw [← h, hV] at this
    omega
  | n + 1, 0, hd, _, h => by
    have := (hV_lt (d := d) (n + 1) hd).2.1 (by omega)
    rw [h, hV] at this
    omega
  | n + 1, k + 1, hd, he, h => by
    have a := hd n (by omega)
    have b := he k (by omega)
    rw [hV, hV] at h
    have ih := hV_inj (d := d) (e := e) n k (fun j hj => hd j (by omega)) (fun j hj => he j (by omega)) (by omega)
    refine ⟨by omega, fun j hj => ?_⟩
    by_cases hn : j = n
    · rw [hn]
      have : n = k := ih.1
      subst this
      omega
    · exact ih.2 j (by omega)
theorem hV_cg {d e : Nat → Int} : ∀ (n : Nat), (∀ j, j < n → d j = e j) → hV d n = hV e n
  | 0, _ => rfl
  | n + 1, h => by rw [hV, hV, hV_cg n (fun j hj => h j (by omega)), h n (by omega)]
section WO
variable {B : Int → Int} {N : Int} {σ τ : zt_S} {i : Int}
theorem wdH_snoc : ∀ (m : Nat) (a : Int64) (i : Int), wdH B a i (m + 1) = 27 * wdH B a i m + zt_l (B (i + m)) - 96
  | 0, a, i => by
    rw [wdH, wdH, wdH, show i + ((0 : Nat) : Int) = i by omega]
  | m + 1, a, i => by
    rw [wdH, wdH_snoc m, wdH, show i + 1 + (m : Int) = i + ((m + 1 : Nat) : Int) by omega]
theorem zl_of {b : Int} (h : zt_in b) : zt_l b = Int64.ofInt b := (Int64.ofInt_toInt (zt_l b)).symm.trans (by rw [zl_i h])
theorem wdH_v : ∀ (m : Nat), (∀ j : Nat, j < m → 97 ≤ B (i + j) ∧ B (i + j) ≤ 122) → wdH B 0 i m = Int64.ofInt (hV (fun j => B (i + j) - 96) m)
  | 0, _ => by rw [wdH, hV]; rfl
  | m + 1, h => by
    have b := h m (by omega)
    rw [wdH_snoc, wdH_v m (fun j hj => h j (by omega)), hV, zl_of (by unfold zt_in; omega)]
    rw [show (27 : Int64) = Int64.ofInt 27 from rfl, show (96 : Int64) = Int64.ofInt 96 from rfl, ← Int64.ofInt_mul, ← Int64.ofInt_add, ← Int64.ofInt_sub]
    congr 1
    omega
theorem mtW_iff {w : Nat} {s : Int} : ∀ (m : Nat) (j : Int), mtW B w s j m = true ↔ ∀ x, j ≤ x → x < j + m → B (s + x) = zt_sc w x
  | 0, j => by
    rw [mtW]
    constructor
    · intro _ x h0 h1; omega
    · intro _; rfl
  | m + 1, j => by
    have ih := mtW_iff (w := w) (s := s) m (j + 1)
    rw [mtW, Bool.and_eq_true, decide_eq_true_eq, ih]
    constructor
    · rintro ⟨h1, h2⟩ x h3 h4
      by_cases hx : x = j
      · rw [hx]; exact h1
      · exact h2 x (by omega) (by omega)
    · intro h
      exact ⟨h j (by omega) (by omega), fun x h3 h4 => h x (by omega) (by omega)⟩
set_option maxRecDepth 20000 in
theorem sl_ok : ∀ k : Nat, k < 10 → (1 ≤ zt_sl (q_big + 1 + k) ∧ zt_sl (q_big + 1 + k) ≤ 6) ∧ ∀ j : Nat, j < 6 → (j : Int) < zt_sl (q_big + 1 + k) → 97 ≤ zt_sc (q_big + 1 + k) (j : Int) ∧ zt_sc (q_big + 1 + k) (j : Int) ≤ 122 := by decide +kernel
/-- the number of a word -/
def hWl (w : Nat) (l : Int) : Int := hV (fun j => zt_sc w (j : Int) - 96) l.toNat
def hW (k : Nat) : Int := hWl (q_big + 1 + k) (zt_sl (q_big + 1 + k))
theorem isW_g {w : Nat} {l : Int} (hl : zt_sl w = l) (so : 1 ≤ l ∧ l ≤ 6) (sc : ∀ j : Nat, j < 6 → (j : Int) < l → 97 ≤ zt_sc w (j : Int) ∧ zt_sc w (j : Int) ≤ 122) (hi : 0 ≤ i ∧ i ≤ N) : isW B N i w = true ↔ tK B N i = 2 ∧ tE B N i - tS B N i ≤ 10 ∧ tW B N i = Int64.ofInt (hWl w l) := by
  have te := tE_lt (B := B) hi
  unfold isW
  simp only [Bool.and_eq_true, decide_eq_true_eq]
  obtain ⟨g, hg⟩ : ∃ g : Int → Int, ∀ j, zt_sc w j = g j := ⟨_, fun _ => rfl⟩
  have hh : hWl w l = hV (fun j => g (j : Int) - 96) l.toNat := hV_cg _ (fun j _ => by rw [hg])
  rw [mtW_iff, hl, hh]
  simp only [hg] at sc ⊢
  clear hh hl
  constructor
  · rintro ⟨⟨h1, h2⟩, h3⟩
    refine ⟨h1, by omega, ?_⟩
    unfold tW
    rw [if_pos (by omega), wdH_v _ (fun j hj => ?_)]
    · rw [h2]
      refine congrArg _ (hV_cg _ (fun j hj => ?_))
      rw [h3 (j : Int) (by omega) (by omega)]
    · rw [h3 (j : Int) (by omega) (by omega)]
      exact sc j (by omega) (by omega)
  · rintro ⟨h1, h2, h3⟩
    have lt : ∀ j, tS B N i ≤ j → j < tE B N i → 97 ≤ B j ∧ B j ≤ 122 := by
      intro j h4 h5
      have := tE_in (B := B) hi h4 h5
      rw [h1] at this
      rcases tkK_lt (B := B) (N := N) j with c | c
      · omega
      · exact bK2 (by rw [← c.2.2.2]; exact this)
    have e : tW B N i = wdH B 0 (tS B N i) (tE B N i - tS B N i).toNat := by
      unfold tW
      split
      · rfl
      · rw [show (tE B N i - tS B N i).toNat = 10 by omega]
    rw [e, wdH_v _ (fun j hj => lt _ (by omega) (by omega))] at h3
    have b1 := hV_lt (d := fun j => B (tS B N i + j) - 96) (tE B N i - tS B N i).toNat (fun j hj => by have := lt (tS B N i + j) (by omega) (by omega); omega)
    have b2 := hV_lt (d := fun j => g (j : Int) - 96) l.toNat (fun j hj => by have := sc j (by omega) (by omega); omega)
    have p1 : (27 : Int) ^ (tE B N i - tS B N i).toNat ≤ 205891132094649 := by
      have := Nat.pow_le_pow_right (n := 27) (by decide) (show (tE B N i - tS B N i).toNat ≤ 10 by omega)
      have h := Int.ofNat_le.mpr this
      rw [Int.natCast_pow] at h
      exact h
    have p2 : (27 : Int) ^ l.toNat ≤ 205891132094649 := by
      have := Nat.pow_le_pow_right (n := 27) (by decide) (show l.toNat ≤ 10 by omega)
      have h := Int.ofNat_le.mpr this
      rw [Int.natCast_pow] at h
      exact h
    have q1 := Int64.toInt_ofInt_of_le (n := hV (fun j => B (tS B N i + j) - 96) (tE B N i - tS B N i).toNat) (by omega) (by omega)
    have q2 := Int64.toInt_ofInt_of_le (n := hV (fun j => g (j : Int) - 96) l.toNat) (by omega) (by omega)
    have q3 : hV (fun j => B (tS B N i + j) - 96) (tE B N i - tS B N i).toNat = hV (fun j => g (j : Int) - 96) l.toNat := by rw [← q1, ← q2, h3]
    have inj := hV_inj (tE B N i - tS B N i).toNat l.toNat (fun j hj => by have := lt (tS B N i + j) (by omega) (by omega); omega) (fun j hj => by have := sc j (by omega) (by omega); omega) q3
    refine ⟨⟨h1, by omega⟩, fun x h4 h5 => ?_⟩
    have gg := inj.2 x.toNat (by omega)
    have ex : ((x.toNat : Nat) : Int) = x := by omega
    simp only [ex] at gg
    omega
theorem isW_h {k : Nat} (hk : k < 10) (hi : 0 ≤ i ∧ i ≤ N) : isW B N i (q_big + 1 + k) = true ↔ tK B N i = 2 ∧ tE B N i - tS B N i ≤ 10 ∧ tW B N i = Int64.ofInt (hW k) :=
  isW_g rfl (sl_ok k hk).1 (sl_ok k hk).2 hi
theorem e_isWord_28 {w : Nat} {l : Int} (el : zt_sl w = l) (hB : CBY B N σ) (hl : 0 ≤ l ∧ l ≤ 100) (hs : 0 ≤ σ.1 2 2 ∧ σ.1 2 2 + l ≤ N) : ∀ (m f : Nat) (j : Int), j + m = l → m < f → 0 ≤ j → F_Tk_isWord_28 w f j σ = some (if mtW B w (σ.1 2 2) j m = true then 1 else 0, σ)
  | m, 0, _, _, h1, _ => absurd h1 (Nat.not_lt_zero m)
  | 0, f + 1, j, h0, h1, h2 => by
    rw [F_Tk_isWord_28, el, zt_ckI ⟨by unfold zt_in; omega, by unfold zt_in; omega⟩, if_neg (by omega), mtW]
    rfl
  | m + 1, f + 1, j, h0, h1, h2 => by
    have hN := hB.1
    have hb := hB.2.2 (σ.1 2 2 + j) (by omega) (by omega)
    rw [F_Tk_isWord_28, el, zt_ckI ⟨by unfold zt_in; omega, by unfold zt_in; omega⟩, if_pos (by omega), e_byteAt hB ⟨by omega, by omega⟩, zt_bdS, zt_ckI ⟨h2, by omega⟩, zt_ckI (by unfold zt_in; omega), mtW]
    by_cases hz : B (σ.1 2 2 + j) = zt_sc w j
    · rw [if_pos hz, decide_eq_true hz, Bool.true_and]
      exact e_isWord_28 el hB hl hs m f (j + 1) (by omega) (by omega) (by omega)
    · rw [if_neg hz, decide_eq_false hz]
      rfl
theorem e_isWord {w : Nat} (hB : CBY B N σ) (hi : 0 ≤ i ∧ i ≤ N) (hT : CT B N σ i) {l : Int} (el : zt_sl w = l) (hl : 0 ≤ l ∧ l ≤ 100) : F_Tk_isWord w σ = some (if isW B N i w = true then 1 else 0, σ) := by
  have hN := hB.1
  have te := tE_lt (B := B) hi
  have ts := tS_lt (B := B) hi
  have kv := tK_v (B := B) hi
  obtain ⟨t1, t2, t3, t4⟩ := hT
  unfold F_Tk_isWord F_Tk_isWord_24 isW
  rw [el, t3, zt_ckI (by unfold zt_in; omega)]
  by_cases h2 : tK B N i = 2
  · rw [if_pos h2, t2, t1, zt_ckI ⟨by unfold zt_in; omega, by unfold zt_in; omega⟩, decide_eq_true h2, Bool.true_and]
    by_cases h3 : tE B N i - tS B N i = l
    · rw [if_pos h3, decide_eq_true h3, Bool.true_and, e_isWord_28 el hB hl (by rw [t1]; omega) l.toNat zt_N 0 (by omega) (zN (by omega)) (by omega), t1]
    · rw [if_neg h3, decide_eq_false h3]
      rfl
  · rw [if_neg h2, decide_eq_false h2]
    rfl
theorem kM_v (hi : 0 ≤ i ∧ i ≤ N) : (kM (tK B N i) = 0 ↔ tK B N i = 0) ∧ (kM (tK B N i) = 1 ↔ tK B N i = 2) ∧ (kM (tK B N i) = 2 ↔ tK B N i = 3) ∧ (kM (tK B N i) = 3 ↔ tK B N i = 4) ∧ zt_in (kM (tK B N i)) := by
  have kv := tK_v (B := B) hi
  unfold kM zt_in
  split <;> omega
end WO
/-! A READER'S STATE: the error, where, the token -/
abbrev PS : Type := Int × Int × Int
def CP (B : Int → Int) (N : Int) (σ : zt_S) (s : PS) : Prop := CBY B N σ ∧ (0 ≤ s.2.2 ∧ s.2.2 ≤ N) ∧ CT B N σ s.2.2 ∧ σ.1 2 6 = s.1 ∧ σ.1 2 7 = s.2.1 ∧ (0 ≤ s.1 ∧ s.1 ≤ 3) ∧ (-1 ≤ s.2.1 ∧ s.2.1 ≤ 500)
def MP (B : Int → Int) (N : Int) (τ : zt_S) (s : PS) : Prop := MBY B N τ ∧ (0 ≤ s.2.2 ∧ s.2.2 ≤ N) ∧ RT B N τ s.2.2 ∧ τ.1 163 16 = s.1 ∧ τ.1 163 17 = s.2.1 ∧ (0 ≤ s.1 ∧ s.1 ≤ 3) ∧ (-1 ≤ s.2.1 ∧ s.2.1 ≤ 500)
section PA
variable (B : Int → Int) (N : Int)
def pF (k : Int) (s : PS) : PS := if s.1 = 0 then (k, tS B N s.2.2, s.2.2) else s
def pX (s : PS) : PS := (s.1, s.2.1, tE B N s.2.2)
def pPs (lo hi : Int) (s : PS) : PS := if tK B N s.2.2 = 3 then (if tN B N s.2.2 < lo ∨ hi < tN B N s.2.2 then pF B N 2 s else s) else pF B N 1 s
def pPv (lo hi : Int) (s : PS) : Int := if (pPs B N lo hi s).1 = 0 then tN B N s.2.2 else lo
def pNu (lo hi : Int) (s : PS) : PS := if (pPs B N lo hi s).1 = 0 then pX B N (pPs B N lo hi s) else pPs B N lo hi s
def pWb (w : Nat) (s : PS) : Bool := decide (s.1 = 0) && isW B N s.2.2 w
def pWd (w : Nat) (s : PS) : PS := if pWb B N w s = true then pX B N s else s
def pSb (b : Int) (s : PS) : Bool := decide (s.1 = 0) && (decide (tK B N s.2.2 = 4) && decide (B (tS B N s.2.2) = b))
def pSn (b : Int) (s : PS) : PS := if pSb B N b s = true then pX B N s else s
def pNW (w : Nat) (s : PS) : PS := if pWb B N w s = true then pX B N s else pF B N 1 s
def pNS (b : Int) (s : PS) : PS := if pSb B N b s = true then pX B N s else pF B N 1 s
end PA
/-- only the reader has changed -/
def FT2 (σ σ' : zt_S) : Prop := (∀ c j, (c ≠ 2 ∨ (j ≠ 2 ∧ j ≠ 3 ∧ j ≠ 4 ∧ j ≠ 5 ∧ j ≠ 6 ∧ j ≠ 7)) → σ'.1 c j = σ.1 c j) ∧ σ'.2 = σ.2
def FT3 (τ τ' : zt_S) : Prop := (∀ c j, (c ≠ 163 ∨ (j ≠ 11 ∧ j ≠ 12 ∧ j ≠ 13 ∧ j ≠ 14 ∧ j ≠ 16 ∧ j ≠ 17)) → τ'.1 c j = τ.1 c j) ∧ (∀ c j, (c ≠ 163 ∨ j ≠ 15) → τ'.2.1 c j = τ.2.1 c j) ∧ τ'.2.2 = τ.2.2
section PO
variable {B : Int → Int} {N : Int} {σ τ : zt_S} {s : PS}
theorem FT2.rf : FT2 σ σ := ⟨fun _ _ _ => rfl, rfl⟩
theorem FT2.tr {a b c : zt_S} (h : FT2 a b) (g : FT2 b c) : FT2 a c := ⟨fun x j hx => by rw [g.1 x j hx, h.1 x j hx], g.2.trans h.2⟩
theorem F2.w {a b : zt_S} (h : F2 a b) : FT2 a b := ⟨fun x j hx => h.1 x j (by omega), h.2⟩
theorem FT3.rf : FT3 τ τ := ⟨fun _ _ _ => rfl, fun _ _ _ => rfl, rfl⟩
theorem FT3.tr {a b c : zt_S} (h : FT3 a b) (g : FT3 b c) : FT3 a c := ⟨fun x j hx => by rw [g.1 x j hx, h.1 x j hx], fun x j hx => by rw [g.2.1 x j hx, h.2.1 x j hx], g.2.2.trans h.2.2⟩
theorem F3.w {a b : zt_S} (h : F3 a b) : FT3 a b := ⟨fun x j hx => h.1 x j (by omega), h.2.1, h.2.2⟩
/-- the reader's cells alone are asked -/
theorem CP.l {σ' : zt_S} (h : CP B N σ s) (e1 : ∀ j, σ'.1 1 j = σ.1 1 j) (e2 : ∀ j, 1 ≤ j → j ≤ 7 → σ'.1 2 j = σ.1 2 j) : CP B N σ' s := by
  obtain ⟨h1, h2, h3, h4, h5, h6⟩ := h
  refine ⟨⟨h1.1, by rw [e2 1 (by omega) (by omega)]; exact h1.2.1, fun j a b => by rw [e1]; exact h1.2.2 j a b⟩, h2, ?_, by rw [e2 6 (by omega) (by omega)]; exact h4, by rw [e2 7 (by omega) (by omega)]; exact h5, h6⟩
  unfold CT at h3 ⊢
  rw [e2 2 (by omega) (by omega), e2 3 (by omega) (by omega), e2 4 (by omega) (by omega), e2 5 (by omega) (by omega)]
  exact h3
theorem MP.l {τ' : zt_S} (h : MP B N τ s) (e1 : ∀ j, τ'.1 169 j = τ.1 169 j) (e2 : ∀ j, 10 ≤ j → j ≤ 17 → τ'.1 163 j = τ.1 163 j) (e3 : τ'.2.1 163 15 = τ.2.1 163 15) : MP B N τ' s := by
  obtain ⟨h1, h2, h3, h4, h5, h6⟩ := h
  refine ⟨⟨h1.1, by rw [e2 10 (by omega) (by omega)]; exact h1.2.1, fun j a b => by rw [e1]; exact h1.2.2 j a b⟩, h2, ?_, by rw [e2 16 (by omega) (by omega)]; exact h4, by rw [e2 17 (by omega) (by omega)]; exact h5, h6⟩
  unfold RT at h3 ⊢
  rw [e2 12 (by omega) (by omega), e2 11 (by omega) (by omega), e2 13 (by omega) (by omega), e2 14 (by omega) (by omega), e3]
  exact h3
theorem pF_lt (h : 0 ≤ s.2.2 ∧ s.2.2 ≤ N) (hN : N ≤ 500) (h1 : 0 ≤ s.1 ∧ s.1 ≤ 3) (h2 : -1 ≤ s.2.1 ∧ s.2.1 ≤ 500) {k : Int} (hk : 1 ≤ k ∧ k ≤ 3) : (0 ≤ (pF B N k s).1 ∧ (pF B N k s).1 ≤ 3) ∧ (-1 ≤ (pF B N k s).2.1 ∧ (pF B N k s).2.1 ≤ 500) ∧ (pF B N k s).2.2 = s.2.2 ∧ (pF B N k s).1 ≠ 0 := by
  have ts := tS_lt (B := B) h
  unfold pF
  by_cases h0 : s.1 = 0
  · rw [if_pos h0]
    dsimp only
    omega
  · rw [if_neg h0]
    omega
theorem e_fail {k : Int} (h : CP B N σ s) (hk : 1 ≤ k ∧ k ≤ 3) : ∃ σ', F_Tk_fail k σ = some ((), σ') ∧ CP B N σ' (pF B N k s) ∧ FT2 σ σ' := by
  have hp := pF_lt (B := B) (k := k) h.2.1 h.1.1.2 h.2.2.2.2.2.1 h.2.2.2.2.2.2 hk
  obtain ⟨h1, h2, h3, h4, h5, h6⟩ := h
  unfold F_Tk_fail F_Tk_fail_20
  rw [h4, zt_ckI (by unfold zt_in; omega)]
  by_cases h0 : s.1 = 0
  · have e : pF B N k s = (k, tS B N s.2.2, s.2.2) := if_pos h0
    rw [if_pos h0, zt_letS, zt_letS, up_o (by omega), h3.1]
    rw [e] at hp ⊢
    refine ⟨_, rfl, ⟨⟨h1.1, by rw [up_o (by omega), up_o (by omega)]; exact h1.2.1, fun j a b => by rw [up_o (by omega), up_o (by omega)]; exact h1.2.2 j a b⟩, h2, ?_, by rw [up_o (by omega), up_s], by rw [up_s], hp.1, hp.2.1⟩, ⟨fun c j hx => by rw [up_o (by omega), up_o (by omega)], rfl⟩⟩
    obtain ⟨t1, t2, t3, t4⟩ := h3
    refine ⟨?_, ?_, ?_, ?_⟩
    · rw [up_o (by omega), up_o (by omega)]; exact t1
    · rw [up_o (by omega), up_o (by omega)]; exact t2
    · rw [up_o (by omega), up_o (by omega)]; exact t3
    · rw [up_o (by omega), up_o (by omega)]; exact t4
  · have e : pF B N k s = s := if_neg h0
    rw [if_neg h0, e]
    exact ⟨σ, rfl, ⟨h1, h2, h3, h4, h5, h6⟩, FT2.rf⟩
theorem e_hasFailed (h : CP B N σ s) : F_Tk_hasFailed σ = some (if s.1 = 0 then 0 else 1, σ) := by
  obtain ⟨h1, h2, h3, h4, h5, h6⟩ := h
  unfold F_Tk_hasFailed F_Tk_hasFailed_12
  rw [h4, zt_ckI (by unfold zt_in; omega)]
  by_cases h0 : s.1 = 0
  · rw [if_pos h0, if_pos h0, zt_ckI (Or.inl rfl)]
  · rw [if_neg h0, if_neg h0, zt_ckI (Or.inr rfl)]
theorem e_nx (h : CP B N σ s) : ∃ σ', F_Tk_next σ = some ((), σ') ∧ CP B N σ' (pX B N s) ∧ FT2 σ σ' := by
  obtain ⟨h1, h2, h3, h4, h5, h6⟩ := h
  have te := tE_lt (B := B) h2
  have ts := tS_lt (B := B) h2
  obtain ⟨σ', g1, g2, g3⟩ := e_next h1 (by rw [h3.2.1]; omega)
  rw [h3.2.1] at g2
  exact ⟨σ', g1, ⟨h1.f g3, ⟨by show 0 ≤ tE B N s.2.2; omega, by show tE B N s.2.2 ≤ N; omega⟩, g2, by rw [g3.1 _ _ (by omega)]; exact h4, by rw [g3.1 _ _ (by omega)]; exact h5, h6⟩, g3.w⟩
theorem tN_in (h : 0 ≤ s.2.2 ∧ s.2.2 ≤ N) : 0 ≤ tN B N s.2.2 ∧ tN B N s.2.2 ≤ 1000000 := by
  by_cases h3 : tK B N s.2.2 = 3
  · have := tN_tV (B := B) h h3
    omega
  · unfold tN
    rw [if_neg h3]
    omega
theorem e_peek {lo hi : Int} (h : CP B N σ s) (hl : 0 ≤ lo ∧ lo < 1000000) (hh : -1 ≤ hi ∧ hi < 1000000) : ∃ σ', F_Tk_peekNumber lo hi σ = some (pPv B N lo hi s, σ') ∧ CP B N σ' (pPs B N lo hi s) ∧ FT2 σ σ' := by
  have kv := tK_v (B := B) h.2.1
  have tn := tN_in (B := B) (s := s) h.2.1
  have hT := h.2.2.1
  have tail : ∀ (σ' : zt_S) (s' : PS), CP B N σ' s' → s'.2.2 = s.2.2 → F_Tk_peekNumber_37 lo σ' = some (if s'.1 = 0 then tN B N s.2.2 else lo, σ') := by
    intro σ' s' h' e'
    unfold F_Tk_peekNumber_37 F_Tk_peekNumber_52
    rw [e_hasFailed h', zt_bdS]
    by_cases h0 : s'.1 = 0
    · rw [if_pos h0, zt_ckI (by decide), if_pos rfl, if_pos h0, h'.2.2.1.2.2.2, e']
    · rw [if_neg h0, zt_ckI (by decide), if_neg (by decide), if_neg h0]
  unfold F_Tk_peekNumber pPv pPs
  rw [hT.2.2.1, zt_ckI (by unfold zt_in; omega)]
  by_cases h3 : tK B N s.2.2 = 3
  · rw [if_pos h3, if_pos h3, hT.2.2.2, zt_ckI ⟨by unfold zt_in; omega, by unfold zt_in; omega⟩]
    have h32 : ∃ σ', F_Tk_peekNumber_32 lo σ = some (if (pF B N 2 s).1 = 0 then tN B N s.2.2 else lo, σ') ∧ CP B N σ' (pF B N 2 s) ∧ FT2 σ σ' := by
      obtain ⟨σ', g1, g2, g3⟩ := e_fail (k := 2) h (by decide)
      have fl := pF_lt (B := B) (k := 2) h.2.1 h.1.1.2 h.2.2.2.2.2.1 h.2.2.2.2.2.2 (by decide)
      refine ⟨σ', ?_, g2, g3⟩
      unfold F_Tk_peekNumber_32
      rw [g1, zt_bdS, tail σ' _ g2 fl.2.2.1]
    by_cases hlo : tN B N s.2.2 < lo
    · rw [if_pos hlo, if_pos (Or.inl hlo)]
      exact h32
    · rw [if_neg hlo, zt_ckI ⟨by unfold zt_in; omega, by unfold zt_in; omega⟩]
      by_cases hhi : hi < tN B N s.2.2
      · rw [if_pos hhi, if_pos (Or.inr hhi)]
        exact h32
      · rw [if_neg hhi, if_neg (show ¬ (tN B N s.2.2 < lo ∨ hi < tN B N s.2.2) by omega)]
        exact ⟨σ, tail σ s h rfl, h, FT2.rf⟩
  · rw [if_neg h3, if_neg h3]
    obtain ⟨σ', g1, g2, g3⟩ := e_fail (k := 1) h (by decide)
    have fl := pF_lt (B := B) (k := 1) h.2.1 h.1.1.2 h.2.2.2.2.2.1 h.2.2.2.2.2.2 (by decide)
    refine ⟨σ', ?_, g2, g3⟩
    rw [g1, zt_bdS, tail σ' _ g2 fl.2.2.1]
theorem e_take {lo hi : Int} (h : CP B N σ s) (hl : 0 ≤ lo ∧ lo < 1000000) (hh : -1 ≤ hi ∧ hi < 1000000) : ∃ σ', F_Tk_takeNumber lo hi σ = some (pPv B N lo hi s, σ') ∧ CP B N σ' (pNu B N lo hi s) ∧ FT2 σ σ' := by
  obtain ⟨σ1, g1, g2, g3⟩ := e_peek (lo := lo) (hi := hi) h hl hh
  unfold F_Tk_takeNumber F_Tk_takeNumber_18 pNu
  rw [g1, zt_bdS, e_hasFailed g2, zt_bdS]
  by_cases h0 : (pPs B N lo hi s).1 = 0
  · obtain ⟨σ2, k1, k2, k3⟩ := e_nx g2
    rw [if_pos h0, zt_ckI (by decide), if_pos rfl, k1, zt_bdS, if_pos h0]
    exact ⟨σ2, rfl, k2, g3.tr k3⟩
  · rw [if_neg h0, zt_ckI (by decide), if_neg (by decide), if_neg h0]
    exact ⟨σ1, rfl, g2, g3⟩
theorem e_takeWord {k : Nat} (hk : k < 10) (h : CP B N σ s) : ∃ σ', F_Tk_takeWord (q_big + 1 + k) σ = some (if pWb B N (q_big + 1 + k) s = true then 1 else 0, σ') ∧ CP B N σ' (pWd B N (q_big + 1 + k) s) ∧ FT2 σ σ' := by
  have so := (sl_ok k hk).1
  unfold F_Tk_takeWord F_Tk_takeWord_15 pWd pWb
  rw [e_hasFailed h, zt_bdS]
  by_cases h0 : s.1 = 0
  · rw [if_pos h0, zt_ckI (by decide), if_pos rfl, e_isWord h.1 h.2.1 h.2.2.1 rfl (by omega), zt_bdS, decide_eq_true h0, Bool.true_and]
    by_cases hw : isW B N s.2.2 (q_big + 1 + k) = true
    · obtain ⟨σ2, k1, k2, k3⟩ := e_nx h
      rw [if_pos hw, zt_ckI (by decide), if_neg (by decide), k1, zt_bdS, if_pos hw]
      exact ⟨σ2, rfl, k2, k3⟩
    · rw [if_neg hw, zt_ckI (by decide), if_pos rfl, if_neg hw]
      exact ⟨σ, rfl, h, FT2.rf⟩
  · rw [if_neg h0, zt_ckI (by decide), if_neg (by decide), decide_eq_false h0, Bool.false_and]
    exact ⟨σ, rfl, h, FT2.rf⟩
theorem e_isSign {b : Int} (h : CP B N σ s) (hb : 0 ≤ b ∧ b ≤ 255) : F_Tk_isSign b σ = some (if tK B N s.2.2 = 4 ∧ B (tS B N s.2.2) = b then 1 else 0, σ) := by
  have kv := tK_v (B := B) h.2.1
  have ts := tS_lt (B := B) h.2.1
  have hT := h.2.2.1
  unfold F_Tk_isSign F_Tk_isSign_24 F_Tk_isSign_25
  rw [hT.2.2.1, zt_ckI (by unfold zt_in; omega)]
  by_cases h4 : tK B N s.2.2 = 4
  · have hs : tS B N s.2.2 ≠ N := fun z => by have := ts.2.2.2.mpr z; omega
    have hb2 := h.1.2.2 (tS B N s.2.2) (by have := h.2.1; omega) (by omega)
    rw [if_pos h4, hT.1, e_byteAt h.1 ⟨by have := h.2.1; omega, by omega⟩, zt_bdS, zt_ckI ⟨by unfold zt_in; omega, by unfold zt_in; omega⟩]
    by_cases hz : B (tS B N s.2.2) = b
    · rw [if_pos hz, zt_ckI (Or.inr rfl), if_pos ⟨h4, hz⟩]
    · rw [if_neg hz, zt_ckI (Or.inl rfl), if_neg (fun z => hz z.2)]
  · rw [if_neg h4, zt_ckI (Or.inl rfl), if_neg (fun z => h4 z.1)]
theorem e_takeSign {b : Int} (h : CP B N σ s) (hb : 0 ≤ b ∧ b ≤ 255) : ∃ σ', F_Tk_takeSign b σ = some (if pSb B N b s = true then 1 else 0, σ') ∧ CP B N σ' (pSn B N b s) ∧ FT2 σ σ' := by
  unfold F_Tk_takeSign F_Tk_takeSign_15 pSn
  have e : (pSb B N b s = true) ↔ (s.1 = 0 ∧ tK B N s.2.2 = 4 ∧ B (tS B N s.2.2) = b) := by
    unfold pSb
    simp only [Bool.and_eq_true, decide_eq_true_eq]
  rw [e_hasFailed h, zt_bdS]
  by_cases h0 : s.1 = 0
  · rw [if_pos h0, zt_ckI (by decide), if_pos rfl, e_isSign h hb, zt_bdS]
    by_cases hw : tK B N s.2.2 = 4 ∧ B (tS B N s.2.2) = b
    · obtain ⟨σ2, k1, k2, k3⟩ := e_nx h
      rw [if_pos hw, zt_ckI (by decide), if_neg (by decide), k1, zt_bdS, if_pos (e.mpr ⟨h0, hw⟩), if_pos (e.mpr ⟨h0, hw⟩)]
      exact ⟨σ2, rfl, k2, k3⟩
    · rw [if_neg hw, zt_ckI (by decide), if_pos rfl, if_neg (fun z => hw (e.mp z).2), if_neg (fun z => hw (e.mp z).2)]
      exact ⟨σ, rfl, h, FT2.rf⟩
  · rw [if_neg h0, zt_ckI (by decide), if_neg (by decide), if_neg (fun z => h0 (e.mp z).1), if_neg (fun z => h0 (e.mp z).1)]
    exact ⟨σ, rfl, h, FT2.rf⟩
theorem e_needWord {k : Nat} (hk : k < 10) (h : CP B N σ s) : ∃ σ', F_Tk_needWord (q_big + 1 + k) σ = some ((), σ') ∧ CP B N σ' (pNW B N (q_big + 1 + k) s) ∧ FT2 σ σ' := by
  obtain ⟨σ1, g1, g2, g3⟩ := e_takeWord hk h
  unfold F_Tk_needWord F_Tk_needWord_13 pNW
  unfold pWd at g2
  rw [g1, zt_bdS]
  by_cases hw : pWb B N (q_big + 1 + k) s = true
  · rw [if_pos hw] at g2
    rw [if_pos hw, zt_ckI (by decide), if_neg (by decide), if_pos hw]
    exact ⟨σ1, rfl, g2, g3⟩
  · rw [if_neg hw] at g2
    obtain ⟨σ2, k1, k2, k3⟩ := e_fail (k := 1) g2 (by decide)
    rw [if_neg hw, zt_ckI (by decide), if_pos rfl, if_neg hw, k1, zt_bdS]
    exact ⟨σ2, rfl, k2, g3.tr k3⟩
theorem e_needSign {b : Int} (h : CP B N σ s) (hb : 0 ≤ b ∧ b ≤ 255) : ∃ σ', F_Tk_needSign b σ = some ((), σ') ∧ CP B N σ' (pNS B N b s) ∧ FT2 σ σ' := by
  obtain ⟨σ1, g1, g2, g3⟩ := e_takeSign h hb
  unfold F_Tk_needSign F_Tk_needSign_13 pNS
  unfold pSn at g2
  rw [g1, zt_bdS]
  by_cases hw : pSb B N b s = true
  · rw [if_pos hw] at g2
    rw [if_pos hw, zt_ckI (by decide), if_neg (by decide), if_pos hw]
    exact ⟨σ1, rfl, g2, g3⟩
  · rw [if_neg hw] at g2
    obtain ⟨σ2, k1, k2, k3⟩ := e_fail (k := 1) g2 (by decide)
    rw [if_neg hw, zt_ckI (by decide), if_pos rfl, if_neg hw, k1, zt_bdS]
    exact ⟨σ2, rfl, k2, g3.tr k3⟩
theorem e_isNumber (h : CP B N σ s) : F_Tk_isNumber σ = some (if tK B N s.2.2 = 3 then 1 else 0, σ) := by
  have kv := tK_v (B := B) h.2.1
  unfold F_Tk_isNumber F_Tk_isNumber_13
  rw [h.2.2.1.2.2.1, zt_ckI (by unfold zt_in; omega)]
  split
  · rw [zt_ckI (Or.inr rfl)]
  · rw [zt_ckI (Or.inl rfl)]
theorem e_isAtEnd (h : CP B N σ s) : F_Tk_isAtEnd σ = some (if tK B N s.2.2 = 0 then 1 else 0, σ) := by
  have kv := tK_v (B := B) h.2.1
  unfold F_Tk_isAtEnd F_Tk_isAtEnd_12
  rw [h.2.2.1.2.2.1, zt_ckI (by unfold zt_in; omega)]
  split
  · rw [zt_ckI (Or.inr rfl)]
  · rw [zt_ckI (Or.inl rfl)]
/-! the reference -/
theorem em_wrongs {k : Int} (h : MP B N τ s) (hk : 1 ≤ k ∧ k ≤ 3) : ∃ τ', F_M_wrongs k τ = some (0, τ') ∧ MP B N τ' (pF B N k s) ∧ FT3 τ τ' := by
  have hp := pF_lt (B := B) (k := k) h.2.1 h.1.1.2 h.2.2.2.2.2.1 h.2.2.2.2.2.2 hk
  obtain ⟨h1, h2, h3, h4, h5, h6⟩ := h
  unfold F_M_wrongs F_M_wrongs_20
  rw [h4, zt_ckI (by unfold zt_in; omega)]
  by_cases h0 : s.1 = 0
  · have e : pF B N k s = (k, tS B N s.2.2, s.2.2) := if_pos h0
    rw [if_pos h0, zt_letS, zt_letS, up_o (by omega), h3.1]
    rw [e] at hp ⊢
    refine ⟨_, rfl, ⟨⟨h1.1, by rw [up_o (by omega), up_o (by omega)]; exact h1.2.1, fun j a b => by rw [up_o (by omega), up_o (by omega)]; exact h1.2.2 j a b⟩, h2, ?_, by rw [up_o (by omega), up_s], by rw [up_s], hp.1, hp.2.1⟩, ⟨fun c j hx => by rw [up_o (by omega), up_o (by omega)], fun _ _ _ => rfl, rfl⟩⟩
    obtain ⟨t1, t2, t3, t4, t5⟩ := h3
    refine ⟨?_, ?_, ?_, fun z => ?_, t5⟩
    · rw [up_o (by omega), up_o (by omega)]; exact t1
    · rw [up_o (by omega), up_o (by omega)]; exact t2
    · rw [up_o (by omega), up_o (by omega)]; exact t3
    · rw [up_o (by omega), up_o (by omega)]; exact t4 z
  · have e : pF B N k s = s := if_neg h0
    rw [if_neg h0, e]
    exact ⟨τ, rfl, ⟨h1, h2, h3, h4, h5, h6⟩, FT3.rf⟩
theorem em_isGood (h : MP B N τ s) : F_M_isGood τ = some (if s.1 = 0 then 1 else 0, τ) := by
  obtain ⟨h1, h2, h3, h4, h5, h6⟩ := h
  unfold F_M_isGood F_M_isGood_12
  rw [h4, zt_ckI (by unfold zt_in; omega)]
  by_cases h0 : s.1 = 0
  · rw [if_pos h0, if_pos h0, zt_ckI (Or.inr rfl)]
  · rw [if_neg h0, if_neg h0, zt_ckI (Or.inl rfl)]
theorem em_nx (h : MP B N τ s) : ∃ τ', F_M_next τ = some ((), τ') ∧ MP B N τ' (pX B N s) ∧ FT3 τ τ' := by
  obtain ⟨h1, h2, h3, h4, h5, h6⟩ := h
  have te := tE_lt (B := B) h2
  have ts := tS_lt (B := B) h2
  obtain ⟨τ', g1, g2, g3⟩ := em_next h1 (by rw [h3.2.1]; omega)
  rw [h3.2.1] at g2
  exact ⟨τ', g1, ⟨h1.f g3, ⟨by show 0 ≤ tE B N s.2.2; omega, by show tE B N s.2.2 ≤ N; omega⟩, g2, by rw [g3.1 _ _ (by omega)]; exact h4, by rw [g3.1 _ _ (by omega)]; exact h5, h6⟩, g3.w⟩
theorem em_isWord {k : Nat} {hh : Int64} (hk : k < 10) (he : hh = Int64.ofInt (hW k)) (h : MP B N τ s) : F_M_isWord hh τ = some (if pWb B N (q_big + 1 + k) s = true then 1 else 0, τ) := by
  have kv := tK_v (B := B) h.2.1
  have km := kM_v (B := B) h.2.1
  have te := tE_lt (B := B) h.2.1
  have ts := tS_lt (B := B) h.2.1
  have hN := h.1.1
  have iw := isW_h (B := B) hk h.2.1
  have e : (pWb B N (q_big + 1 + k) s = true) ↔ (s.1 = 0 ∧ isW B N s.2.2 (q_big + 1 + k) = true) := by
    unfold pWb
    simp only [Bool.and_eq_true, decide_eq_true_eq]
  obtain ⟨t1, t2, t3, t4, t5⟩ := h.2.2.1
  unfold F_M_isWord F_M_isWord_42 F_M_isWord_43
  rw [em_isGood h, zt_bdS]
  by_cases h0 : s.1 = 0
  · rw [if_pos h0, zt_ckI (by decide), if_neg (by decide), t3, zt_ckI km.2.2.2.2]
    by_cases h2 : tK B N s.2.2 = 2
    · rw [if_pos (km.2.1.mpr h2), t2, t1, zt_ckI (by unfold zt_in; have := h.2.1; omega)]
      by_cases h10 : 10 < tE B N s.2.2 - tS B N s.2.2
      · rw [if_pos h10, zt_ckI (Or.inl rfl), if_neg (fun z => by have := iw.mp (e.mp z).2; omega)]
      · rw [if_neg h10, t5 h2]
        by_cases hz : tW B N s.2.2 = hh
        · rw [if_pos (zt_lc0.mpr hz), zt_ckI (Or.inr rfl), if_pos (e.mpr ⟨h0, iw.mpr ⟨h2, by omega, by rw [hz, he]⟩⟩)]
        · rw [if_neg (fun z => hz (zt_lc0.mp z)), zt_ckI (Or.inl rfl), if_neg (fun z => hz (by rw [(iw.mp (e.mp z).2).2.2, he]))]
    · rw [if_neg (fun z => h2 (km.2.1.mp z)), zt_ckI (Or.inl rfl), if_neg (fun z => h2 (iw.mp (e.mp z).2).1)]
  · rw [if_neg h0, zt_ckI (by decide), if_pos rfl, zt_ckI (Or.inl rfl), if_neg (fun z => h0 (e.mp z).1)]
theorem em_passes {k : Nat} {hh : Int64} (hk : k < 10) (he : hh = Int64.ofInt (hW k)) (h : MP B N τ s) : ∃ τ', F_M_passes hh τ = some (if pWb B N (q_big + 1 + k) s = true then 1 else 0, τ') ∧ MP B N τ' (pWd B N (q_big + 1 + k) s) ∧ FT3 τ τ' := by
  unfold F_M_passes pWd
  rw [em_isWord hk he h, zt_bdS]
  by_cases hw : pWb B N (q_big + 1 + k) s = true
  · obtain ⟨τ2, k1, k2, k3⟩ := em_nx h
    rw [if_pos hw, zt_ckI (by decide), if_neg (by decide), k1, zt_bdS, if_pos hw]
    exact ⟨τ2, rfl, k2, k3⟩
  · rw [if_neg hw, zt_ckI (by decide), if_pos rfl, if_neg hw]
    exact ⟨τ, rfl, h, FT3.rf⟩
theorem em_isByte {b : Int} (h : MP B N τ s) (hb : 0 ≤ b ∧ b ≤ 255) : F_M_isByte b τ = some (if pSb B N b s = true then 1 else 0, τ) := by
  have km := kM_v (B := B) h.2.1
  have ts := tS_lt (B := B) h.2.1
  have hN := h.1.1
  have e : (pSb B N b s = true) ↔ (s.1 = 0 ∧ tK B N s.2.2 = 4 ∧ B (tS B N s.2.2) = b) := by
    unfold pSb
    simp only [Bool.and_eq_true, decide_eq_true_eq]
  obtain ⟨t1, t2, t3, t4, t5⟩ := h.2.2.1
  unfold F_M_isByte F_M_isByte_32 F_M_isByte_33
  rw [em_isGood h, zt_bdS]
  by_cases h0 : s.1 = 0
  · rw [if_pos h0, zt_ckI (by decide), if_neg (by decide), t3, zt_ckI km.2.2.2.2]
    by_cases h4 : tK B N s.2.2 = 4
    · have hs : tS B N s.2.2 ≠ N := fun z => by have := ts.2.2.2.mpr z; omega
      have hb2 := h.1.2.2 (tS B N s.2.2) (by have := h.2.1; omega) (by omega)
      rw [if_pos (km.2.2.2.1.mpr h4), t1, zt_ckI (by have := h.2.1; omega), hb2.1, zt_ckI ⟨by unfold zt_in; omega, by unfold zt_in; omega⟩]
      by_cases hz : B (tS B N s.2.2) = b
      · rw [if_pos hz, zt_ckI (Or.inr rfl), if_pos (e.mpr ⟨h0, h4, hz⟩)]
      · rw [if_neg hz, zt_ckI (Or.inl rfl), if_neg (fun z => hz (e.mp z).2.2)]
    · rw [if_neg (fun z => h4 (km.2.2.2.1.mp z)), zt_ckI (Or.inl rfl), if_neg (fun z => h4 (e.mp z).2.1)]
  · rw [if_neg h0, zt_ckI (by decide), if_pos rfl, zt_ckI (Or.inl rfl), if_neg (fun z => h0 (e.mp z).1)]
theorem em_must {b : Int} (h : MP B N τ s) (hb : 0 ≤ b ∧ b ≤ 255) : ∃ τ', F_M_must b τ = some ((), τ') ∧ MP B N τ' (pNS B N b s) ∧ FT3 τ τ' := by
  unfold F_M_must F_M_must_29 pNS
  rw [em_isGood h, zt_bdS]
  by_cases h0 : s.1 = 0
  · rw [if_pos h0, zt_ckI (by decide), if_neg (by decide), em_isByte h hb, zt_bdS]
    by_cases hw : pSb B N b s = true
    · obtain ⟨τ2, k1, k2, k3⟩ := em_nx h
      rw [if_pos hw, zt_ckI (by decide), if_neg (by decide), k1, zt_bdS, if_pos hw]
      exact ⟨τ2, rfl, k2, k3⟩
    · obtain ⟨τ2, k1, k2, k3⟩ := em_wrongs (k := 1) h (by decide)
      rw [if_neg hw, zt_ckI (by decide), if_pos rfl, k1, zt_bdS, if_neg hw]
      exact ⟨τ2, rfl, k2, k3⟩
  · have hw : ¬ pSb B N b s = true := by
      unfold pSb
      rw [decide_eq_false h0]
      simp
    have e : pF B N 1 s = s := if_neg h0
    rw [if_neg h0, zt_ckI (by decide), if_pos rfl, if_neg hw, e]
    exact ⟨τ, rfl, h, FT3.rf⟩
theorem em_number {lo hi : Int} (h : MP B N τ s) (hl : 0 ≤ lo ∧ lo < 1000000) (hh : -1 ≤ hi ∧ hi < 1000000) : ∃ τ', F_M_number lo hi τ = some (pPv B N lo hi s, τ') ∧ MP B N τ' (pNu B N lo hi s) ∧ FT3 τ τ' := by
  have km := kM_v (B := B) h.2.1
  obtain ⟨t1, t2, t3, t4, t5⟩ := h.2.2.1
  have bad : ∀ (k : Int), (k = 1 ∨ k = 2) → s.1 = 0 → pPs B N lo hi s = pF B N k s → ∃ τ', (zt_bd (F_M_wrongs k τ) fun _ s12 => F_M_number_47 lo s12) = some (pPv B N lo hi s, τ') ∧ MP B N τ' (pNu B N lo hi s) ∧ FT3 τ τ' := by
    intro k hk h0 e
    have fl := pF_lt (B := B) (k := k) h.2.1 h.1.1.2 h.2.2.2.2.2.1 h.2.2.2.2.2.2 (by omega)
    obtain ⟨τ2, k1, k2, k3⟩ := em_wrongs (k := k) h (by omega)
    unfold F_M_number_47 pPv pNu
    rw [k1, zt_bdS, em_isGood k2, zt_bdS, e, if_neg fl.2.2.2, if_neg fl.2.2.2, if_neg fl.2.2.2, zt_ckI (by decide), if_pos rfl]
    exact ⟨τ2, rfl, k2, k3⟩
  unfold F_M_number
  rw [em_isGood h, zt_bdS]
  by_cases h0 : s.1 = 0
  · rw [if_pos h0, zt_ckI (by decide), if_neg (by decide), t3, zt_ckI km.2.2.2.2]
    by_cases h3 : tK B N s.2.2 = 3
    · have tv := tN_tV (B := B) h.2.1 h3
      rw [if_pos (km.2.2.1.mpr h3), t4 h3, em_in (by unfold zt_in; omega) (by unfold zt_in; omega) (by unfold zt_in; omega), zt_bdS]
      by_cases hr : lo ≤ tV B N s.2.2 ∧ tV B N s.2.2 ≤ hi
      · have e : pPs B N lo hi s = s := by
          unfold pPs
          rw [if_pos h3, if_neg (by omega)]
        obtain ⟨τ2, k1, k2, k3⟩ := em_nx h
        unfold F_M_number_47 pPv pNu
        rw [if_pos hr, zt_ckI (by decide), if_neg (by decide), em_isGood h, zt_bdS, if_pos h0, zt_ckI (by decide), if_neg (by decide), k1, zt_bdS, e, if_pos h0, if_pos h0, t4 h3, show tV B N s.2.2 = tN B N s.2.2 by omega]
        exact ⟨τ2, rfl, k2, k3⟩
      · rw [if_neg hr, zt_ckI (by decide), if_pos rfl]
        refine bad 2 (Or.inr rfl) h0 ?_
        unfold pPs
        rw [if_pos h3, if_pos (by omega)]
    · rw [if_neg (fun z => h3 (km.2.2.1.mp z))]
      refine bad 1 (Or.inl rfl) h0 ?_
      unfold pPs
      rw [if_neg h3]
  · have e : pPs B N lo hi s = s := by
      unfold pPs pF
      rw [if_neg h0, if_neg h0]
      split
      · split <;> rfl
      · rfl
    unfold pPv pNu
    rw [if_neg h0, zt_ckI (by decide), if_pos rfl, e, if_neg h0, if_neg h0]
    exact ⟨τ, rfl, h, FT3.rf⟩
end PO
