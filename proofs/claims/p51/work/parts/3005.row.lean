/-! A CARD MORE in the present trick: what it does to the words of a row -/
/-- w' is w with one card more in the trick -/
def Nx (w w' : Int → Int) (c : Int) : Prop := w' 0 = w 0 ∧ w' 1 = w 1 ∧ w' 9 = w 9 ∧ w' 10 = w 10 ∧ w' 11 = w 11 ∧ w' 12 = w 12 + 1 ∧ w' 13 = w 13 ∧ (∀ k, 0 ≤ k → k < wPl w → wCd w' k = wCd w k) ∧ wCd w' (wPl w) = c
theorem wBs_r {w : Int → Int} : ∀ (m : Nat) (b k : Int), wBs w b k (m + 1) = if wBs w b k m = -1 ∨ wPn w (wCd w (wBs w b k m)) < wPn w (wCd w (k + m)) then k + m else wBs w b k m
  | 0, b, k => by
    rw [wBs, wBs, wBs]
    simp
  | m + 1, b, k => by
    rw [wBs, wBs_r m, wBs]
    rw [show k + 1 + (m : Int) = k + ((m + 1 : Nat) : Int) by omega]
theorem wBs_max {w : Int → Int} : ∀ (m : Nat) (j : Int), 0 ≤ j → j < m → wPn w (wCd w j) ≤ wPn w (wCd w (wBs w (-1) 0 m))
  | 0, j, h0, h1 => by omega
  | m + 1, j, h0, h1 => by
    have l := wBs_lt (w := w) m (-1) 0 (by omega) (by omega) (by omega)
    rw [wBs_r]
    rw [Int.zero_add]
    by_cases hj : j = (m : Int)
    · subst hj
      split
      · exact Int.le_refl _
      · omega
    · have ih := wBs_max (w := w) m j h0 (by omega)
      split
      · rename_i z
        rcases z with z | z
        · have := l.2.2 (by omega); omega
        · omega
      · exact ih
theorem wBp_max {w : Int → Int} {j : Int} (h0 : 0 ≤ j) (h1 : j < wPl w) : wPn w (wCd w j) ≤ wPn w (wCd w (wBp w)) := wBs_max (wPl w).toNat j h0 (by omega)
section NX
variable {w w' : Int → Int} {c : Int}
theorem Nx.pl (h : Nx w w' c) : wPl w' = wPl w + 1 := by
  obtain ⟨h0, h1, h9, h10, h11, h12, h13, hk, hc⟩ := h
  unfold wPl
  rw [h12, h13, h1]
  omega
theorem Nx.s (h : Nx w w' c) (x : Int) : wS w' x = wS w x := by unfold wS; rw [h.1]
theorem Nx.r (h : Nx w w' c) (x : Int) : wR w' x = wR w x := by unfold wR; rw [h.1]
theorem Nx.pw (h : Nx w w' c) (x u : Int) : wPw w' x u = wPw w x u := by
  unfold wPw
  rw [h.s, h.r, h.2.2.2.1, h.2.2.2.2.1]
theorem Nx.ld (h : Nx w w' c) (hp : 0 ≤ wPl w) : wLd w' = if wPl w = 0 then wS w c else wLd w := by
  have a := h.pl
  unfold wLd
  rw [if_neg (by omega), h.s]
  by_cases h0 : wPl w = 0
  · rw [if_pos h0, ← h.2.2.2.2.2.2.2.2, h0]
  · rw [if_neg h0, if_neg h0, h.2.2.2.2.2.2.2.1 0 (by omega) (by omega)]
theorem Nx.pn (h : Nx w w' c) (hp : 0 ≤ wPl w) (x : Int) : wPn w' x = if wPl w = 0 then wPw w x (wS w c) else wPn w x := by
  have a := h.pl
  unfold wPn
  rw [if_neg (by omega), h.pw, h.ld hp]
  by_cases h0 : wPl w = 0
  · rw [if_pos h0, if_pos h0]
  · rw [if_neg h0, if_neg h0, if_neg h0]
theorem Nx.pnc (h : Nx w w' c) (hp : 0 ≤ wPl w) : wPn w' c = wPn w c := by
  rw [h.pn hp]
  by_cases h0 : wPl w = 0
  · rw [if_pos h0]
    unfold wPn
    rw [if_pos h0]
  · rw [if_neg h0]
theorem Nx.bs (h : Nx w w' c) (hp : 0 < wPl w) : ∀ (m : Nat), (m : Int) ≤ wPl w → wBs w' (-1) 0 m = wBs w (-1) 0 m
  | 0, _ => rfl
  | m + 1, hm => by
    have l := wBs_lt (w := w) m (-1) 0 (by omega) (by omega) (by omega)
    have hz : ¬ wPl w = 0 := by omega
    have hpn : ∀ x, wPn w' x = wPn w x := fun x => by rw [h.pn (by omega), if_neg hz]
    rw [wBs_r, wBs_r, Nx.bs h hp m (by omega), hpn, hpn, Int.zero_add, h.2.2.2.2.2.2.2.1 (m : Int) (by omega) (by omega)]
    by_cases h0 : wBs w (-1) 0 m = -1
    · rw [if_pos (Or.inl h0), if_pos (Or.inl h0)]
    · rw [h.2.2.2.2.2.2.2.1 (wBs w (-1) 0 m) (by omega) (by omega)]
theorem Nx.bp (h : Nx w w' c) (hp : 0 ≤ wPl w) : wBp w' = if wBt w c = true then wPl w else wBp w := by
  have a := h.pl
  unfold wBt
  by_cases h0 : wPl w = 0
  · unfold wBp
    rw [a, h0]
    rfl
  · have e : (wPl w').toNat = (wPl w).toNat + 1 := by omega
    have l := wBs_lt (w := w) (wPl w).toNat (-1) 0 (by omega) (by omega) (by omega)
    have l2 := l.2.2 (by omega)
    have e2 : (0 : Int) + ((wPl w).toNat : Int) = wPl w := by omega
    unfold wBp
    rw [e, wBs_r, h.bs (by omega) _ (by omega), e2, h.2.2.2.2.2.2.2.2, h.pn hp, h.pn hp, if_neg h0, if_neg h0, h.2.2.2.2.2.2.2.1 _ l2 (by omega)]
    have l3 : ¬ wBs w (-1) 0 (wPl w).toNat = -1 := by omega
    simp only [l3, false_or, h0, decide_eq_true_eq]
theorem Nx.bc (h : Nx w w' c) (hw : RI w) : wCd w' (wBp w') = if wBt w c = true then c else wCd w (wBp w) := by
  have a := hw.wpl
  rw [h.bp a.1]
  by_cases hb : wBt w c = true
  · rw [if_pos hb, if_pos hb, h.2.2.2.2.2.2.2.2]
  · rw [if_neg hb, if_neg hb]
    have h0 : ¬ wPl w = 0 := fun z => hb (by unfold wBt; simp [z])
    have b := (wBp_lt hw).2.2.1 (by omega)
    exact h.2.2.2.2.2.2.2.1 _ b.1 b.2
theorem Nx.pb (h : Nx w w' c) (hw : RI w) : wPn w' (wCd w' (wBp w')) = if wBt w c = true then wPn w c else wPn w (wCd w (wBp w)) := by
  have a := hw.wpl
  rw [h.bc hw]
  by_cases hb : wBt w c = true
  · rw [if_pos hb, if_pos hb, h.pnc a.1]
  · rw [if_neg hb, if_neg hb]
    have h0 : ¬ wPl w = 0 := fun z => hb (by unfold wBt; simp [z])
    rw [h.pn a.1, if_neg h0]
end NX
