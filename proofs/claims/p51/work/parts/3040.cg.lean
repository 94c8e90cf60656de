/-! TWO ROWS that are alike in their cells say the same -/
section CG
variable {w w' : Int → Int}
/-- alike but for the settings, what was told, points, what is lacked -/
def EX (w w' : Int → Int) : Prop := ∀ i, ((0 ≤ i ∧ i ≤ 2) ∨ (9 ≤ i ∧ i ≤ 13) ∨ (40 ≤ i ∧ i < 274)) → w' i = w i
/-- alike in the cells of a row -/
def EQ (w w' : Int → Int) : Prop := ∀ i, 0 ≤ i → i < 274 → w' i = w i
theorem EX.pl (e : EX w w') : wPl w' = wPl w := by
  unfold wPl
  rw [e 12 (by omega), e 13 (by omega), e 1 (by omega)]
theorem EX.s (e : EX w w') (c : Int) : wS w' c = wS w c := by
  unfold wS
  rw [e 0 (by omega)]
theorem EX.r (e : EX w w') (c : Int) : wR w' c = wR w c := by
  unfold wR
  rw [e 0 (by omega)]
theorem EX.cd (e : EX w w') (h : RI w) {k : Int} (h0 : 0 ≤ k) (h1 : k < 40) : wCd w' k = wCd w k := by
  have a := h.m13
  unfold wCd
  rw [e 13 (by omega), e 1 (by omega), e _ (by omega)]
theorem EX.ld (e : EX w w') (h : RI w) : wLd w' = wLd w := by
  unfold wLd
  rw [e.pl, e.cd h (by omega) (by omega), e.s]
theorem EX.ov (e : EX w w') : wOv w' = wOv w := by
  unfold wOv
  rw [e 12 (by omega), e 1 (by omega), e 2 (by omega)]
theorem EX.tn (e : EX w w') : wTn w' = wTn w := by
  unfold wTn
  rw [e.ov, e.pl, e 9 (by omega), e 1 (by omega)]
theorem EX.pw (e : EX w w') (c u : Int) : wPw w' c u = wPw w c u := by
  unfold wPw
  rw [e.s, e.r, e 10 (by omega), e 11 (by omega)]
theorem EX.pn (e : EX w w') (h : RI w) (c : Int) : wPn w' c = wPn w c := by
  unfold wPn
  rw [e.pl, e.pw, e.s, e.ld h]
theorem EX.bs (e : EX w w') (h : RI w) : ∀ (m : Nat) (b k : Int), b < 40 → 0 ≤ k → k + m ≤ 40 → -1 ≤ b → wBs w' b k m = wBs w b k m
  | 0, _, _, _, _, _, _ => rfl
  | m + 1, b, k, h1, h2, h3, h4 => by
    rw [wBs, wBs, e.pn h, e.pn h, e.cd h h2 (by omega)]
    by_cases hb : b = -1
    · rw [if_pos (Or.inl hb), if_pos (Or.inl hb), EX.bs e h m k (k + 1) (by omega) (by omega) (by omega) (by omega)]
    · rw [e.cd h (show 0 ≤ b by omega) h1]
      split
      · exact EX.bs e h m k (k + 1) (by omega) (by omega) (by omega) (by omega)
      · exact EX.bs e h m b (k + 1) (by omega) (by omega) (by omega) (by omega)
theorem EX.bp (e : EX w w') (h : RI w) : wBp w' = wBp w := by
  have a := h.n
  have b := h.wpl
  unfold wBp
  rw [e.pl, e.bs h _ _ _ (by omega) (by omega) (by omega) (by omega)]
theorem EX.bc (e : EX w w') (h : RI w) (hp : ¬ wPl w = 0) : wCd w' (wBp w') = wCd w (wBp w) := by
  have a := h.n
  have b := h.wpl
  have c := (wBp_lt h).2.2.1 (by omega)
  rw [e.bp h, e.cd h c.1 (by omega)]
theorem EX.hd (e : EX w w') {c : Int} (h0 : 0 ≤ c) (h1 : c < 52) : wHd w' c = wHd w c := e _ (by omega)
theorem EX.hc (e : EX w w') (p : Int) : wHc w' p = wHc w p := by
  unfold wHc
  exact cn_congr _ _ (fun c h0 h1 => by rw [e.hd h0 (by omega)])
theorem EX.tk (e : EX w w') (h : RI w) (p : Int) : wTk w' p = wTk w p := by
  have a := h.n
  have b := h.p13
  have c := h.pl
  unfold wTk
  rw [e 13 (by omega)]
  exact cn_congr _ _ (fun t h0 h1 => by rw [e _ (by omega)])
theorem EX.py (e : EX w w') (h : RI w) (c : Int) : wPy w' c = wPy w c := by
  have p12 := h.p12
  have a := h.pl
  unfold wPy
  rw [e 12 (by omega), cn_congr (P := fun k => decide (w' (92 + k) = c)) (Q := fun k => decide (w (92 + k) = c)) _ 0 (fun k h0 h1 => by rw [e _ (by omega)])]
theorem EX.tr {σ : zt_S} {k : Nat} (e : EX w w') (h : RI w) (t : TK σ k w) : TK σ k w' := by
  have a := h.n
  obtain ⟨⟨k0, k1, k2, k3⟩, ⟨k4, k5, k6⟩, k7, k8⟩ := t
  refine ⟨⟨?_, ?_, ?_, ?_⟩, ⟨?_, ?_, ?_⟩, ?_, ?_⟩
  · rw [e 9 (by omega)]; exact k0
  · rw [e 9 (by omega), e 1 (by omega), e.pl]; exact k1
  · rw [e.pl]; exact k2
  · rw [e.ld h]; exact k3
  · rw [k4, e.pl]
    by_cases z : wPl w = 0
    · rw [if_pos z, if_pos z]
    · rw [if_neg z, if_neg z, e.bc h z, e.pn h]
  · rw [k5, e.pl]
    by_cases z : wPl w = 0
    · rw [if_pos z, if_pos z]
    · rw [if_neg z, if_neg z, e.bc h z]
  · rw [k6, e.pl, e 9 (by omega), e 1 (by omega), e.bp h]
  · rw [e 10 (by omega)]; exact k7
  · rw [e 11 (by omega)]; exact k8
theorem EQ.x (e : EQ w w') : EX w w' := fun i h => e i (by omega) (by omega)
theorem EQ.lk (e : EQ w w') {p : Int} (hp : 0 ≤ p ∧ p < 4) : wLk w' p = wLk w p := lk_lo (fun i h0 h1 => e i (by omega) (by omega)) hp
theorem EQ.i (e : EQ w w') (h : RI w) : RI w' := by
  obtain ⟨a1, a2, a3, a4, a5, a6, a7, a8, a9, a10, a11⟩ := id h
  have c : w 12 ≤ 52 := h.p12
  have d := h.p13
  refine ⟨?_, ?_, ?_, ?_, ?_, ?_, ?_, ?_, ?_, ?_, ?_⟩
  · rw [e 0 (by omega) (by omega), e 1 (by omega) (by omega), e 2 (by omega) (by omega), e 3 (by omega) (by omega), e 4 (by omega) (by omega), e 5 (by omega) (by omega), e 6 (by omega) (by omega), e 7 (by omega) (by omega), e 8 (by omega) (by omega), e 9 (by omega) (by omega), e 10 (by omega) (by omega), e 11 (by omega) (by omega)]
    exact a1
  · rw [e 12 (by omega) (by omega), e 1 (by omega) (by omega), e 2 (by omega) (by omega), e 13 (by omega) (by omega)]
    exact a2
  · rw [e 14 (by omega) (by omega)]
    exact a3
  · intro p h0 h1
    rw [e _ (by omega) (by omega)]
    exact a4 p h0 h1
  · intro p h0 h1
    rw [e _ (by omega) (by omega)]
    exact a5 p h0 h1
  · intro p h0 h1
    rw [e _ (by omega) (by omega)]
    exact a6 p h0 h1
  · intro x h0 h1
    rw [e _ (by omega) (by omega), e 0 (by omega) (by omega), e 1 (by omega) (by omega)]
    exact a7 x h0 h1
  · intro k h0 h1
    rw [e 12 (by omega) (by omega)] at h1
    have b := a8 k h0 h1
    rw [e (92 + k) (by omega) (by omega), e (144 + k) (by omega) (by omega), e 0 (by omega) (by omega), e 1 (by omega) (by omega), e (40 + w (92 + k)) (by omega) (by omega)]
    exact b
  · intro j k h0 h1 h2
    rw [e 12 (by omega) (by omega)] at h2
    rw [e (92 + j) (by omega) (by omega), e (92 + k) (by omega) (by omega)]
    exact a9 j k h0 h1 h2
  · intro t h0 h1
    rw [e 13 (by omega) (by omega)] at h1
    rw [e (196 + 6 * t) (by omega) (by omega), e (196 + 6 * t + 1) (by omega) (by omega), e (196 + 6 * t + 2) (by omega) (by omega), e (196 + 6 * t + 3) (by omega) (by omega), e (196 + 6 * t + 4) (by omega) (by omega), e (196 + 6 * t + 5) (by omega) (by omega), e 0 (by omega) (by omega), e 1 (by omega) (by omega)]
    exact a10 t h0 h1
  · intro p h0 h1
    rw [e 1 (by omega) (by omega)] at h1
    rw [e.x.hc, e.x.pl, e 2 (by omega) (by omega), e 13 (by omega) (by omega), e 1 (by omega) (by omega), e 9 (by omega) (by omega)]
    exact a11 p h0 h1
theorem EQ.tb {σ : zt_S} {t : Nat} (e : EQ w w') (hw : RI w) (h : TB σ t w) : TB σ t w' := by
  have a := hw.n
  have p12 := hw.p12
  have p13 := hw.p13
  refine ⟨e.x.tr hw h.1, fun p x h0 h1 h2 h3 => ?_, fun p h0 h1 => ?_, fun k h0 h1 => ?_, fun k h0 h1 => ?_, fun c h0 h1 => ?_, ?_⟩
  · rw [h.2.1 p x h0 h1 h2 h3, e 0 (by omega) (by omega)]
    by_cases hx : x < 4 * w 0
    · rw [e.x.hd h2 (by omega)]
    · simp [hx]
  · have g := h.2.2.1 p h0 h1
    rw [e _ (by omega) (by omega), e.x.tk hw, e.lk ⟨h0, h1⟩, e _ (by omega) (by omega)]
    exact g
  · rw [e 12 (by omega) (by omega)] at h1
    have g := h.2.2.2.1 k h0 h1
    rw [e _ (by omega) (by omega), e _ (by omega) (by omega)]
    exact g
  · rw [e 13 (by omega) (by omega)] at h1
    rw [e _ (by omega) (by omega)]
    exact h.2.2.2.2.1 k h0 h1
  · rw [e.x.py hw]
    exact h.2.2.2.2.2.1 c h0 h1
  · rw [e 3 (by omega) (by omega), e 6 (by omega) (by omega), e 7 (by omega) (by omega), e 4 (by omega) (by omega), e 8 (by omega) (by omega), e 12 (by omega) (by omega), e 13 (by omega) (by omega), e 14 (by omega) (by omega)]
    exact h.2.2.2.2.2.2
theorem EQ.rb {n : Int} (e : EQ w w') (h : RB n w) : RB n w' :=
  ⟨by rw [e 14 (by omega) (by omega)]; exact h.1, fun p h0 h1 => by rw [e _ (by omega) (by omega)]; exact h.2 p h0 h1⟩
theorem RB.up {n m : Int} (h : RB n w) (hm : n ≤ m) : RB m w :=
  ⟨by have := h.1; omega, fun p h0 h1 => by have := h.2 p h0 h1; omega⟩
/-- settings change, what was told -/
theorem TB.ex {σ τ : zt_S} {t : Nat} (hw : RI w) (h : TB σ t w) (e : EX w w') (e1 : ∀ c j, t + 1 ≤ c → c ≤ t + 9 → c ≠ t + 3 → τ.1 c j = σ.1 c j) (e2 : ∀ c j, τ.2.1 c j = σ.2.1 c j) (e3 : ∀ p, 0 ≤ p → p < 4 → τ.1 (t + 3) p = w' (16 + p)) (e4 : ∀ i, 20 ≤ i → i < 40 → w' i = w i) (e5 : τ.1 t 11 = w' 3 ∧ τ.1 t 12 = w' 6 ∧ τ.1 t 13 = w' 7 ∧ τ.1 t 14 = w' 4 ∧ τ.1 t 15 = w' 8 ∧ τ.1 t 16 = w' 12 ∧ τ.1 t 17 = w' 13 ∧ τ.1 t 18 = w' 14) : TB τ t w' := by
  have a := hw.n
  have f1 : ∀ c, t + 1 ≤ c → c ≤ t + 9 → c ≠ t + 3 → τ.1 c = σ.1 c := fun c h1 h2 h3 => funext fun j => e1 c j h1 h2 h3
  refine ⟨?_, fun p x h0 h1 h2 h3 => ?_, fun p h0 h1 => ?_, fun k h0 h1 => ?_, fun k h0 h1 => ?_, fun c h0 h1 => ?_, e5⟩
  · have g := e.tr hw h.1
    unfold TK at g ⊢
    rw [f1 (t + 1) (by omega) (by omega) (by omega)]
    exact g
  · rw [e2, h.2.1 p x h0 h1 h2 h3, e 0 (by omega)]
    by_cases hx : x < 4 * w 0
    · rw [e.hd h2 (by omega)]
    · simp [hx]
  · have g := h.2.2.1 p h0 h1
    rw [f1 (t + 4) (by omega) (by omega) (by omega), f1 (t + 5) (by omega) (by omega) (by omega), f1 (t + 6) (by omega) (by omega) (by omega), e.tk hw, lk_lo (fun i i0 i1 => e4 i (by omega) (by omega)) ⟨h0, h1⟩, e4 (20 + p) (by omega) (by omega)]
    exact ⟨e3 p h0 h1, g.2⟩
  · rw [e 12 (by omega)] at h1
    have p12 := hw.p12
    rw [f1 (t + 7) (by omega) (by omega) (by omega), f1 (t + 8) (by omega) (by omega) (by omega), e _ (by omega), e _ (by omega)]
    exact h.2.2.2.1 k h0 h1
  · rw [e 13 (by omega)] at h1
    have p13 := hw.p13
    rw [f1 (t + 9) (by omega) (by omega) (by omega), e _ (by omega)]
    exact h.2.2.2.2.1 k h0 h1
  · rw [e2, e.py hw]
    exact h.2.2.2.2.2.1 c h0 h1
theorem RI.ex (h : RI w) (e : EX w w') (b : (0 ≤ w' 3 ∧ w' 3 ≤ 3) ∧ (-1 ≤ w' 4 ∧ w' 4 ≤ 3) ∧ (0 ≤ w' 5 ∧ w' 5 ≤ 30) ∧ (0 ≤ w' 6 ∧ w' 6 ≤ 9) ∧ (0 ≤ w' 7 ∧ w' 7 ≤ 1) ∧ (0 ≤ w' 8 ∧ w' 8 < w 1)) (b14 : 0 ≤ w' 14 ∧ w' 14 ≤ 1000000) (b16 : ∀ p, 0 ≤ p → p < 4 → -1 ≤ w' (16 + p) ∧ w' (16 + p) ≤ 13) (b20 : ∀ p, 0 ≤ p → p < 4 → -1000000000 ≤ w' (20 + p) ∧ w' (20 + p) ≤ 1000000000) (b24 : ∀ k, 0 ≤ k → k < 16 → 0 ≤ w' (24 + k) ∧ w' (24 + k) ≤ 1) : RI w' := by
  obtain ⟨a1, a2, a3, a4, a5, a6, a7, a8, a9, a10, a11⟩ := id h
  have c : w 12 ≤ 52 := h.p12
  have d := h.p13
  refine ⟨?_, ?_, b14, b16, b20, b24, ?_, ?_, ?_, ?_, ?_⟩
  · rw [e 0 (by omega), e 1 (by omega), e 2 (by omega), e 9 (by omega), e 10 (by omega), e 11 (by omega)]
    exact ⟨a1.1, a1.2.1, a1.2.2.1, a1.2.2.2.1, b.1, b.2.1, b.2.2.1, b.2.2.2.1, b.2.2.2.2.1, b.2.2.2.2.2, a1.2.2.2.2.2.2.2.2.2.2⟩
  · rw [e 12 (by omega), e 1 (by omega), e 2 (by omega), e 13 (by omega)]
    exact a2
  · intro x h0 h1
    rw [e _ (by omega), e 0 (by omega), e 1 (by omega)]
    exact a7 x h0 h1
  · intro k h0 h1
    rw [e 12 (by omega)] at h1
    have g := a8 k h0 h1
    rw [e (92 + k) (by omega), e (144 + k) (by omega), e 0 (by omega), e 1 (by omega), e (40 + w (92 + k)) (by omega)]
    exact g
  · intro j k h0 h1 h2
    rw [e 12 (by omega)] at h2
    rw [e (92 + j) (by omega), e (92 + k) (by omega)]
    exact a9 j k h0 h1 h2
  · intro t h0 h1
    rw [e 13 (by omega)] at h1
    rw [e (196 + 6 * t) (by omega), e (196 + 6 * t + 1) (by omega), e (196 + 6 * t + 2) (by omega), e (196 + 6 * t + 3) (by omega), e (196 + 6 * t + 4) (by omega), e (196 + 6 * t + 5) (by omega), e 0 (by omega), e 1 (by omega)]
    exact a10 t h0 h1
  · intro p h0 h1
    rw [e 1 (by omega)] at h1
    rw [e.hc, e.pl, e 2 (by omega), e 13 (by omega), e 1 (by omega), e 9 (by omega)]
    exact a11 p h0 h1
end CG
