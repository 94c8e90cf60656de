/-! A ROW stays a row behind a card -/
theorem md_lt {m a b : Int} (hm : 2 ≤ m ∧ m ≤ 4) (ha : 0 ≤ a ∧ a < m) (hb : 0 ≤ b ∧ b < m) : 0 ≤ (a + b) % m ∧ (a + b) % m < m ∧ ∀ q, 0 ≤ q → q < m → ((q + m - a) % m = b ↔ q = (a + b) % m) ∧ 0 ≤ (q + m - a) % m ∧ (q + m - a) % m < m := by
  have : m = 2 ∨ m = 3 ∨ m = 4 := by omega
  rcases this with rfl | rfl | rfl
  · refine ⟨by omega, by omega, fun q h0 h1 => ⟨⟨fun z => by omega, fun z => by omega⟩, by omega, by omega⟩⟩
  · refine ⟨by omega, by omega, fun q h0 h1 => ⟨⟨fun z => by omega, fun z => by omega⟩, by omega, by omega⟩⟩
  · refine ⟨by omega, by omega, fun q h0 h1 => ⟨⟨fun z => by omega, fun z => by omega⟩, by omega, by omega⟩⟩
section RP
variable {w : Int → Int} {c : Int}
theorem rFade_o {s i : Int} (h : i ≠ 10 ∧ i ≠ 11) : rFade w s i = w i := by
  unfold rFade
  split
  · rw [ru_o h.2]
  · rw [ru_o h.2, ru_o h.1, ru_o h.2]
theorem rFade_lt {s : Int} (h : (0 ≤ w 5 ∧ w 5 ≤ 30) ∧ (0 ≤ w 6) ∧ (-1 ≤ w 10 ∧ w 10 ≤ 3) ∧ (0 ≤ w 11 ∧ w 11 ≤ 30)) (hs : -1 ≤ s ∧ s ≤ 3) : (-1 ≤ rFade w s 10 ∧ rFade w s 10 ≤ 3) ∧ (0 ≤ rFade w s 11 ∧ rFade w s 11 ≤ 30) := by
  unfold rFade
  split
  · rw [ru_o (by omega), ru_s]
    split <;> omega
  · rw [ru_o (by omega), ru_s, ru_s]
    constructor <;> split <;> omega
theorem rTrick_o {i : Int} (h : i ≠ 9 ∧ i ≠ 13) (h2 : i < 196 + 6 * w 13 ∨ 196 + 6 * w 13 + 5 < i) : rTrick w i = w i := by
  unfold rTrick
  simp (disch := omega) only [ru_o]
theorem rTrick_9 : rTrick w 9 = (w 9 + wBp w) % w 1 := by unfold rTrick; rw [ru_s]
theorem rTrick_13 : rTrick w 13 = w 13 + 1 := by unfold rTrick; rw [ru_o (by omega), ru_s]
theorem rTrick_c (h : 0 ≤ w 13) : rTrick w (196 + 6 * w 13) = w 9 ∧ rTrick w (196 + 6 * w 13 + 1) = (w 9 + wBp w) % w 1 ∧ rTrick w (196 + 6 * w 13 + 2) = wCd w (wBp w) ∧ rTrick w (196 + 6 * w 13 + 3) = wLd w ∧ rTrick w (196 + 6 * w 13 + 4) = w 10 ∧ rTrick w (196 + 6 * w 13 + 5) = w 11 := by
  unfold rTrick
  refine ⟨?_, ?_, ?_, ?_, ?_, ?_⟩
  · simp (disch := omega) only [ru_o, ru_s]
  · simp (disch := omega) only [ru_o, ru_s]
  · simp (disch := omega) only [ru_o, ru_s]
  · simp (disch := omega) only [ru_o, ru_s]
  · simp (disch := omega) only [ru_o, ru_s]
  · simp (disch := omega) only [ru_o, ru_s]
theorem rEnd_o {i : Int} (h : i ≠ 9 ∧ i ≠ 13 ∧ i ≠ 10 ∧ i ≠ 11) (h2 : i < 196 + 6 * w 13 ∨ 196 + 6 * w 13 + 5 < i) : rEnd w i = w i := by
  unfold rEnd
  rw [rFade_o ⟨h.2.2.1, h.2.2.2⟩, rTrick_o ⟨h.1, h.2.1⟩ h2]
/-- the cells of the row that a card alone changes -/
theorem rCard_o {p i : Int} (h : i ≠ 40 + c ∧ i ≠ 92 + w 12 ∧ i ≠ 144 + w 12 ∧ i ≠ 12) : rCard w c p i = w i := by
  unfold rCard
  simp (disch := omega) only [ru_o]
theorem rCard_c {p : Int} (h : 0 ≤ c ∧ c < 52) (h2 : 0 ≤ w 12 ∧ w 12 < 52) : rCard w c p (40 + c) = -1 ∧ rCard w c p (92 + w 12) = c ∧ rCard w c p (144 + w 12) = p ∧ rCard w c p 12 = w 12 + 1 := by
  unfold rCard
  refine ⟨?_, ?_, ?_, ?_⟩
  · simp (disch := omega) only [ru_o, ru_s]
  · simp (disch := omega) only [ru_o, ru_s]
  · simp (disch := omega) only [ru_o, ru_s]
  · rw [ru_s]
theorem rCard_hc (h : RI w) {p q : Int} (hc : 0 ≤ c ∧ c < 4 * w 0) (hp : wHd w c = p) (h2 : 0 ≤ w 12 ∧ w 12 < 52) (hq : 0 ≤ q) : wHc (rCard w c p) q = wHc w q - (if q = p then 1 else 0) := by
  have a := h.n
  have e := rCard_c (w := w) (c := c) (p := p) ⟨hc.1, by omega⟩ h2
  unfold wHc
  rw [cn_upd (P := fun c => decide (wHd w c = q)) (Q := fun x => decide (wHd (rCard w c p) x = q)) (j := c) 52 0 hc.1 (by omega) (fun x h0 h1 h3 => by
    show decide (wHd w x = q) = decide (rCard w c p (40 + x) = q)
    rw [rCard_o ⟨by omega, by omega, by omega, by omega⟩]
    rfl)]
  have e2 : wHd (rCard w c p) c = -1 := e.1
  rw [e2, hp]
  have e3 : decide ((-1 : Int) = q) = false := decide_eq_false (by omega)
  rw [e3]
  by_cases hqp : q = p
  · subst hqp; simp
  · rw [if_neg hqp, decide_eq_false (Ne.symm hqp)]; simp
/-- a row with one card more, the trick not complete -/
theorem RI_card (h : RI w) (ho : wOv w = false) (hc : 0 ≤ c ∧ c < 4 * w 0) (hp : wHd w c = wTn w) (hf : ¬ wPl w + 1 = w 1) : RI (rCard w c (wTn w)) := by
  have a := h.n
  have b := h.wpl
  have pl := h.pl
  have o := wOv_lt h ho
  have m := h.m13
  have t := wTn_lt h
  have t2 := t.2.2 ho
  have n := rCard_nx (p := wTn w) h ho hc
  have cc := rCard_c (w := w) (c := c) (p := wTn w) ⟨hc.1, by omega⟩ ⟨by omega, by omega⟩
  have e : ∀ i, i ≠ 40 + c → i ≠ 92 + w 12 → i ≠ 144 + w 12 → i ≠ 12 → rCard w c (wTn w) i = w i := fun i h1 h2 h3 h4 => rCard_o ⟨h1, h2, h3, h4⟩
  obtain ⟨a1, a2, a3, a4, a5, a6, a7, a8, a9, a10, a11⟩ := id h
  have hm := md_lt (m := w 1) (a := w 9) (b := wPl w) a.2.1 ⟨by omega, by omega⟩ b
  have tn : wTn w = (w 9 + wPl w) % w 1 := by unfold wTn; rw [ho]; rfl
  refine ⟨?_, ?_, ?_, ?_, ?_, ?_, ?_, ?_, ?_, ?_, ?_⟩
  · rw [e 0 (by omega) (by omega) (by omega) (by omega), e 1 (by omega) (by omega) (by omega) (by omega), e 2 (by omega) (by omega) (by omega) (by omega), e 3 (by omega) (by omega) (by omega) (by omega), e 4 (by omega) (by omega) (by omega) (by omega), e 5 (by omega) (by omega) (by omega) (by omega), e 6 (by omega) (by omega) (by omega) (by omega), e 7 (by omega) (by omega) (by omega) (by omega), e 8 (by omega) (by omega) (by omega) (by omega), e 9 (by omega) (by omega) (by omega) (by omega), e 10 (by omega) (by omega) (by omega) (by omega), e 11 (by omega) (by omega) (by omega) (by omega)]
    exact a1
  · rw [cc.2.2.2, e 1 (by omega) (by omega) (by omega) (by omega), e 2 (by omega) (by omega) (by omega) (by omega), e 13 (by omega) (by omega) (by omega) (by omega)]
    unfold wPl at hf b
    omega
  · rw [e 14 (by omega) (by omega) (by omega) (by omega)]
    exact a3
  · intro p h0 h1
    rw [e _ (by omega) (by omega) (by omega) (by omega)]
    exact a4 p h0 h1
  · intro p h0 h1
    rw [e _ (by omega) (by omega) (by omega) (by omega)]
    exact a5 p h0 h1
  · intro k h0 h1
    rw [e _ (by omega) (by omega) (by omega) (by omega)]
    exact a6 k h0 h1
  · intro x h0 h1
    rw [e 0 (by omega) (by omega) (by omega) (by omega), e 1 (by omega) (by omega) (by omega) (by omega)]
    by_cases hx : x = c
    · rw [hx, cc.1]; omega
    · rw [e _ (by omega) (by omega) (by omega) (by omega)]
      exact a7 x h0 h1
  · intro k h0 h1
    rw [cc.2.2.2] at h1
    rw [e 0 (by omega) (by omega) (by omega) (by omega), e 1 (by omega) (by omega) (by omega) (by omega)]
    by_cases hk : k = w 12
    · rw [hk, cc.2.1, cc.2.2.1, cc.1]; omega
    · have g := a8 k h0 (by omega)
      rw [e (92 + k) (by omega) (by omega) (by omega) (by omega), e (144 + k) (by omega) (by omega) (by omega) (by omega)]
      refine ⟨g.1, g.2.1, ?_, g.2.2.2⟩
      by_cases hx : w (92 + k) = c
      · rw [hx, cc.1]
      · rw [e _ (by omega) (by omega) (by omega) (by omega)]
        exact g.2.2.1
  · intro j k h0 h1 h2
    rw [cc.2.2.2] at h2
    rw [e (92 + j) (by omega) (by omega) (by omega) (by omega)]
    by_cases hk : k = w 12
    · rw [hk, cc.2.1]
      intro z
      have g := a8 j h0 (by omega)
      rw [z] at g
      unfold wHd at hp
      omega
    · rw [e (92 + k) (by omega) (by omega) (by omega) (by omega)]
      exact a9 j k h0 h1 (by omega)
  · intro t h0 h1
    rw [e 13 (by omega) (by omega) (by omega) (by omega)] at h1
    have g := a10 t h0 h1
    rw [e (196 + 6 * t) (by omega) (by omega) (by omega) (by omega), e (196 + 6 * t + 1) (by omega) (by omega) (by omega) (by omega), e (196 + 6 * t + 2) (by omega) (by omega) (by omega) (by omega), e (196 + 6 * t + 3) (by omega) (by omega) (by omega) (by omega), e (196 + 6 * t + 4) (by omega) (by omega) (by omega) (by omega), e (196 + 6 * t + 5) (by omega) (by omega) (by omega) (by omega), e 0 (by omega) (by omega) (by omega) (by omega), e 1 (by omega) (by omega) (by omega) (by omega)]
    exact g
  · intro q h0 h1
    rw [e 1 (by omega) (by omega) (by omega) (by omega)] at h1
    rw [rCard_hc h hc hp ⟨by omega, by omega⟩ h0, n.pl, e 1 (by omega) (by omega) (by omega) (by omega), e 2 (by omega) (by omega) (by omega) (by omega), e 13 (by omega) (by omega) (by omega) (by omega), e 9 (by omega) (by omega) (by omega) (by omega), a11 q h0 h1]
    have g := (hm.2.2 q h0 h1).1
    rw [← tn] at g
    have g2 := (hm.2.2 q h0 h1).2
    by_cases hq : q = wTn w
    · have g1 := g.mpr hq
      rw [if_pos hq, if_neg (by omega), if_pos (by omega)]
      omega
    · have g1 : ¬ (q + w 1 - w 9) % w 1 = wPl w := fun z => hq (g.mp z)
      rw [if_neg hq]
      by_cases hz : (q + w 1 - w 9) % w 1 < wPl w
      · rw [if_pos hz, if_pos (by omega)]; omega
      · rw [if_neg hz, if_neg (by omega)]; omega
end RP
