/-! WHAT IS REACHED FROM A ROW -/
section RE
variable {w w' w0 : Int → Int} {q : Int}
theorem bo_skip {own : Bool} {lg : Int → Bool} {f : Int → Int} : ∀ (k m : Nat) (a : Int × Int) (c : Int), (∀ x, c ≤ x → x < c + k → ¬ lg x = true) → bo own lg f (k + m) a c = bo own lg f m a (c + k)
  | 0, m, a, c, _ => by rw [Nat.zero_add, show c + ((0 : Nat) : Int) = c by omega]
  | k + 1, m, a, c, h => by
    rw [show k + 1 + m = (k + m) + 1 by omega, bo, if_neg (h c (by omega) (by omega)), bo_skip k m a (c + 1) (fun x x0 x1 => h x (by omega) (by omega)), show c + 1 + (k : Int) = c + ((k + 1 : Nat) : Int) by omega]
theorem bo_stop {own : Bool} {lg : Int → Bool} {f : Int → Int} : ∀ (m : Nat) (a : Int × Int) (c : Int), ¬ a.1 = -1 → (∀ x, c ≤ x → x < c + m → lg x = true → ¬ (own = true ∧ a.1 < f x) ∧ ¬ (¬ own = true ∧ f x < a.1)) → bo own lg f m a c = a
  | 0, _, _, _, _ => rfl
  | m + 1, a, c, h, g => by
    have ih := bo_stop (own := own) (lg := lg) (f := f) m a (c + 1) h (fun x x0 x1 => g x (by omega) (by omega))
    rw [bo]
    by_cases l : lg c = true
    · have := g c (by omega) (by omega) l
      rw [if_pos l, if_neg (fun z => by
        rcases z with z | z | z
        · exact h z
        · exact this.1 z
        · exact this.2 z), ih]
    · rw [if_neg l, ih]
theorem bo_in {own : Bool} {lg : Int → Bool} {f : Int → Int} {G : Int} : ∀ (m : Nat) (a : Int × Int) (c : Int), (a.1 = -1 ∨ (0 ≤ a.1 ∧ a.1 ≤ G)) → (∀ x, c ≤ x → x < c + m → lg x = true → 0 ≤ f x ∧ f x ≤ G) → ((bo own lg f m a c).1 = -1 ∨ (0 ≤ (bo own lg f m a c).1 ∧ (bo own lg f m a c).1 ≤ G)) ∧ ((¬ a.1 = -1 ∨ ∃ x, c ≤ x ∧ x < c + m ∧ lg x = true) → ¬ (bo own lg f m a c).1 = -1)
  | 0, a, c, h, _ => ⟨h, fun z => by
    rcases z with z | ⟨x, x0, x1, _⟩
    · exact z
    · omega⟩
  | m + 1, a, c, h, g => by
    rw [bo]
    by_cases l : lg c = true
    · have gc := g c (by omega) (by omega) l
      rw [if_pos l]
      split
      · have ih := bo_in (own := own) (lg := lg) (f := f) (G := G) m (f c, c) (c + 1) (Or.inr gc) (fun x x0 x1 => g x (by omega) (by omega))
        exact ⟨ih.1, fun _ => ih.2 (Or.inl (by show ¬ f c = -1; omega))⟩
      · rename_i hn
        have ih := bo_in (own := own) (lg := lg) (f := f) (G := G) m a (c + 1) h (fun x x0 x1 => g x (by omega) (by omega))
        exact ⟨ih.1, fun _ => ih.2 (Or.inl (fun z => hn (Or.inl z)))⟩
    · rw [if_neg l]
      have ih := bo_in (own := own) (lg := lg) (f := f) (G := G) m a (c + 1) h (fun x x0 x1 => g x (by omega) (by omega))
      refine ⟨ih.1, fun z => ih.2 ?_⟩
      rcases z with z | ⟨x, x0, x1, x2⟩
      · exact Or.inl z
      · refine Or.inr ⟨x, ?_, by omega, x2⟩
        rcases Int.lt_or_le c x with y | y
        · omega
        · exact absurd (show x = c by omega) (fun z => l (z ▸ x2))
theorem gn_in {c : Int} : 0 ≤ gn q w c ∧ gn q w c ≤ 1 ∧ (¬ wPl w + 1 = w 1 → gn q w c = 0) := by
  unfold gn
  by_cases h : wPl w + 1 = w 1 ∧ rPlays w c 9 = q
  · rw [if_pos h]; exact ⟨by omega, by omega, fun z => absurd h.1 z⟩
  · rw [if_neg h]; exact ⟨by omega, by omega, fun _ => rfl⟩
theorem VN_in (q : Int) : ∀ (n : Nat) (w : Int → Int), RI w → 0 ≤ VN q n w ∧ VN q n w ≤ w 2 - w 13
  | 0, w, h => by
    have := h.p13
    rw [VN]
    omega
  | n + 1, w, h => by
    have p := h.p13
    rw [VN]
    by_cases ho : wOv w = true
    · rw [if_pos ho]; omega
    · rw [if_neg ho]
      have ho' : wOv w = false := Bool.eq_false_iff.mpr ho
      obtain ⟨x, x0, x1, x2⟩ := has_legal h ho'
      have n0 := h.n
      have b := bo_in (own := decide (wTn w = q)) (lg := wLg w) (f := fun c => gn q w c + VN q n (rPlays w c)) (G := w 2 - w 13) 52 (-1, -1) 0 (Or.inl rfl) (fun c c0 c1 hc => by
        have r := lg_rg h ⟨c0, by omega⟩ hc
        have ih := VN_in q n _ (RI_plays h r.1 r.2.1 r.2.2)
        have e2 := rPlays_s (c := c) h r.1 r.2.1 (i := 2) (by omega)
        have g := gn_in (q := q) (w := w) (c := c)
        show 0 ≤ gn q w c + VN q n (rPlays w c) ∧ gn q w c + VN q n (rPlays w c) ≤ w 2 - w 13
        rcases rPlays_t (c := c) h r.1 r.2.1 with t | t
        · rw [t.2.1, e2] at ih; omega
        · have := g.2.2 t.1
          rw [t.2.1, e2] at ih; omega)
      have := b.2 (Or.inr ⟨x, x0, by omega, x2⟩)
      omega
theorem VV_in (h : RI w) : 0 ≤ VV q w ∧ VV q w ≤ w 2 - w 13 := VN_in q _ w h
/-- the glow behind a trick -/
def glw (w : Int → Int) (g : Int) : Int := if g = 0 ∨ 0 < g - w 6 then (if 0 < g - w 6 then g - w 6 else 0) else if w 7 = 1 then w 5 else 0
def glk (w : Int → Int) (g : Int) : Nat → Int
  | 0 => g
  | k + 1 => glw w (glk w g k)
theorem rFade_11 {s : Int} (h : 0 ≤ w 6) : rFade w s 11 = glw w (w 11) := by
  unfold rFade glw
  by_cases z : w 11 = 0 ∨ 0 < w 11 - w 6
  · rw [if_pos z, if_pos z, ru_s]
  · rw [if_neg z, if_neg z, ru_s]
/-- how many are held -/
def nh (w : Int → Int) : Int := cn (fun c => decide (¬ wHd w c = -1)) 0 52
theorem py_more {c : Int} (hw : RI w) (ho : wOv w = false) (hc : 0 ≤ c ∧ c < 4 * w 0) (hp : wHd w c = wTn w) : rPlays w c 12 = w 12 + 1 ∧ (∀ d, 0 ≤ d → d < 52 → wHd (rPlays w c) d = if d = c then -1 else wHd w d) ∧ (¬ wPl w + 1 = w 1 → rPlays w c 11 = w 11 ∧ rPlays w c 9 = w 9 ∧ rPlays w c 10 = w 10) ∧ (wPl w + 1 = w 1 → rPlays w c 11 = glw w (w 11)) := by
  have a := hw.n
  have ag := rLack_ag (c := c) hw ho
  have ri := rLack_i (c := c) hw ho
  have o := wOv_lt hw ho
  have pl := hw.pl
  have r12 : rLack w c 12 = w 12 := ag 12 (by omega)
  have ue : ∀ i, i < 24 → i ≠ 12 → rCard (rLack w c) c (wTn w) i = w i := fun i h1 h4 => by rw [rCard_o ⟨by omega, by rw [r12]; omega, by rw [r12]; omega, h4⟩, ag i (by omega)]
  have u12 : rCard (rLack w c) c (wTn w) 12 = w 12 + 1 := by unfold rCard; rw [ru_s, r12]
  have uh : ∀ d, 0 ≤ d → d < 52 → rCard (rLack w c) c (wTn w) (40 + d) = if d = c then -1 else wHd w d := fun d d0 d1 => by
    by_cases z : d = c
    · rw [if_pos z, z]
      exact (rCard_c (w := rLack w c) (c := c) (p := wTn w) ⟨hc.1, by omega⟩ (by rw [r12]; omega)).1
    · rw [if_neg z, rCard_o ⟨by omega, by rw [r12]; omega, by rw [r12]; omega, by omega⟩, ag _ (by omega)]
      rfl
  generalize hu : rCard (rLack w c) c (wTn w) = u at *
  have u13 : u 13 = w 13 := ue 13 (by omega) (by omega)
  have tr : ∀ i, i ≠ 9 → i ≠ 13 → i < 196 → rTrick u i = u i := fun i h1 h2 h3 => rTrick_o ⟨h1, h2⟩ (by omega)
  have ve : ∀ i, i ≠ 9 → i ≠ 13 → i ≠ 10 → i ≠ 11 → i < 196 → rEnd u i = u i := fun i h1 h2 h3 h4 h5 => rEnd_o ⟨h1, h2, h3, h4⟩ (Or.inl (by omega))
  unfold rPlays
  rw [hu]
  by_cases full : wPl w + 1 = w 1
  · rw [if_pos full]
    refine ⟨by rw [ve 12 (by omega) (by omega) (by omega) (by omega) (by omega), u12], fun d d0 d1 => ?_, fun z => absurd full z, fun _ => ?_⟩
    · show rEnd u (40 + d) = _
      rw [ve _ (by omega) (by omega) (by omega) (by omega) (by omega), uh d d0 d1]
    · unfold rEnd
      rw [rFade_11 (by rw [tr 6 (by omega) (by omega) (by omega), ue 6 (by omega) (by omega)]; omega)]
      unfold glw
      rw [tr 5 (by omega) (by omega) (by omega), tr 6 (by omega) (by omega) (by omega), tr 7 (by omega) (by omega) (by omega), tr 11 (by omega) (by omega) (by omega), ue 5 (by omega) (by omega), ue 6 (by omega) (by omega), ue 7 (by omega) (by omega), ue 11 (by omega) (by omega)]
  · rw [if_neg full]
    exact ⟨u12, uh, fun _ => ⟨ue 11 (by omega) (by omega), ue 9 (by omega) (by omega), ue 10 (by omega) (by omega)⟩, fun z => absurd z full⟩
def RM (w0 w : Int → Int) : Prop := RI w ∧ (∀ i, 0 ≤ i → i ≤ 8 → w i = w0 i) ∧ (∀ c, 0 ≤ c → c < 52 → wHd w c = wHd w0 c ∨ wHd w c = -1) ∧ w 12 + nh w = w0 12 + nh w0 ∧ w0 13 ≤ w 13 ∧ w0 12 ≤ w 12 ∧ w 11 = glk w0 (w0 11) (w 13 - w0 13).toNat
theorem RM.rf (h0 : RI w0) : RM w0 w0 := ⟨h0, fun _ _ _ => rfl, fun _ _ _ => Or.inl rfl, rfl, Int.le_refl _, Int.le_refl _, by rw [Int.sub_self]; rfl⟩
theorem RM.st {c : Int} (h : RM w0 w) (ho : wOv w = false) (hc : 0 ≤ c ∧ c < 4 * w 0) (hp : wHd w c = wTn w) : RM w0 (rPlays w c) := by
  obtain ⟨i1, i2, i3, i4, i5, i6, i7⟩ := h
  have m := py_more i1 ho hc hp
  have n := i1.n
  have t := rPlays_t (c := c) i1 ho hc
  refine ⟨RI_plays i1 ho hc hp, fun i a b => by rw [rPlays_s i1 ho hc (by omega), i2 i a b], fun d d0 d1 => ?_, ?_, ?_, by rw [m.1]; omega, ?_⟩
  · rw [m.2.1 d d0 d1]
    split
    · exact Or.inr rfl
    · exact i3 d d0 d1
  · have tn := wTn_lt i1
    have t0 := tn.2.2 ho
    have e := cn_upd (P := fun d => decide (¬ wHd w d = -1)) (Q := fun d => decide (¬ wHd (rPlays w c) d = -1)) (j := c) 52 0 hc.1 (by omega) (fun d a b z => by
      show decide (¬ wHd w d = -1) = decide (¬ wHd (rPlays w c) d = -1)
      rw [m.2.1 d a (by omega), if_neg z])
    have e1 : nh (rPlays w c) = nh w - 1 := by
      unfold nh
      rw [e]
      have x1 : (decide (¬ wHd w c = -1)) = true := decide_eq_true (by omega)
      have x2 : (decide (¬ wHd (rPlays w c) c = -1)) = false := decide_eq_false (by rw [m.2.1 c hc.1 (by omega), if_pos rfl]; simp)
      rw [x1, x2]
      simp
    rw [m.1, e1]; omega
  · rcases t with t | t <;> rw [t.2.1] <;> omega
  · rcases t with t | t
    · rw [m.2.2.2 t.1, t.2.1, show (w 13 + 1 - w0 13).toNat = (w 13 - w0 13).toNat + 1 by omega, glk, ← i7]
      unfold glw
      rw [i2 5 (by omega) (by omega), i2 6 (by omega) (by omega), i2 7 (by omega) (by omega)]
    · rw [(m.2.2.1 t.1).1, t.2.1, i7]
/-- the same cards, leader and trump: the same play -/
theorem RM.ev (h : RM w0 w) (h' : RM w0 w') (p : wPl w = 0) (p' : wPl w' = 0) (hh : ∀ c, 0 ≤ c → c < 52 → (wHd w c = -1 ↔ wHd w' c = -1)) (h9 : w' 9 = w 9) (h10 : w' 10 = w 10) : EV w w' := by
  obtain ⟨i1, i2, i3, i4, i5, i6, i7⟩ := h
  obtain ⟨j1, j2, j3, j4, j5, j6, j7⟩ := h'
  have n := i1.n
  have hd : ∀ c, 0 ≤ c → c < 52 → wHd w' c = wHd w c := fun c c0 c1 => by
    have a := i3 c c0 c1
    have b := j3 c c0 c1
    have e := hh c c0 c1
    rcases a with a | a
    · rcases b with b | b
      · rw [a, b]
      · rw [e.mpr b, b]
    · rw [a, e.mp a]
  have en : nh w' = nh w := by
    unfold nh
    exact cn_congr _ _ (fun c c0 c1 => by rw [hd c c0 (by omega)])
  have e12 : w' 12 = w 12 := by omega
  have e1 : w' 1 = w 1 := by rw [i2 1 (by omega) (by omega), j2 1 (by omega) (by omega)]
  have e13 : w' 13 = w 13 := by
    unfold wPl at p p'
    rw [e12, e1] at p'
    have q : w 13 * w 1 = w' 13 * w 1 := by omega
    exact (Int.eq_of_mul_eq_mul_right (by omega) q).symm
  refine ⟨fun i i0 i1' => ?_, fun c c0 c1 => hd c c0 c1, fun k k0 k1 => by omega⟩
  by_cases h8 : i ≤ 8
  · rw [i2 i i0 h8, j2 i i0 h8]
  · have q : i = 9 ∨ i = 10 ∨ i = 11 ∨ i = 12 ∨ i = 13 := by omega
    rcases q with q | q | q | q | q <;> subst q
    · exact h9
    · exact h10
    · rw [i7, j7, e13]
    · exact e12
    · exact e13
end RE
