/-! WHO PLAYED, who won: what a row keeps besides RI -/
/-- the first of the greatest by f -/
def gB (f : Int → Int) : Int → Int → Nat → Int
  | b, _, 0 => b
  | b, k, m + 1 => gB f (if b = -1 ∨ f b < f k then k else b) (k + 1) m
theorem gB_wBs {w : Int → Int} : ∀ (m : Nat) (b k : Int), wBs w b k m = gB (fun k => wPn w (wCd w k)) b k m
  | 0, _, _ => rfl
  | m + 1, b, k => by rw [wBs, gB, gB_wBs m]
theorem gB_lt {f : Int → Int} : ∀ (m : Nat) (b k : Int), -1 ≤ b → b < k → 0 ≤ k → -1 ≤ gB f b k m ∧ gB f b k m < k + m ∧ ((0 ≤ b ∨ 0 < m) → 0 ≤ gB f b k m)
  | 0, b, k, h0, h1, h2 => by
    rw [gB]
    exact ⟨h0, by omega, fun z => by omega⟩
  | m + 1, b, k, h0, h1, h2 => by
    rw [gB]
    have := gB_lt (f := f) m (if b = -1 ∨ f b < f k then k else b) (k + 1) (by split <;> omega) (by split <;> omega) (by omega)
    refine ⟨this.1, by omega, fun _ => this.2.2 ?_⟩
    split <;> omega
theorem gB_cg {f g : Int → Int} {N : Int} (h : ∀ j, 0 ≤ j → j < N → f j = g j) : ∀ (m : Nat) (b k : Int), -1 ≤ b → b < k → 0 ≤ k → k + m ≤ N → gB f b k m = gB g b k m
  | 0, _, _, _, _, _, _ => rfl
  | m + 1, b, k, h0, h1, h2, h3 => by
    rw [gB, gB]
    have e : (b = -1 ∨ f b < f k) ↔ (b = -1 ∨ g b < g k) := by
      by_cases hb : b = -1
      · simp [hb]
      · rw [h b (by omega) (by omega), h k h2 (by omega)]
    by_cases hz : b = -1 ∨ f b < f k
    · rw [if_pos hz, if_pos (e.mp hz)]
      exact gB_cg h m k (k + 1) (by omega) (by omega) (by omega) (by omega)
    · rw [if_neg hz, if_neg (fun x => hz (e.mpr x))]
      exact gB_cg h m b (k + 1) (by omega) (by omega) (by omega) (by omega)
/-- the power of a card -/
def pc (R T G u c : Int) : Int := if c / R = T then c % R + 1 + G else if c / R = u then c % R + 1 else 0
/-- the best of a complete trick -/
def tB (w : Int → Int) (t : Int) : Int := gB (fun k => pc (w 0) (w (196 + 6 * t + 4)) (w (196 + 6 * t + 5)) (w (196 + 6 * t + 3)) (w (92 + (t * w 1 + k)))) (-1) 0 (w 1).toNat
def TX (w : Int → Int) (t : Int) : Prop := (∀ i, 0 ≤ i → i < w 1 → w (144 + (t * w 1 + i)) = (w (196 + 6 * t) + i) % w 1) ∧ w (196 + 6 * t + 3) = w (92 + t * w 1) / w 0 ∧ w (196 + 6 * t + 1) = (w (196 + 6 * t) + tB w t) % w 1 ∧ w (196 + 6 * t + 2) = w (92 + (t * w 1 + tB w t))
def XI (w : Int → Int) : Prop := (∀ k, 0 ≤ k → k < wPl w → w (144 + (w 13 * w 1 + k)) = (w 9 + k) % w 1) ∧ (∀ t, 0 ≤ t → t < w 13 → TX w t) ∧ (∀ t, 0 ≤ t → t + 1 < w 13 → w (196 + 6 * (t + 1)) = w (196 + 6 * t + 1)) ∧ (0 < w 13 → w 9 = w (196 + 6 * (w 13 - 1) + 1))
section XI
variable {w w' : Int → Int} {c : Int}
theorem XI.zero (h12 : w 12 = 0) (h13 : w 13 = 0) : XI w := by
  refine ⟨fun k h0 h1 => ?_, fun t h0 h1 => by omega, fun t h0 h1 => by omega, fun z => by omega⟩
  unfold wPl at h1
  rw [h12, h13] at h1
  omega
theorem tB_lt {t : Int} (h : 2 ≤ w 1) : 0 ≤ tB w t ∧ tB w t < w 1 := by
  have := gB_lt (f := fun k => pc (w 0) (w (196 + 6 * t + 4)) (w (196 + 6 * t + 5)) (w (196 + 6 * t + 3)) (w (92 + (t * w 1 + k)))) (w 1).toNat (-1) 0 (by omega) (by omega) (by omega)
  unfold tB
  exact ⟨this.2.2 (by omega), by omega⟩
theorem TX.cg {t : Int} (h : TX w t) (h1 : 2 ≤ w 1) (ht : 0 ≤ t * w 1) (e0 : w' 0 = w 0) (e1 : w' 1 = w 1) (e2 : ∀ i, 0 ≤ i → i < t * w 1 + w 1 → w' (92 + i) = w (92 + i) ∧ w' (144 + i) = w (144 + i)) (e3 : ∀ j, 0 ≤ j → j < 6 → w' (196 + 6 * t + j) = w (196 + 6 * t + j)) : TX w' t := by
  obtain ⟨a, b, d, e⟩ := h
  have f0 := e3 0 (by omega) (by omega)
  rw [Int.add_zero] at f0
  have eb : tB w' t = tB w t := by
    unfold tB
    rw [e0, e1, e3 4 (by omega) (by omega), e3 5 (by omega) (by omega), e3 3 (by omega) (by omega)]
    refine gB_cg (N := w 1) (fun j j0 j1 => ?_) _ _ _ (by omega) (by omega) (by omega) (by omega)
    rw [(e2 (t * w 1 + j) (by omega) (by omega)).1]
  have tl := tB_lt (w := w) (t := t) h1
  refine ⟨fun i i0 i1 => ?_, ?_, ?_, ?_⟩
  · rw [e1] at i1 ⊢
    rw [(e2 (t * w 1 + i) (by omega) (by omega)).2, f0]
    exact a i i0 i1
  · rw [e3 3 (by omega) (by omega), e1, e0, (e2 (t * w 1) ht (by omega)).1]
    exact b
  · rw [e3 1 (by omega) (by omega), f0, e1, eb]
    exact d
  · rw [e3 2 (by omega) (by omega), e1, eb, (e2 (t * w 1 + tB w t) (by omega) (by omega)).1]
    exact e
theorem mul_up {t n p : Int} (h0 : 0 ≤ t) (h : t < n) (hp : 0 ≤ p) : 0 ≤ t * p ∧ t * p + p ≤ n * p := by
  have a : 0 ≤ t * p := Int.mul_nonneg h0 hp
  have b : (t + 1) * p ≤ n * p := Int.mul_le_mul_of_nonneg_right (by omega) hp
  rw [Int.add_mul, Int.one_mul] at b
  exact ⟨a, b⟩
theorem XI.ex (h : XI w) (hr : RI w) (e : EX w w') : XI w' := by
  have a := hr.n
  have p12 := hr.p12
  have p13 := hr.p13
  have pl := hr.pl
  have m0 := hr.m13
  obtain ⟨h1, h2, h3, h4⟩ := h
  refine ⟨fun k k0 k1 => ?_, fun t t0 t1 => ?_, fun t t0 t1 => ?_, fun z => ?_⟩
  · rw [e.pl] at k1
    have := hr.wpl
    unfold wPl at k1
    rw [e 13 (by omega), e 1 (by omega), e 9 (by omega), e _ (by omega)]
    exact h1 k k0 (by unfold wPl; exact k1)
  · rw [e 13 (by omega)] at t1
    have m := mul_up (p := w 1) t0 t1 (by omega)
    exact (h2 t t0 t1).cg a.2.1.1 m.1 (e 0 (by omega)) (e 1 (by omega)) (fun i i0 i1 => ⟨e _ (by omega), e _ (by omega)⟩) (fun j j0 j1 => e _ (by omega))
  · rw [e 13 (by omega)] at t1
    rw [e _ (by omega), e _ (by omega)]
    exact h3 t t0 t1
  · rw [e 13 (by omega)] at z ⊢
    rw [e 9 (by omega), e _ (by omega)]
    exact h4 z
theorem AG.ex (e : AG w w') : EX w w' := fun i h => e i (by omega)
/-- a card more in the trick; the row need not be one yet -/
theorem XI_card (h : XI w) (hr : RI w) (ho : wOv w = false) (hc : 0 ≤ c ∧ c < 4 * w 0) : XI (rCard w c (wTn w)) := by
  have a := hr.n
  have p12 := hr.p12
  have p13 := hr.p13
  have pl := hr.pl
  have m0 := hr.m13
  have o := wOv_lt hr ho
  have wp := hr.wpl
  obtain ⟨h1, h2, h3, h4⟩ := h
  have u : ∀ i, i ≠ 40 + c → i ≠ 92 + w 12 → i ≠ 144 + w 12 → i ≠ 12 → rCard w c (wTn w) i = w i := fun i d1 d2 d3 d4 => rCard_o ⟨by omega, by omega, by omega, by omega⟩
  have v := rCard_c (w := w) (c := c) (p := wTn w) ⟨hc.1, by omega⟩ ⟨by omega, by omega⟩
  obtain ⟨v1, v2, v3, v4⟩ := v
  have e1 := u 1 (by omega) (by omega) (by omega) (by omega)
  have e13 := u 13 (by omega) (by omega) (by omega) (by omega)
  refine ⟨fun k k0 k1 => ?_, fun t t0 t1 => ?_, fun t t0 t1 => ?_, fun z => ?_⟩
  · unfold wPl at k1
    rw [v4, e13, e1] at k1
    rw [e13, e1, u 9 (by omega) (by omega) (by omega) (by omega)]
    by_cases hk : w 13 * w 1 + k = w 12
    · rw [hk, v3, tn_pl ho]
      unfold wPl
      rw [show k = w 12 - w 13 * w 1 by omega]
    · rw [u _ (by omega) (by omega) (by omega) (by omega)]
      exact h1 k k0 (by unfold wPl; omega)
  · rw [e13] at t1
    have m := mul_up (p := w 1) t0 t1 (by omega)
    exact (h2 t t0 t1).cg a.2.1.1 m.1 (u 0 (by omega) (by omega) (by omega) (by omega)) e1 (fun i i0 i1 => ⟨u _ (by omega) (by omega) (by omega) (by omega), u _ (by omega) (by omega) (by omega) (by omega)⟩) (fun j j0 j1 => u _ (by omega) (by omega) (by omega) (by omega))
  · rw [e13] at t1
    rw [u _ (by omega) (by omega) (by omega) (by omega), u _ (by omega) (by omega) (by omega) (by omega)]
    exact h3 t t0 t1
  · rw [e13] at z ⊢
    rw [u _ (by omega) (by omega) (by omega) (by omega), u _ (by omega) (by omega) (by omega) (by omega)]
    exact h4 z
theorem rEnd_f {i : Int} (h : i ≠ 9 ∧ i ≠ 10 ∧ i ≠ 11 ∧ i ≠ 13) (h2 : i < 196 + 6 * w 13 ∨ 196 + 6 * w 13 + 5 < i) : rEnd w i = w i := rEnd_o ⟨h.1, h.2.2.2, h.2.1, h.2.2.1⟩ h2
/-- the trick ends -/
theorem XI_end (h : XI w) (b1 : 2 ≤ w 1 ∧ w 1 ≤ 4) (b12 : w 12 ≤ 52) (b13 : 0 ≤ w 13 ∧ w 13 < 13) (hp : wPl w = w 1) : XI (rEnd w) := by
  obtain ⟨h1, h2, h3, h4⟩ := h
  have pl : w 12 = w 13 * w 1 + w 1 := by unfold wPl at hp; omega
  have m0 : 0 ≤ w 13 * w 1 := Int.mul_nonneg b13.1 (by omega)
  have u : ∀ i, (i ≠ 9 ∧ i ≠ 10 ∧ i ≠ 11 ∧ i ≠ 13) → (i < 196 + 6 * w 13 ∨ 196 + 6 * w 13 + 5 < i) → rEnd w i = w i := fun i d1 d2 => rEnd_f d1 d2
  have fo : ∀ i, i ≠ 10 → i ≠ 11 → rEnd w i = rTrick w i := fun i d1 d2 => by unfold rEnd; rw [rFade_o ⟨d1, d2⟩]
  have e1 := u 1 (by omega) (by omega)
  have e0 := u 0 (by omega) (by omega)
  have e12 := u 12 (by omega) (by omega)
  have e13 : rEnd w 13 = w 13 + 1 := by rw [fo _ (by omega) (by omega), rTrick_13]
  have t0' : rEnd w (196 + 6 * w 13) = w 9 := by
    rw [fo _ (by omega) (by omega)]
    unfold rTrick
    simp (disch := omega) only [ru_o, ru_s]
  have t1' : rEnd w (196 + 6 * w 13 + 1) = (w 9 + wBp w) % w 1 := by
    rw [fo _ (by omega) (by omega)]
    unfold rTrick
    simp (disch := omega) only [ru_o, ru_s]
  have t2' : rEnd w (196 + 6 * w 13 + 2) = wCd w (wBp w) := by
    rw [fo _ (by omega) (by omega)]
    unfold rTrick
    simp (disch := omega) only [ru_o, ru_s]
  have t3' : rEnd w (196 + 6 * w 13 + 3) = wLd w := by
    rw [fo _ (by omega) (by omega)]
    unfold rTrick
    simp (disch := omega) only [ru_o, ru_s]
  have t4' : rEnd w (196 + 6 * w 13 + 4) = w 10 := by
    rw [fo _ (by omega) (by omega)]
    unfold rTrick
    simp (disch := omega) only [ru_o, ru_s]
  have t5' : rEnd w (196 + 6 * w 13 + 5) = w 11 := by
    rw [fo _ (by omega) (by omega)]
    unfold rTrick
    simp (disch := omega) only [ru_o, ru_s]
  have t9 : rEnd w 9 = (w 9 + wBp w) % w 1 := by
    rw [fo _ (by omega) (by omega)]
    unfold rTrick
    simp (disch := omega) only [ru_s]
  have bl := wBs_lt (w := w) (w 1).toNat (-1) 0 (by omega) (by omega) (by omega)
  have eb : wBp w = wBs w (-1) 0 (w 1).toNat := by unfold wBp; rw [hp]
  have tb : tB (rEnd w) (w 13) = wBp w := by
    rw [eb, gB_wBs]
    unfold tB
    rw [e0, e1, t3', t4', t5']
    refine gB_cg (N := w 1) (fun j j0 j1 => ?_) _ _ _ (by omega) (by omega) (by omega) (by omega)
    rw [u _ (by omega) (by omega)]
    unfold wPn
    rw [if_neg (by omega)]
    unfold wCd
    rw [show 92 + w 13 * w 1 + j = 92 + (w 13 * w 1 + j) by omega]
    rfl
  refine ⟨fun k k0 k1 => ?_, fun t t0 t1 => ?_, fun t t0 t1 => ?_, fun z => ?_⟩
  · unfold wPl at k1
    rw [e12, e13, e1, Int.add_mul] at k1
    omega
  · rw [e13] at t1
    by_cases ht : t < w 13
    · have m := mul_up (p := w 1) t0 ht (by omega)
      exact (h2 t t0 ht).cg b1.1 m.1 e0 e1 (fun i i0 i1 => ⟨u _ (by omega) (by omega), u _ (by omega) (by omega)⟩) (fun j j0 j1 => u _ (by omega) (by omega))
    · have et : t = w 13 := by omega
      subst et
      refine ⟨fun i i0 i1 => ?_, ?_, ?_, ?_⟩
      · rw [e1] at i1 ⊢
        rw [t0', u _ (by omega) (by omega)]
        exact h1 i i0 (by omega)
      · rw [t3', e1, e0, u _ (by omega) (by omega)]
        unfold wLd
        rw [if_neg (by omega)]
        unfold wS wCd
        rw [Int.add_zero]
      · rw [t1', t0', e1, tb]
      · rw [t2', e1, tb, u _ (by omega) (by omega)]
        unfold wCd
        rw [Int.add_assoc]
  · rw [e13] at t1
    by_cases ht : t + 1 < w 13
    · rw [u _ (by omega) (by omega), u _ (by omega) (by omega)]
      exact h3 t t0 ht
    · have et : t + 1 = w 13 := by omega
      rw [et, t0', u _ (by omega) (by omega), h4 (by omega), show w 13 - 1 = t by omega]
  · rw [t9, e13, show w 13 + 1 - 1 = w 13 by omega, t1']
theorem XI_plays (h : XI w) (hr : RI w) (ho : wOv w = false) (hc : 0 ≤ c ∧ c < 4 * w 0) : XI (rPlays w c) := by
  have ag := rLack_ag (c := c) hr ho
  have ri := rLack_i (c := c) hr ho
  have x := h.ex hr ag.ex
  have o := wOv_lt hr ho
  have a := hr.n
  have ov : wOv (rLack w c) = false := by rw [ag.ex.ov]; exact ho
  have hc' : 0 ≤ c ∧ c < 4 * rLack w c 0 := by rw [ag 0 (by omega)]; exact hc
  have xc := XI_card x ri ov hc'
  rw [ag.tn] at xc
  unfold rPlays
  split
  · rename_i hf
    have p12 := hr.p12
    have p13 := hr.p13
    have pl := hr.pl
    have e12 : rLack w c 12 = w 12 := ag 12 (by omega)
    have e13 : rLack w c 13 = w 13 := ag 13 (by omega)
    have e1 : rLack w c 1 = w 1 := ag 1 (by omega)
    have u13 : rCard (rLack w c) c (wTn w) 13 = w 13 := by rw [rCard_o ⟨by omega, by omega, by omega, by omega⟩, e13]
    have u1 : rCard (rLack w c) c (wTn w) 1 = w 1 := by rw [rCard_o ⟨by omega, by omega, by omega, by omega⟩, e1]
    have u12 : rCard (rLack w c) c (wTn w) 12 = w 12 + 1 := by rw [(rCard_c (w := rLack w c) (c := c) (p := wTn w) ⟨hc.1, by omega⟩ ⟨by omega, by omega⟩).2.2.2, e12]
    have n13 : w 13 < w 2 := by
      rcases Int.lt_or_le (w 13) (w 2) with z | z
      · exact z
      · exact absurd (p13.2.mp (by omega)) (by
          unfold wOv at ho
          exact of_decide_eq_false ho)
    refine XI_end xc (by rw [u1]; exact a.2.1) ?_ (by rw [u13]; omega) ?_
    · rw [u12]
      omega
    · unfold wPl at hf ⊢
      rw [u12, u13, u1]
      omega
  · exact xc
theorem rCount_ex (h : RI w) : EX w (rCount w) := fun i hi => by
  have a := h.n
  exact rCount_o h (by omega)
theorem XI_count (h : XI w) (hr : RI w) : XI (rCount w) := h.ex hr (rCount_ex hr)
theorem XI_nx (h : XI w) (hr : RI w) (ho : wOv w = false) : XI (wNx w) := by
  obtain ⟨c1, c2⟩ := wCh_ok hr ho
  exact XI_count (XI_plays h hr ho c1) (RI_plays hr ho c1 c2)
theorem XI_au {n : Int} (hn : 0 ≤ n ∧ n ≤ 1000) : ∀ (m : Nat) (w : Int → Int), XI w → RI w → (wOv w = true ∨ RB n w) → XI (wAu m w)
  | 0, _, h, _, _ => h
  | m + 1, w, h, hr, hb => by
    rw [wAu]
    by_cases ho : wOv w = true
    · rw [if_pos ho]; exact h
    · rw [if_neg ho]
      have g := wNx_ok hr (Bool.eq_false_iff.mpr ho) (hb.resolve_left ho) hn
      exact XI_au hn m (wNx w) (XI_nx h hr (Bool.eq_false_iff.mpr ho)) g.1 g.2.2.1
end XI
