/-! ROWS THAT PLAY ALIKE -/
def EV (w w' : Int → Int) : Prop := (∀ i, 0 ≤ i → i ≤ 13 → w' i = w i) ∧ (∀ c, 0 ≤ c → c < 52 → w' (40 + c) = w (40 + c)) ∧ ∀ k, 0 ≤ k → k < wPl w → wCd w' k = wCd w k
section EVS
variable {w w' : Int → Int}
theorem EV.rf : EV w w := ⟨fun _ _ _ => rfl, fun _ _ _ => rfl, fun _ _ _ => rfl⟩
theorem EV.pl (e : EV w w') : wPl w' = wPl w := by
  unfold wPl
  rw [e.1 12 (by omega) (by omega), e.1 13 (by omega) (by omega), e.1 1 (by omega) (by omega)]
theorem EV.ov (e : EV w w') : wOv w' = wOv w := by
  unfold wOv
  rw [e.1 12 (by omega) (by omega), e.1 1 (by omega) (by omega), e.1 2 (by omega) (by omega)]
theorem EV.tn (e : EV w w') : wTn w' = wTn w := by
  unfold wTn
  rw [e.ov, e.pl, e.1 9 (by omega) (by omega), e.1 1 (by omega) (by omega)]
theorem EV.s (e : EV w w') (c : Int) : wS w' c = wS w c := by
  unfold wS
  rw [e.1 0 (by omega) (by omega)]
theorem EV.r (e : EV w w') (c : Int) : wR w' c = wR w c := by
  unfold wR
  rw [e.1 0 (by omega) (by omega)]
theorem EV.ld (e : EV w w') (h : 0 ≤ wPl w) : wLd w' = wLd w := by
  unfold wLd
  rw [e.pl]
  by_cases z : wPl w = 0
  · rw [if_pos z, if_pos z]
  · rw [if_neg z, if_neg z, e.s, e.2.2 0 (by omega) (by omega)]
theorem EV.pw (e : EV w w') (c u : Int) : wPw w' c u = wPw w c u := by
  unfold wPw
  rw [e.s, e.r, e.1 10 (by omega) (by omega), e.1 11 (by omega) (by omega)]
theorem EV.pn (e : EV w w') (h : 0 ≤ wPl w) (c : Int) : wPn w' c = wPn w c := by
  unfold wPn
  rw [e.pl, e.s, e.ld h, e.pw]
theorem EV.bs (e : EV w w') (h : 0 ≤ wPl w) : ∀ (m : Nat) (b k : Int), b < wPl w → 0 ≤ k → k + m ≤ wPl w → -1 ≤ b → wBs w' b k m = wBs w b k m
  | 0, _, _, _, _, _, _ => rfl
  | m + 1, b, k, h1, h2, h3, h4 => by
    rw [wBs, wBs, e.pn h, e.pn h, e.2.2 k h2 (by omega)]
    by_cases hb : b = -1
    · rw [if_pos (Or.inl hb), if_pos (Or.inl hb)]
      exact EV.bs e h m k (k + 1) (by omega) (by omega) (by omega) (by omega)
    · rw [e.2.2 b (by omega) h1]
      split
      · exact EV.bs e h m k (k + 1) (by omega) (by omega) (by omega) (by omega)
      · exact EV.bs e h m b (k + 1) h1 (by omega) (by omega) h4
theorem EV.bp (e : EV w w') (h : 0 ≤ wPl w) : wBp w' = wBp w := by
  unfold wBp
  rw [e.pl]
  exact e.bs h _ _ _ (by omega) (by omega) (by omega) (by omega)
theorem EV.bt (e : EV w w') (h : 0 ≤ wPl w) (hb : 0 < wPl w → 0 ≤ wBp w ∧ wBp w < wPl w) (c : Int) : wBt w' c = wBt w c := by
  unfold wBt
  rw [e.pl, e.pn h, e.pn h, e.bp h]
  by_cases z : wPl w = 0
  · simp [z]
  · have b := hb (by omega)
    rw [e.2.2 _ b.1 b.2]
theorem EV.sc (e : EV w w') (h0 : 0 ≤ w 0 ∧ w 0 ≤ 13) (p : Int) {u : Int} (hu : 0 ≤ u ∧ u < 4) : wSc w' p u = wSc w p u := by
  have q : u = 0 ∨ u = 1 ∨ u = 2 ∨ u = 3 := by omega
  have m : 0 ≤ u * w 0 ∧ u * w 0 + w 0 ≤ 52 := by rcases q with q | q | q | q <;> subst q <;> omega
  unfold wSc wHd
  rw [e.1 0 (by omega) (by omega)]
  exact cn_congr _ _ (fun c a b => by rw [e.2.1 c (by omega) (by omega)])
theorem EV.hb (e : EV w w') (h : 0 ≤ wPl w) (hb : 0 < wPl w → 0 ≤ wBp w ∧ wBp w < wPl w) (h0 : 0 ≤ w 0 ∧ w 0 ≤ 13) (p : Int) {u : Int} (hu : 0 ≤ u ∧ u < 4) : wHB w' p u = wHB w p u := by
  have q : u = 0 ∨ u = 1 ∨ u = 2 ∨ u = 3 := by omega
  have m : 0 ≤ u * w 0 ∧ u * w 0 + w 0 ≤ 52 := by rcases q with q | q | q | q <;> subst q <;> omega
  unfold wHB wHd
  rw [e.1 0 (by omega) (by omega)]
  rw [cn_congr (P := fun c => decide (w' (40 + c) = p) && wBt w' c) (Q := fun c => decide (w (40 + c) = p) && wBt w c) _ _ (fun c a b => by rw [e.2.1 c (by omega) (by omega), e.bt h hb])]
theorem EV.mp (e : EV w w') (hw : RI w) (p c : Int) : wMp w' p c = wMp w p c := by
  have a := hw.n
  have b := hw.wpl
  have l := wLd_lt hw
  have bp := (wBp_lt hw).2.2.1
  unfold wMp
  rw [e.1 3 (by omega) (by omega), e.pl, e.ld b.1, e.s, e.1 10 (by omega) (by omega), e.bt b.1 bp]
  by_cases z : w 3 = 0 ∨ wPl w = 0
  · rw [if_pos z, if_pos z]
  · have lp := l.2.2 (by omega)
    rw [if_neg z, if_neg z, e.sc (by omega) p (u := wLd w) ⟨lp, l.2.1⟩, e.hb b.1 bp (by omega) p (u := wLd w) ⟨lp, l.2.1⟩]
    by_cases y : w 10 = -1
    · simp [y]
    · rw [e.sc (by omega) p (u := w 10) (by omega)]
theorem EV.lg (e : EV w w') (hw : RI w) {c : Int} (hc : 0 ≤ c ∧ c < 52) : wLg w' c = wLg w c := by
  unfold wLg wHd
  rw [e.tn, e.2.1 c hc.1 hc.2, e.mp hw]
/-- behind the same card -/
theorem EV.cd {c p : Int} (e : EV w w') (hw : RI w) (hw' : RI w') (ho : wOv w = false) (hc : 0 ≤ c ∧ c < 4 * w 0) : EV (rCard (rLack w c) c p) (rCard (rLack w' c) c p) := by
  have a := hw.n
  have ho' : wOv w' = false := by rw [e.ov]; exact ho
  have e0 : w' 0 = w 0 := e.1 0 (by omega) (by omega)
  have g : ∀ {v : Int → Int}, RI v → wOv v = false → (0 ≤ c ∧ c < 4 * v 0) → (Nx v (rCard (rLack v c) c p) c ∧ (∀ i, 0 ≤ i → i ≤ 11 → rCard (rLack v c) c p i = v i) ∧ rCard (rLack v c) c p 13 = v 13 ∧ rCard (rLack v c) c p 12 = v 12 + 1 ∧ ∀ d, 0 ≤ d → d < 52 → rCard (rLack v c) c p (40 + d) = if d = c then -1 else v (40 + d)) := by
    intro v hv hov hcv
    have ag := rLack_ag (c := c) hv hov
    have ri := rLack_i (c := c) hv hov
    have o := wOv_lt hv hov
    have pl := hv.pl
    have n := hv.n
    have hov2 : wOv (rLack v c) = false := by unfold wOv at hov ⊢; rw [ag 12 (by omega), ag 1 (by omega), ag 2 (by omega)]; exact hov
    have hc2 : 0 ≤ c ∧ c < 4 * rLack v c 0 := by rw [ag 0 (by omega)]; exact hcv
    have r12 : rLack v c 12 = v 12 := ag 12 (by omega)
    refine ⟨(rCard_nx (p := p) ri hov2 hc2).ag ag hv.q, fun i i0 i1 => ?_, ?_, ?_, fun d d0 d1 => ?_⟩
    · rw [rCard_o ⟨by omega, by rw [r12]; omega, by rw [r12]; omega, by omega⟩, ag i (by omega)]
    · rw [rCard_o ⟨by omega, by rw [r12]; omega, by rw [r12]; omega, by omega⟩, ag 13 (by omega)]
    · unfold rCard; rw [ru_s, r12]
    · by_cases z : d = c
      · rw [if_pos z, z]
        have := (rCard_c (w := rLack v c) (c := c) (p := p) ⟨hcv.1, by omega⟩ (by rw [r12]; omega)).1
        exact this
      · rw [if_neg z, rCard_o ⟨by omega, by rw [r12]; omega, by rw [r12]; omega, by omega⟩, ag _ (by omega)]
  obtain ⟨n1, n2, n3, n4, n5⟩ := g hw ho hc
  obtain ⟨m1, m2, m3, m4, m5⟩ := g hw' ho' (by rw [e0]; exact hc)
  have b := hw.wpl
  refine ⟨fun i i0 i1 => ?_, fun d d0 d1 => ?_, fun k k0 k1 => ?_⟩
  · by_cases h12 : i = 12
    · rw [h12, m4, n4, e.1 12 (by omega) (by omega)]
    · by_cases h13 : i = 13
      · rw [h13, m3, n3, e.1 13 (by omega) (by omega)]
      · rw [m2 i i0 (by omega), n2 i i0 (by omega), e.1 i i0 i1]
  · rw [m5 d d0 d1, n5 d d0 d1, e.2.1 d d0 d1]
  · rw [n1.pl] at k1
    by_cases z : k = wPl w
    · rw [z, ← e.pl, m1.2.2.2.2.2.2.2.2, e.pl, n1.2.2.2.2.2.2.2.2]
    · rw [m1.2.2.2.2.2.2.2.1 k k0 (by rw [e.pl]; omega), n1.2.2.2.2.2.2.2.1 k k0 (by omega), e.2.2 k k0 (by omega)]
theorem EV.en {u u' : Int → Int} (e : EV u u') (hu : QI u) (hu' : QI u') (hp : wPl u = u 1) (h13 : 0 ≤ u 13 ∧ u 13 ≤ 12) : EV (rEnd u) (rEnd u') := by
  have a := hu.n
  have bp := (wBp_ltq hu).2.2.1 (by omega)
  have ebp := e.bp (by omega)
  have cd := e.2.2 (wBp u) bp.1 bp.2
  have e13 := e.1 13 (by omega) (by omega)
  have g : ∀ {v : Int → Int}, QI v → wPl v = v 1 → (0 ≤ v 13 ∧ v 13 ≤ 12) → rEnd v 9 = (v 9 + wBp v) % v 1 ∧ rEnd v 13 = v 13 + 1 ∧ rEnd v 10 = rFade v (wS v (wCd v (wBp v))) 10 ∧ rEnd v 11 = rFade v (wS v (wCd v (wBp v))) 11 ∧ wPl (rEnd v) = 0 ∧ ∀ i, i ≠ 9 → i ≠ 13 → i ≠ 10 → i ≠ 11 → i < 196 → rEnd v i = v i := by
    intro v hv hpv h13v
    have ve : ∀ i, i ≠ 9 → i ≠ 13 → i ≠ 10 → i ≠ 11 → i < 196 → rEnd v i = v i := fun i h1 h2 h3 h4 h5 => rEnd_o ⟨h1, h2, h3, h4⟩ (Or.inl (by omega))
    have v9 : rEnd v 9 = (v 9 + wBp v) % v 1 := by unfold rEnd; rw [rFade_o ⟨by omega, by omega⟩, rTrick_9]
    have v13 : rEnd v 13 = v 13 + 1 := by unfold rEnd; rw [rFade_o ⟨by omega, by omega⟩, rTrick_13]
    have tr : ∀ i, i ≠ 9 → i ≠ 13 → i < 196 → rTrick v i = v i := fun i h1 h2 h3 => rTrick_o ⟨h1, h2⟩ (by omega)
    have fa := rFade_ag (w := v) (w' := rTrick v) (s := wS v (wCd v (wBp v))) (tr 5 (by omega) (by omega) (by omega)) (tr 6 (by omega) (by omega) (by omega)) (tr 7 (by omega) (by omega) (by omega)) (tr 10 (by omega) (by omega) (by omega)) (tr 11 (by omega) (by omega) (by omega))
    refine ⟨v9, v13, fa.1, fa.2, ?_, ve⟩
    unfold wPl at hpv ⊢
    rw [ve 12 (by omega) (by omega) (by omega) (by omega) (by omega), v13, ve 1 (by omega) (by omega) (by omega) (by omega) (by omega), Int.add_mul, Int.one_mul]
    omega
  have hp' : wPl u' = u' 1 := by rw [e.pl, hp, e.1 1 (by omega) (by omega)]
  obtain ⟨n1, n2, n3, n4, n5, n6⟩ := g hu hp h13
  obtain ⟨m1, m2, m3, m4, m5, m6⟩ := g hu' hp' (by rw [e13]; exact h13)
  have fa := rFade_ag (w := u) (w' := u') (s := wS u (wCd u (wBp u))) (e.1 5 (by omega) (by omega)) (e.1 6 (by omega) (by omega)) (e.1 7 (by omega) (by omega)) (e.1 10 (by omega) (by omega)) (e.1 11 (by omega) (by omega))
  refine ⟨fun i i0 i1 => ?_, fun d d0 d1 => ?_, fun k k0 k1 => by rw [n5] at k1; omega⟩
  · by_cases h9 : i = 9
    · rw [h9, m1, n1, ebp, e.1 9 (by omega) (by omega), e.1 1 (by omega) (by omega)]
    · by_cases h13' : i = 13
      · rw [h13', m2, n2, e13]
      · by_cases h10 : i = 10
        · rw [h10, m3, n3, ebp, cd, e.s, fa.1]
        · by_cases h11 : i = 11
          · rw [h11, m4, n4, ebp, cd, e.s, fa.2]
          · rw [m6 i h9 h13' h10 h11 (by omega), n6 i h9 h13' h10 h11 (by omega), e.1 i i0 i1]
  · rw [m6 _ (by omega) (by omega) (by omega) (by omega) (by omega), n6 _ (by omega) (by omega) (by omega) (by omega) (by omega), e.2.1 d d0 d1]
theorem EV.py {c : Int} (e : EV w w') (hw : RI w) (hw' : RI w') (ho : wOv w = false) (hc : 0 ≤ c ∧ c < 4 * w 0) : EV (rPlays w c) (rPlays w' c) := by
  have a := hw.n
  have o := wOv_lt hw ho
  have pl := hw.pl
  have ho' : wOv w' = false := by rw [e.ov]; exact ho
  have cd := e.cd (p := wTn w) hw hw' ho hc
  have ag := rLack_ag (c := c) hw ho
  have ag' := rLack_ag (c := c) hw' ho'
  have e0 : w' 0 = w 0 := e.1 0 (by omega) (by omega)
  have q1 : QI (rCard (rLack w c) c (wTn w)) := rCard_q (rLack_i hw ho) (by unfold wOv at ho ⊢; rw [ag 12 (by omega), ag 1 (by omega), ag 2 (by omega)]; exact ho) (by rw [ag 0 (by omega)]; exact hc)
  have q2 : QI (rCard (rLack w' c) c (wTn w)) := rCard_q (rLack_i hw' ho') (by unfold wOv at ho' ⊢; rw [ag' 12 (by omega), ag' 1 (by omega), ag' 2 (by omega)]; exact ho') (by rw [ag' 0 (by omega), e0]; exact hc)
  have nx : Nx w (rCard (rLack w c) c (wTn w)) c := (rCard_nx (p := wTn w) (rLack_i hw ho) (by unfold wOv at ho ⊢; rw [ag 12 (by omega), ag 1 (by omega), ag 2 (by omega)]; exact ho) (by rw [ag 0 (by omega)]; exact hc)).ag ag hw.q
  unfold rPlays
  rw [e.pl, e.1 1 (by omega) (by omega), e.tn]
  by_cases full : wPl w + 1 = w 1
  · rw [if_pos full, if_pos full]
    exact cd.en q1 q2 (by rw [nx.pl, nx.2.1]; exact full) (by rw [nx.2.2.2.2.2.2.1]; omega)
  · rw [if_neg full, if_neg full]
    exact cd
end EVS
/-! THE VALUE of a row for the searcher q -/
/-- the best of the cards from c on: the value, the first card that has it -/
def bo (own : Bool) (lg : Int → Bool) (f : Int → Int) : Nat → Int × Int → Int → Int × Int
  | 0, a, _ => a
  | m + 1, a, c => if lg c = true then (if a.1 = -1 ∨ (own = true ∧ a.1 < f c) ∨ (¬ own = true ∧ f c < a.1) then bo own lg f m (f c, c) (c + 1) else bo own lg f m a (c + 1)) else bo own lg f m a (c + 1)
def VN (q : Int) : Nat → (Int → Int) → Int
  | 0, _ => 0
  | n + 1, w => if wOv w = true then 0 else (bo (decide (wTn w = q)) (wLg w) (fun c => gn q w c + VN q n (rPlays w c)) 52 (-1, -1) 0).1
/-- cards still to be played -/
def lf (w : Int → Int) : Nat := (w 1 * w 2 - w 12).toNat
def VV (q : Int) (w : Int → Int) : Int := VN q (lf w) w
def VB (q : Int) (w : Int → Int) : Int × Int := bo (decide (wTn w = q)) (wLg w) (fun c => gn q w c + VV q (rPlays w c)) 52 (-1, -1) 0
section VS
variable {w w' : Int → Int} {q : Int}
theorem bo_cg {own : Bool} {lg lg' : Int → Bool} {f f' : Int → Int} : ∀ (m : Nat) (a : Int × Int) (c : Int), (∀ x, c ≤ x → x < c + m → lg' x = lg x ∧ (lg x = true → f' x = f x)) → bo own lg' f' m a c = bo own lg f m a c
  | 0, _, _, _ => rfl
  | m + 1, a, c, h => by
    have h0 := h c (by omega) (by omega)
    have ih := fun a => bo_cg (own := own) (lg := lg) (lg' := lg') (f := f) (f' := f') m a (c + 1) (fun x x0 x1 => h x (by omega) (by omega))
    rw [bo, bo, h0.1]
    by_cases l : lg c = true
    · rw [if_pos l, if_pos l, h0.2 l, ih, ih]
    · rw [if_neg l, if_neg l, ih]
theorem lg_hd {c : Int} (h : wLg w c = true) : wHd w c = wTn w ∧ ¬ wTn w = -1 := by
  unfold wLg at h
  simp only [Bool.and_eq_true, decide_eq_true_eq] at h
  exact ⟨h.1.2, h.1.1⟩
theorem lg_rg (hw : RI w) {c : Int} (h0 : 0 ≤ c ∧ c < 52) (h : wLg w c = true) : wOv w = false ∧ (0 ≤ c ∧ c < 4 * w 0) ∧ wHd w c = wTn w := by
  have l := lg_hd h
  have d := hw.hd h0.1 h0.2
  have ho : wOv w = false := by
    rcases Bool.eq_false_or_eq_true (wOv w) with z | z
    · exact absurd (by unfold wTn; rw [if_pos z]) l.2
    · exact z
  refine ⟨ho, ⟨h0.1, ?_⟩, l.1⟩
  rcases Int.lt_or_le c (4 * w 0) with z | z
  · exact z
  · have := d.2.2 z
    omega
theorem lf_pl (hw : RI w) (ho : wOv w = false) {c : Int} (hc : 0 ≤ c ∧ c < 4 * w 0) : lf w = lf (rPlays w c) + 1 := by
  have o := wOv_lt hw ho
  have t := rPlays_t (c := c) hw ho hc
  have e1 := rPlays_s (c := c) hw ho hc (i := 1) (by omega)
  have e2 := rPlays_s (c := c) hw ho hc (i := 2) (by omega)
  have e12 : rPlays w c 12 = w 12 + 1 := by
    rcases t with ⟨t1, t2, t3⟩ | ⟨t1, t2, t3⟩
    · unfold wPl at t1 t3
      rw [t2, e1, Int.add_mul, Int.one_mul] at t3
      omega
    · unfold wPl at t3
      rw [t2, e1] at t3
      unfold wPl at t1
      omega
  unfold lf
  rw [e1, e2, e12]
  omega
theorem VV_eq (hw : RI w) (ho : wOv w = false) : VV q w = (VB q w).1 := by
  have o := wOv_lt hw ho
  have l : lf w = (lf w - 1) + 1 := by unfold lf; omega
  unfold VV VB
  rw [l, VN, if_neg (by rw [ho]; decide)]
  refine congrArg Prod.fst (bo_cg 52 _ 0 (fun x x0 x1 => ⟨rfl, fun hx => ?_⟩))
  have r := lg_rg hw ⟨x0, by omega⟩ hx
  have e := lf_pl hw r.1 r.2.1
  show gn q w x + VN q (lf w - 1) (rPlays w x) = gn q w x + VV q (rPlays w x)
  unfold VV
  rw [show lf w - 1 = lf (rPlays w x) by omega]
theorem VN_ev (q : Int) : ∀ (n : Nat) (w w' : Int → Int), EV w w' → RI w → RI w' → VN q n w' = VN q n w
  | 0, _, _, _, _, _ => rfl
  | n + 1, w, w', e, hw, hw' => by
    rw [VN, VN, e.ov, e.tn]
    by_cases ho : wOv w = true
    · rw [if_pos ho, if_pos ho]
    · rw [if_neg ho, if_neg ho]
      refine congrArg Prod.fst (bo_cg 52 _ 0 (fun x x0 x1 => ⟨e.lg hw ⟨x0, by omega⟩, fun hx => ?_⟩))
      have r := lg_rg hw ⟨x0, by omega⟩ hx
      have e0 : w' 0 = w 0 := e.1 0 (by omega) (by omega)
      have py := e.py hw hw' r.1 r.2.1
      have ih := VN_ev q n _ _ py (RI_plays hw r.1 r.2.1 r.2.2) (RI_plays hw' (by rw [e.ov]; exact r.1) (by rw [e0]; exact r.2.1) (by unfold wHd at r ⊢; rw [e.2.1 x x0 (by omega), e.tn]; exact r.2.2))
      show gn q w' x + VN q n (rPlays w' x) = gn q w x + VN q n (rPlays w x)
      rw [ih]
      unfold gn
      rw [e.pl, e.1 1 (by omega) (by omega), py.1 9 (by omega) (by omega)]
theorem VV_ev (e : EV w w') (hw : RI w) (hw' : RI w') : VV q w' = VV q w := by
  have l : lf w' = lf w := by
    unfold lf
    rw [e.1 1 (by omega) (by omega), e.1 2 (by omega) (by omega), e.1 12 (by omega) (by omega)]
  unfold VV
  rw [l]
  exact VN_ev q _ w w' e hw hw'
end VS
