/-! SURE: the reference's search, from its root -/
section SQ
variable {w u : Int → Int} {q n : Int} {σ τ : zt_S}
theorem em_searches (hw : RI (σ.1 164)) (ho : wOv (σ.1 164) = false) (h12 : (σ.1 164 1 * σ.1 164 2) - σ.1 164 12 ≤ 12) : ∃ τ, F_M_searches σ = some ((VB (wTn (σ.1 164)) (σ.1 164)).1, τ) ∧ τ.1 163 29 = (VB (wTn (σ.1 164)) (σ.1 164)).2 ∧ EV (σ.1 164) (τ.1 164) ∧ FW (σ.1 164) (τ.1 164) ∧ (∀ x j, x ≠ 164 → (x < 170 ∨ 179 < x) → (x ≠ 163 ∨ (j ≠ 28 ∧ j ≠ 29)) → τ.1 x j = σ.1 x j) ∧ τ.2 = σ.2 := by
  have hp := hw.pi
  have a := hw.n
  have pl := hw.pl
  have t := wTn_lt hw
  have t0 := t.2.2 ho
  obtain ⟨w, hwe⟩ : ∃ w, w = σ.1 164 := ⟨_, rfl⟩
  obtain ⟨s, hs⟩ : ∃ s, s = zt_up σ 163 28 (wTn (σ.1 164)) := ⟨_, rfl⟩
  have s164 : s.1 164 = w := by rw [hs, up_f (by decide), hwe]
  rw [← hwe] at hp a pl t t0 ho hw h12 hs ⊢
  obtain ⟨τ1, o1, o2, o3, o4, o5⟩ := em_opens (σ := s) (d := 0) (lo := -1) (hi := 100) (q := wTn w) (by omega) (by rw [s164]; exact hp) (by rw [hs, up_s]) (by omega)
  rw [s164] at o2 o3
  rw [if_pos rfl] at o3
  have k12 : lf w ≤ 12 := by unfold lf; omega
  have tm := TT_mono 12 (lf w) k12
  have mu : (4 * w 0).toNat * (TT (lf w) + 3) ≤ 52 * (TT 12 + 3) := Nat.mul_le_mul (by omega) (by omega)
  have t13 := TT_13
  obtain ⟨f', τ', u', nx, r, g1, g2, g3, g4, g5, g6, g7, g8, g9, g10, g11, g12⟩ := nod (q := wTn w) (by omega) (lf w) (4 * w 0).toNat w w 0 (-1) 100 1 zt_N 0 (-1) (-1, -1) τ1 hw ho rfl EV.rf o2 (by omega) (if_pos rfl).symm o3 (by rw [o4 163 28 (by omega), hs, up_s]) (by omega) (by omega) (by omega) (by omega) rfl (Or.inl ⟨rfl, rfl⟩) (fun _ => ⟨rfl, rfl, rfl, Or.inl rfl⟩)
  subst g3
  have e0 := g4.1 0 (by omega) (by omega)
  have r1 := g12 rfl
  have nx2 : F_M_nextLegal (τ'.1 173 0) τ' = some (4 * w 0, τ') := by
    rw [g6.2.2.2.1, em_nextLegal (g4.pi hp) ⟨g7.1, by rw [e0]; exact g7.2⟩, e0, nl_lg _ _ (fun y a b' => g4.lg hw ⟨by omega, by omega⟩), g8]
  have cd : F_M_cards τ' = some (4 * w 0, τ') := by unfold F_M_cards; rw [e0]
  refine ⟨τ', ?_, r1.2, g4, g5, fun x j a1 a2 a3 => ?_, ?_⟩
  · unfold F_M_searches
    rw [pb_turn (by rw [← hwe]; exact hp), zt_letS, ← hwe, ← hs, o1, zt_bdS, g1, F_M_searches_18, zt_ckI (by omega), nx2, zt_bdS, cd, zt_bdS, zt_ckI ⟨by unfold zt_in; omega, by unfold zt_in; omega⟩, if_neg (by omega), zt_ckI (by decide), if_pos rfl, g6.2.2.2.2, r1.1]
  · rw [g11.1 x j a1 (by omega) (by omega), o4 x j (by omega), hs, up_o (by omega)]
  · rw [g11.2.2, o5, hs]; rfl
/-- what the search leaves keeps what holds of the row -/
theorem FW.ri (f : FW w u) (e : EV w u) (h : RI w) : RI u := by
  have n := h.n
  have pl := h.pl
  have p12 := h.p12
  have p13 := h.p13
  have hp := e.pi h.pi
  have e1 := e.1 1 (by omega) (by omega)
  have e0 := e.1 0 (by omega) (by omega)
  have e2 := e.1 2 (by omega) (by omega)
  have e9 := e.1 9 (by omega) (by omega)
  have e12 := e.1 12 (by omega) (by omega)
  have e13 := e.1 13 (by omega) (by omega)
  obtain ⟨h1, h2, h3, h4, h5, h6, h7, h8, h9, h10, h11⟩ := id h
  refine ⟨hp.n, hp.pl, ?_, fun p p0 p1 => ?_, fun p p0 p1 => ?_, fun k k0 k1 => ?_, fun c c0 c1 => ?_, fun k k0 k1 => ?_, fun j k j0 jk k1 => ?_, fun t t0 t1 => ?_, fun p p0 p1 => ?_⟩
  · rw [f 14 (by omega) (by omega) (by omega) (by omega)]; exact h3
  · rw [f (16 + p) (by omega) (by omega) (by omega) (by omega)]; exact h4 p p0 p1
  · rw [f (20 + p) (by omega) (by omega) (by omega) (by omega)]; exact h5 p p0 p1
  · rw [f (24 + k) (by omega) (by omega) (by omega) (by omega)]; exact h6 k k0 k1
  · rw [e.2.1 c c0 c1, e1, e0]; exact h7 c c0 c1
  · rw [e12] at k1
    have g := h8 k k0 k1
    rw [f (92 + k) (by omega) (by omega) (by omega) (by omega), f (144 + k) (by omega) (by omega) (by omega) (by omega), e0, e1, e.2.1 _ g.1 (by omega)]
    exact g
  · rw [e12] at k1
    rw [f (92 + j) (by omega) (by omega) (by omega) (by omega), f (92 + k) (by omega) (by omega) (by omega) (by omega)]
    exact h9 j k j0 jk k1
  · rw [e13] at t1
    have g := h10 t t0 t1
    rw [f (196 + 6 * t) (by omega) (by omega) (by omega) (by omega), f (196 + 6 * t + 1) (by omega) (by omega) (by omega) (by omega), f (196 + 6 * t + 2) (by omega) (by omega) (by omega) (by omega), f (196 + 6 * t + 3) (by omega) (by omega) (by omega) (by omega), f (196 + 6 * t + 4) (by omega) (by omega) (by omega) (by omega), f (196 + 6 * t + 5) (by omega) (by omega) (by omega) (by omega), e1, e0]
    exact g
  · rw [e1] at p1
    rw [e1, e2, e13, e9, e.pl, ← h11 p p0 p1]
    unfold wHc
    exact cn_congr _ _ (fun c c0 c1 => by unfold wHd; rw [e.2.1 c c0 (by omega)])
theorem FW.rb (f : FW w u) (e : EV w u) (hw : RI w) (h : RB n w) : RB n u := by
  have pl := hw.pl
  unfold RB at h ⊢
  rw [f 14 (by omega) (by omega) (by omega) (by omega)]
  refine ⟨h.1, fun p p0 p1 => ?_⟩
  rw [f (20 + p) (by omega) (by omega) (by omega) (by omega)]
  exact h.2 p p0 p1
theorem FW.tb {t : Nat} (f : FW w u) (e : EV w u) (h : RI w) (g : TB σ t w) : TB σ t u := by
  have n := h.n
  have pl := h.pl
  have wp := h.wpl
  have p12 := h.p12
  have p13 := h.p13
  have bp := wBp_lt h
  obtain ⟨⟨⟨k1, k2, k3, k4⟩, ⟨k5, k6, k7⟩, k8, k9⟩, g2, g3, g4, g5, g6, g7⟩ := g
  have e0 := e.1 0 (by omega) (by omega)
  have e1 := e.1 1 (by omega) (by omega)
  have e9 := e.1 9 (by omega) (by omega)
  have e12 := e.1 12 (by omega) (by omega)
  have e13 := e.1 13 (by omega) (by omega)
  have ebp := e.bp wp.1
  have epn := fun c => e.pn wp.1 c
  refine ⟨⟨⟨?_, ?_, ?_, ?_⟩, ⟨?_, ?_, ?_⟩, ?_, ?_⟩, fun p c p0 p1 c0 c1 => ?_, fun p p0 p1 => ?_, fun k k0 k1 => ?_, fun k k0 k1 => ?_, fun c c0 c1 => ?_, ?_⟩
  · rw [e9]; exact k1
  · rw [e9, e.pl, e1]; exact k2
  · rw [e.pl]; exact k3
  · rw [e.ld wp.1]; exact k4
  · rw [e.pl, ebp, epn, k5]
    by_cases z : wPl w = 0
    · rw [if_pos z, if_pos z]
    · rw [if_neg z, if_neg z, e.2.2 _ (bp.2.2.1 (by omega)).1 (bp.2.2.1 (by omega)).2]
  · rw [e.pl, ebp, k6]
    by_cases z : wPl w = 0
    · rw [if_pos z, if_pos z]
    · rw [if_neg z, if_neg z, e.2.2 _ (bp.2.2.1 (by omega)).1 (bp.2.2.1 (by omega)).2]
  · rw [e.pl, ebp, e9, e1]; exact k7
  · rw [e.1 10 (by omega) (by omega)]; exact k8
  · rw [e.1 11 (by omega) (by omega)]; exact k9
  · rw [g2 p c p0 p1 c0 c1, e0]
    by_cases z : c < 52
    · unfold wHd
      rw [e.2.1 c c0 z]
    · rw [Bool.eq_iff_iff, decide_eq_true_eq, decide_eq_true_eq]
      constructor
      · intro y; omega
      · intro y; omega
  · have g := g3 p p0 p1
    have tk : wTk u p = wTk w p := by
      unfold wTk
      rw [e13]
      exact cn_congr _ _ (fun c c0 c1 => by rw [f (196 + 6 * c + 1) (by omega) (by omega) (by omega) (by omega)])
    have lk : wLk u p = wLk w p := by
      unfold wLk
      rw [f (24 + 4 * p) (by omega) (by omega) (by omega) (by omega), f (24 + 4 * p + 1) (by omega) (by omega) (by omega) (by omega), f (24 + 4 * p + 2) (by omega) (by omega) (by omega) (by omega), f (24 + 4 * p + 3) (by omega) (by omega) (by omega) (by omega)]
    rw [tk, lk, f (16 + p) (by omega) (by omega) (by omega) (by omega), f (20 + p) (by omega) (by omega) (by omega) (by omega)]
    exact g
  · rw [e12] at k1
    rw [f (92 + k) (by omega) (by omega) (by omega) (by omega), f (144 + k) (by omega) (by omega) (by omega) (by omega)]
    exact g4 k k0 k1
  · rw [e13] at k1
    rw [f (196 + k) (by omega) (by omega) (by omega) (by omega)]
    exact g5 k k0 k1
  · rw [g6 c c0 c1]
    unfold wPy
    have y : cn (fun k => decide (u (92 + k) = c)) 0 (u 12).toNat = cn (fun k => decide (w (92 + k) = c)) 0 (w 12).toNat := by
      rw [e12]
      exact cn_congr _ _ (fun k k0 k1 => by rw [f (92 + k) (by omega) (by omega) (by omega) (by omega)])
    rw [y]
  · rw [e.1 3 (by omega) (by omega), e.1 6 (by omega) (by omega), e.1 7 (by omega) (by omega), e.1 4 (by omega) (by omega), e.1 8 (by omega) (by omega), e12, e13, f 14 (by omega) (by omega) (by omega) (by omega)]
    exact g7
/-- behind both searches all stands -/
theorem Inv.se {σ1 σ2 : zt_S} (h : Inv n σ) (s1 : SX (n + 1) σ1) (f1 : ∀ c j, (c < 144 ∨ 160 < c) → σ1.1 c j = σ.1 c j) (f2 : ∀ c j, c ≠ 144 → c ≠ 147 → σ1.2.1 c j = σ.2.1 c j) (f3 : σ1.2.2 = σ.2.2) (ev : EV (σ.1 164) (σ2.1 164)) (fw : FW (σ.1 164) (σ2.1 164)) (k1 : ∀ x j, x ≠ 164 → (x < 170 ∨ 179 < x) → (x ≠ 163 ∨ (j ≠ 0 ∧ j ≠ 28 ∧ j ≠ 29)) → σ2.1 x j = σ1.1 x j) (k2 : σ2.2 = σ1.2) : Inv (n + 1) σ2 := by
  obtain ⟨h1, h2, h3, h4, h5, h6, h7, h8, h9⟩ := h
  have ri := fw.ri ev h1.1
  have c1 : ∀ c j, (c < 144 ∨ 160 < c) → c ≠ 164 → (c < 170 ∨ 179 < c) → (c ≠ 163 ∨ (j ≠ 0 ∧ j ≠ 28 ∧ j ≠ 29)) → σ2.1 c j = σ.1 c j := fun c j a b d e => by rw [k1 c j b d e, f1 c j a]
  have c2 : ∀ c j, c ≠ 144 → c ≠ 147 → σ2.2.1 c j = σ.2.1 c j := fun c j a b => by rw [k2, f2 c j a b]
  have e0 : ∀ j, (j = 0 ∨ j = 1 ∨ j = 2 ∨ j = 5) → σ2.1 164 j = σ.1 164 j := fun j hj => ev.1 j (by omega) (by omega)
  refine ⟨⟨ri, (fw.tb ev h1.1 h1.2.1).ag (fun c j a b => c1 c j (by omega) (by omega) (by omega) (by omega)) (fun c j a b => c2 c j (by omega) (by omega)), ?_⟩, (fw.rb ev h1.1 h2).up (by omega), h3.ag (by omega) (fun c j a b => c1 c j (by omega) (by omega) (by omega) (by omega)) (fun c j a b => c2 c j (by omega) (by omega)) (c1 _ _ (by omega) (by omega) (by omega) (by omega)) (fun j => c1 _ _ (by omega) (by omega) (by omega) (by omega)) e0, h4.ag (by omega) (fun c j a b => c1 c j (by omega) (by omega) (by omega) (by omega)) (fun c j a b => c2 c j (by omega) (by omega)) (c1 _ _ (by omega) (by omega) (by omega) (by omega)) (c1 _ _ (by omega) (by omega) (by omega) (by omega)) (fun j => c1 _ _ (by omega) (by omega) (by omega) (by omega)) e0, h5.ag (c1 _ _ (by omega) (by omega) (by omega) (by omega)) (c1 _ _ (by omega) (by omega) (by omega) (by omega)) (fun j => c1 _ _ (by omega) (by omega) (by omega) (by omega)) (fun j => c1 _ _ (by omega) (by omega) (by omega) (by omega)), h6.ag (c1 _ _ (by omega) (by omega) (by omega) (by omega)) (c1 _ _ (by omega) (by omega) (by omega) (by omega)), h7.ag (fun c j a b => c1 c j (by omega) (by omega) (by omega) (by omega)) (c1 _ _ (by omega) (by omega) (by omega) (by omega)) (fun j => c1 _ _ (by omega) (by omega) (by omega) (by omega)), s1.ag (by omega) (fun c j a b => by rw [k2]), by rw [k2, f3]; omega⟩
  have g := h1.2.2
  unfold SUw at g ⊢
  rw [e0 0 (by omega), e0 1 (by omega), e0 2 (by omega), e0 5 (by omega), c1 3 0 (by omega) (by omega) (by omega) (by omega), c1 3 1 (by omega) (by omega) (by omega) (by omega), c1 3 2 (by omega) (by omega) (by omega) (by omega), c1 3 3 (by omega) (by omega) (by omega) (by omega)]
  exact g
theorem nh_in (h : RI w) : (w 1 * w 2) - w 12 = nh w := (nh_left h).symm
/-- sure: both answer alike -/
theorem owe_sure : OWE F_C_sure F_M_sure := by
  intro n σ h n0 n1
  have hc := h.1
  have a := hc.1.n
  have p12 := hc.1.p12
  have pl := hc.1.pl
  have op := e_open hc
  have cl := cn_le (fun c => decide (¬ wHd (σ.1 164) c = -1)) 52 0
  have cv : 0 ≤ nh (σ.1 164) ∧ nh (σ.1 164) ≤ 52 := ⟨cl.1, cl.2⟩
  have nhe := nh_in hc.1
  have r1 : ∀ s : zt_S, (zt_up s 163 0 0).1 164 = s.1 164 := fun s => up_f (by decide)
  by_cases z : wOv (σ.1 164) = false ∧ nh (σ.1 164) ≤ 12
  · rw [if_pos z] at op
    obtain ⟨σ1, m1, m2, m3, m4, m5, m6⟩ := e_most h ⟨n0, n1⟩ z.1 z.2
    have w1 : σ1.1 164 = σ.1 164 := funext fun j => m4 164 j (by omega)
    have w2 : (zt_up σ1 163 0 0).1 164 = σ.1 164 := by rw [r1, w1]
    obtain ⟨τ, s1, s2, s3, s4, s5, s6⟩ := em_searches (σ := zt_up σ1 163 0 0) (by rw [w2]; exact hc.1) (by rw [w2]; exact z.1) (by rw [w2, nhe]; exact z.2)
    rw [w2] at s1 s2 s3 s4
    have vi := VV_in (q := wTn (σ.1 164)) hc.1
    refine ⟨VV (wTn (σ.1 164)) (σ.1 164), σ1, τ, ?_, ?_, by unfold zt_in; omega, h.se m3 m4 m5 m6 s3 s4 (fun x j b1 b2 b3 => by rw [s5 x j b1 b2 (by omega), up_o (by omega)]) (by rw [s6, up_2])⟩
    · unfold F_C_sure F_C_sure_21
      rw [op, zt_bdS, zt_ckI (by decide), if_neg (by decide), m1, zt_bdS]
    · unfold F_M_sure F_M_sure_29 F_M_inHands
      rw [zt_letS, eb_isOver_f (by rw [w2]; exact hc.1) (by rw [w2, z.1]; decide), zt_ckI (by decide), if_pos rfl, zt_bdS, w2, nhe, zt_ckI (by unfold zt_in; omega), if_neg (by omega), s1, zt_bdS, VV_eq hc.1 z.1]
  · rw [if_neg z] at op
    refine ⟨-1, σ, zt_up σ 163 0 0, ?_, ?_, by decide, h.q (fun c j hj => up_o hj) (fun _ _ _ => rfl) (Nat.le_succ _)⟩
    · unfold F_C_sure F_C_sure_21
      rw [op, zt_bdS, zt_ckI (by decide), if_pos rfl]
    · unfold F_M_sure F_M_sure_21 F_M_sure_29 F_M_inHands
      rw [zt_letS]
      by_cases y : wOv (σ.1 164) = true
      · rw [eb_isOver_t (by rw [r1]; exact hc.1) (by rw [r1]; exact y), zt_ckI (by decide), if_neg (by decide)]
      · rw [eb_isOver_f (by rw [r1]; exact hc.1) (by rw [r1]; exact y), zt_ckI (by decide), if_pos rfl, zt_bdS, r1, nhe, zt_ckI (by unfold zt_in; omega), if_pos (by
          rcases Int.lt_or_le 12 (nh (σ.1 164)) with x | x
          · exact x
          · exact absurd ⟨Bool.eq_false_iff.mpr y, x⟩ z)]
/-- the card that is sure: both answer alike -/
theorem owe_sureCard : OWE F_C_sureCard F_M_sureCard := by
  intro n σ h n0 n1
  have hc := h.1
  have a := hc.1.n
  have p12 := hc.1.p12
  have pl := hc.1.pl
  have op := e_open hc
  have cl := cn_le (fun c => decide (¬ wHd (σ.1 164) c = -1)) 52 0
  have cv : 0 ≤ nh (σ.1 164) ∧ nh (σ.1 164) ≤ 52 := ⟨cl.1, cl.2⟩
  have nhe := nh_in hc.1
  have r1 : ∀ s : zt_S, (zt_up s 163 0 0).1 164 = s.1 164 := fun s => up_f (by decide)
  by_cases z : wOv (σ.1 164) = false ∧ nh (σ.1 164) ≤ 12
  · rw [if_pos z] at op
    obtain ⟨σ1, m1, m2, m3, m4, m5, m6⟩ := e_most h ⟨n0, n1⟩ z.1 z.2
    have w1 : σ1.1 164 = σ.1 164 := funext fun j => m4 164 j (by omega)
    have w2 : (zt_up σ1 163 0 0).1 164 = σ.1 164 := by rw [r1, w1]
    obtain ⟨τ, s1, s2, s3, s4, s5, s6⟩ := em_searches (σ := zt_up σ1 163 0 0) (by rw [w2]; exact hc.1) (by rw [w2]; exact z.1) (by rw [w2, nhe]; exact z.2)
    rw [w2] at s1 s2 s3 s4
    have vi : -1 ≤ (VB (wTn (σ.1 164)) (σ.1 164)).2 ∧ (VB (wTn (σ.1 164)) (σ.1 164)).2 < 52 := by
      unfold VB
      have key : ∀ (own : Bool) (lg : Int → Bool) (f : Int → Int) (m : Nat) (x : Int × Int) (c : Int), 0 ≤ c → c + m ≤ 52 → -1 ≤ x.2 ∧ x.2 < 52 → -1 ≤ (bo own lg f m x c).2 ∧ (bo own lg f m x c).2 < 52 := by
        intro own lg f m
        induction m with
        | zero => intro x c c0 c1 hx; exact hx
        | succ m ih =>
          intro x c c0 c1 hx
          rw [bo]
          split
          · split
            · exact ih _ _ (by omega) (by omega) ⟨by show -1 ≤ c; omega, by show c < 52; omega⟩
            · exact ih _ _ (by omega) (by omega) hx
          · exact ih _ _ (by omega) (by omega) hx
      exact key _ _ _ 52 (-1, -1) 0 (by omega) (by omega) ⟨by decide, by decide⟩
    refine ⟨(VB (wTn (σ.1 164)) (σ.1 164)).2, σ1, τ, ?_, ?_, by unfold zt_in; omega, h.se m3 m4 m5 m6 s3 s4 (fun x j b1 b2 b3 => by rw [s5 x j b1 b2 (by omega), up_o (by omega)]) (by rw [s6, up_2])⟩
    · unfold F_C_sureCard
      rw [op, zt_bdS, zt_ckI (by decide), if_neg (by decide), m1, zt_bdS, m2]
    · unfold F_M_sureCard F_M_inHands
      rw [zt_letS, eb_isOver_f (by rw [w2]; exact hc.1) (by rw [w2, z.1]; decide), zt_ckI (by decide), if_pos rfl, zt_bdS, w2, nhe, zt_ckI (by unfold zt_in; omega), if_neg (by omega), s1, zt_bdS, s2]
  · rw [if_neg z] at op
    refine ⟨-1, σ, zt_up σ 163 0 0, ?_, ?_, by decide, h.q (fun c j hj => up_o hj) (fun _ _ _ => rfl) (Nat.le_succ _)⟩
    · unfold F_C_sureCard
      rw [op, zt_bdS, zt_ckI (by decide), if_pos rfl]
    · unfold F_M_sureCard F_M_sureCard_21 F_M_inHands
      rw [zt_letS]
      by_cases y : wOv (σ.1 164) = true
      · rw [eb_isOver_t (by rw [r1]; exact hc.1) (by rw [r1]; exact y), zt_ckI (by decide), if_neg (by decide)]
      · rw [eb_isOver_f (by rw [r1]; exact hc.1) (by rw [r1]; exact y), zt_ckI (by decide), if_pos rfl, zt_bdS, r1, nhe, zt_ckI (by unfold zt_in; omega), if_pos (by
          rcases Int.lt_or_le 12 (nh (σ.1 164)) with x | x
          · exact x
          · exact absurd ⟨Bool.eq_false_iff.mpr y, x⟩ z)]
end SQ
