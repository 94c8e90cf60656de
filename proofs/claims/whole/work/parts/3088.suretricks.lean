section SH
variable {w : Int → Int} {σ τ : zt_S} {n : Int}
theorem nh_left (hw : RI w) : nh w = w 1 * w 2 - w 12 := by
  have a := hw.n
  have pl := hw.wpl
  have d := hw.2.2.2.2.2.2.1
  have h := hw.2.2.2.2.2.2.2.2.2.2
  have s := hc_sum (r := w) (fun c c0 c1 => by have := d c c0 c1; omega)
  have sn : nh w = wHc w 0 + wHc w 1 + wHc w 2 + wHc w 3 := s.symm
  have out : ∀ q, w 1 ≤ q → wHc w q = 0 := fun q hq => by
    unfold wHc wHd
    exact cn_none _ _ (fun c c0 c1 => decide_eq_false (by have := d c c0 (by omega); omega))
  have e : wPl w = w 12 - w 13 * w 1 := rfl
  have w9 := a.2.2.2.2.2.2.2.2.2.2.1
  have q : w 1 = 2 ∨ w 1 = 3 ∨ w 1 = 4 := by omega
  have q9 : w 9 = 0 ∨ w 9 = 1 ∨ w 9 = 2 ∨ w 9 = 3 := by omega
  rcases q with q | q | q
  · have h0 := h 0 (by omega) (by omega)
    have h1 := h 1 (by omega) (by omega)
    have h2 := out 2 (by omega)
    have h3 := out 3 (by omega)
    rw [q] at h0 h1 e pl w9 ⊢
    rcases q9 with q9 | q9 | q9 | q9 <;> rw [q9] at h0 h1 w9 <;> simp only [Int.reduceAdd, Int.reduceSub, Int.reduceMod, Int.reduceNeg] at h0 h1 <;> (split at h0 <;> split at h1 <;> omega)
  · have h0 := h 0 (by omega) (by omega)
    have h1 := h 1 (by omega) (by omega)
    have h2 := h 2 (by omega) (by omega)
    have h3 := out 3 (by omega)
    rw [q] at h0 h1 h2 e pl w9 ⊢
    rcases q9 with q9 | q9 | q9 | q9 <;> rw [q9] at h0 h1 h2 w9 <;> simp only [Int.reduceAdd, Int.reduceSub, Int.reduceMod, Int.reduceNeg] at h0 h1 h2 <;> (split at h0 <;> split at h1 <;> split at h2 <;> omega)
  · have h0 := h 0 (by omega) (by omega)
    have h1 := h 1 (by omega) (by omega)
    have h2 := h 2 (by omega) (by omega)
    have h3 := h 3 (by omega) (by omega)
    rw [q] at h0 h1 h2 h3 e pl w9 ⊢
    rcases q9 with q9 | q9 | q9 | q9 <;> rw [q9] at h0 h1 h2 h3 w9 <;> simp only [Int.reduceAdd, Int.reduceSub, Int.reduceMod, Int.reduceNeg] at h0 h1 h2 h3 <;> (split at h0 <;> split at h1 <;> split at h2 <;> split at h3 <;> omega)
theorem all_hands (hc : CO σ) (hh : ∀ c j, τ.2.1 c j = σ.2.1 c j ∨ c = 144) : ∃ v, F_Tb_allHands 6 τ = some (v, τ) ∧ MK (σ.1 164) v := by
  have a := hc.1.n
  obtain ⟨v, g1, g2⟩ := ec_all_4 (t := 6) (σ := τ) 4 zt_N 0 0 (by omega) (zN (by omega)) (by omega)
  refine ⟨v, g1, fun c c0 c1 => ?_⟩
  have e : ∀ q, τ.2.1 (6 + 2) q = σ.2.1 (6 + 2) q := fun q => by
    rcases hh (6 + 2) q with z | z
    · exact z
    · exact absurd z (by decide)
  have b := fun q q0 q1 => hc.2.1.2.1 q c q0 q1 c0 c1
  rw [Bool.eq_iff_iff, decide_eq_true_eq, g2 c]
  constructor
  · rintro (z | ⟨q, q0, q1, z⟩)
    · rw [hb_0] at z; exact absurd z (by decide)
    · rw [e, b q q0 q1, decide_eq_true_eq] at z
      exact ⟨z.1, by omega⟩
  · rintro ⟨z1, z2⟩
    have d := hc.1.hd c0 (by omega)
    exact Or.inr ⟨wHd (σ.1 164) c, by omega, by omega, by rw [e, b _ (by omega) (by omega)]; exact decide_eq_true ⟨z1, rfl⟩⟩
theorem MK.cnt {v : Int64} (hw : RI w) (h : MK w v) : cn (hb v) 0 64 = nh w := by
  have n := hw.n
  have e : cn (hb v) 0 64 = _ := cn_app _ 12 52 0
  rw [show (64 : Nat) = 52 + 12 from rfl, e, cn_none (P := hb v) 12 (0 + ((52 : Nat) : Int)) (fun c h0 h1 => by rw [h c (by omega) (by omega)]; exact decide_eq_false (by omega)), Int.add_zero]
  unfold nh
  refine cn_congr _ _ (fun c h0 h1 => ?_)
  have d := hw.hd h0 (by omega)
  rw [h c h0 (by omega)]
  by_cases x : wHd w c = -1
  · rw [decide_eq_false (fun z => z.2 x), decide_eq_false (fun z => z x)]
  · rw [decide_eq_true ⟨by omega, x⟩, decide_eq_true x]
/-- is it open to a search? -/
theorem e_open (hc : CO σ) : F_SS_isOpen σ = some (if wOv (σ.1 164) = false ∧ nh (σ.1 164) ≤ 12 then 1 else 0, σ) := by
  have a := hc.1.n
  obtain ⟨v, g1, g2⟩ := all_hands (τ := σ) hc (fun _ _ => Or.inl rfl)
  have cl := cn_le (fun c => decide (¬ wHd (σ.1 164) c = -1)) 52 0
  have cv : 0 ≤ nh (σ.1 164) ∧ nh (σ.1 164) ≤ 52 := ⟨cl.1, cl.2⟩
  unfold F_SS_isOpen F_SS_isOpen_29 F_SS_isOpen_30
  by_cases ho : wOv (σ.1 164) = true
  · rw [ed_isOver_t hc.hu hc.1 hc.2.1 ho, zt_ckI (by decide), if_neg (by decide), zt_ckI (Or.inl rfl), if_neg (fun z => by rw [ho] at z; exact absurd z.1 (by decide))]
  · have ho' : wOv (σ.1 164) = false := Bool.eq_false_iff.mpr ho
    rw [ed_isOver_f hc.hu hc.1 hc.2.1 ho, zt_ckI (by decide), if_pos rfl, g1, zt_bdS, be_bitCount, g2.cnt hc.1, zt_ckI (by unfold zt_in; omega)]
    by_cases z : 12 < nh (σ.1 164)
    · rw [if_pos z, zt_ckI (Or.inl rfl), if_neg (by omega)]
    · rw [if_neg z, zt_ckI (Or.inr rfl), if_pos ⟨ho', by omega⟩]
theorem i64_1 {S : Int64} (h : 0 ≤ S.toInt ∧ S.toInt < 1000000) : (S + 1).toInt = S.toInt + 1 := by
  rw [Int64.toInt_add, show (1 : Int64).toInt = 1 from rfl]
  unfold Int.bmod
  dsimp only
  split <;> omega
theorem e_most (h : Inv n σ) (hn : 0 ≤ n ∧ n ≤ 1000) (ho : wOv (σ.1 164) = false) (h12 : nh (σ.1 164) ≤ 12) : ∃ σ', F_SS_mostTricks σ = some (VV (wTn (σ.1 164)) (σ.1 164), σ') ∧ σ'.1 144 8 = (VB (wTn (σ.1 164)) (σ.1 164)).2 ∧ SX (n + 1) σ' ∧ (∀ c j, (c < 144 ∨ 160 < c) → σ'.1 c j = σ.1 c j) ∧ (∀ c j, c ≠ 144 → c ≠ 147 → σ'.2.1 c j = σ.2.1 c j) ∧ σ'.2.2 = σ.2.2 := by
  obtain ⟨hc, h2, h3, h4, h5, h6, h7, h8, h9⟩ := id h
  obtain ⟨w, hwe⟩ : ∃ w, w = σ.1 164 := ⟨_, rfl⟩
  have hw := hc.1
  rw [← hwe] at hw ho h12 ⊢
  have a := hw.n
  have t := wTn_lt hw
  have t0 := t.2.2 ho
  have nl := nh_left hw
  obtain ⟨σ1, c1, c2, c3, c4⟩ := e_TrCopy (σ := σ) (k0 := 148) (k1 := 7) (by omega)
  have tk7 : TK σ 7 w := by rw [hwe]; exact hc.2.1.1
  have tk1 : TK σ1 148 w := tk7.cp c4
  have k1 : σ1.1 148 1 = wTn w := by rw [tk1.1.2.1, tn_pl ho]
  obtain ⟨S, hS⟩ : ∃ S, S = σ.2.1 144 5 + 1 := ⟨_, rfl⟩
  have s1 : σ1.2.1 144 5 = σ.2.1 144 5 := by rw [c2]
  have Sv : S.toInt = (σ.2.1 144 5).toInt + 1 := by rw [hS]; exact i64_1 (by have := h8.1; omega)
  obtain ⟨σ2, hσ2⟩ : ∃ x, x = zt_uL (zt_up (zt_up σ1 144 7 (wTn w)) 144 8 (-1)) 144 5 S := ⟨_, rfl⟩
  obtain ⟨v, g1, g2⟩ := all_hands (τ := σ2) hc (fun c j => by
    by_cases z : c = 144
    · exact Or.inr z
    · left; rw [hσ2, uL_o (Or.inl z), up_2, up_2, c2])
  rw [← hwe] at g2
  have e2 : ∀ c j, (c ≠ 144 ∨ (j ≠ 7 ∧ j ≠ 8)) → c ≠ 148 → σ2.1 c j = σ.1 c j := fun c j h1 h2 => by rw [hσ2, uL_1, up_o (by omega), up_o (by omega), c3 c j h2]
  have l2 : ∀ c j, (c ≠ 144 ∨ j ≠ 5) → σ2.2.1 c j = σ.2.1 c j := fun c j h1 => by rw [hσ2, uL_o h1, up_2, up_2, c2]
  obtain ⟨σ3, hσ3⟩ : ∃ x, x = zt_up σ2 144 6 0 := ⟨_, rfl⟩
  have su3 : SUw σ3 3 w := by
    have q := hc.2.2
    unfold SUw at q ⊢
    rw [hσ3, up_o (by omega), up_o (by omega), up_o (by omega), up_o (by omega), e2 _ _ (by omega) (by omega), e2 _ _ (by omega) (by omega), e2 _ _ (by omega) (by omega), e2 _ _ (by omega) (by omega), hwe]
    exact q
  have cut : cn (fun c => decide (¬ wHd w c = -1)) 0 (4 * w 0).toNat ≤ 12 := by
    have e := cn_app (fun c => decide (¬ wHd w c = -1)) (52 - (4 * w 0)).toNat (4 * w 0).toNat 0
    rw [show (4 * w 0).toNat + (52 - (4 * w 0)).toNat = 52 by omega] at e
    have cl := cn_le (fun c => decide (¬ wHd w c = -1)) (52 - (4 * w 0)).toNat (0 + (((4 * w 0).toNat : Nat) : Int))
    unfold nh at h12
    omega
  have x36 : σ3.1 144 6 = 0 := by rw [hσ3, up_s]
  obtain ⟨σ4, b1, b2, b3, b4, b5, b6, b7⟩ := e_list_7 su3 a.1 g2 cut (4 * w 0).toNat zt_N 0 σ3 (by omega) (zN (by omega)) (by omega) (fun _ _ _ _ => rfl) rfl (by rw [x36]; rfl) (fun i i0 i1 => by omega) (fun x x0 x1 => by omega) (fun i j _ _ e => by omega)
  have e4 : ∀ c j, (c ≠ 144 ∨ (j ≠ 6 ∧ j ≠ 7 ∧ j ≠ 8)) → c ≠ 146 → c ≠ 148 → σ4.1 c j = σ.1 c j := fun c j h1 h2 h3 => by rw [b2 c j (by omega) h2, hσ3, up_o (by omega), e2 c j (by omega) h3]
  have l4 : ∀ c j, (c ≠ 144 ∨ j ≠ 5) → σ4.2.1 c j = σ.2.1 c j := fun c j h1 => by rw [b3, hσ3, up_2, l2 c j h1]
  have m5 : σ4.2.1 144 5 = S := by rw [b3, hσ3, up_2, hσ2, uL_s]
  have tt := hc.2.1.2.2.2.2.2.2
  rw [← hwe] at tt
  have ls : sLS σ4 w := ⟨b4, b5, fun c c0 c1 hx => by
    have d := hw.hd c0 c1
    exact b6 c c0 (by omega) hx, b7⟩
  have gl : GL w (wTn w) S σ4 := by
    refine ⟨?_, ?_, ?_, ?_, ?_, m5, fun p c p0 p1 c0 c1 => ?_, ls⟩
    · have q := su3
      unfold SUw at q ⊢
      rw [b2 _ _ (by omega) (by omega), b2 _ _ (by omega) (by omega), b2 _ _ (by omega) (by omega), b2 _ _ (by omega) (by omega)]
      exact q
    · rw [e4 _ _ (by omega) (by omega) (by omega)]; exact tt.1
    · rw [e4 _ _ (by omega) (by omega) (by omega)]; exact tt.2.1
    · rw [e4 _ _ (by omega) (by omega) (by omega)]; exact tt.2.2.1
    · rw [b2 _ _ (by omega) (by omega), hσ3, up_o (by omega), hσ2, uL_1, up_o (by omega), up_s]
    · rw [l4 _ _ (by omega)]
      have q := hc.2.1.2.1 p c p0 p1 c0 c1
      rw [← hwe] at q
      exact q
  have old : ∀ p, 0 ≤ p → p < 16384 → (zt_rs (σ4.2.1 147 p) 20).toInt < S.toInt := fun p p0 p1 => by
    rw [l4 _ _ (by omega), Sv]
    have := h8.2 p p0 p1
    omega
  have mem : MEM w (wTn w) S σ4 := fun p p0 p1 => ⟨by have := old p p0 p1; omega, fun z => by have := old p p0 p1; rw [z] at this; omega⟩
  have nd : ND w (wTn w) S 0 v w σ4 := by
    refine ⟨gl, mem, RM.rf hw, by omega, tk1.of (fun j => ?_), g2⟩
    rw [b2 _ _ (by omega) (by omega), hσ3, up_o (by omega), hσ2, uL_1, up_o (by omega), up_o (by omega)]
  obtain ⟨σ5, u1, u2, u3, u4⟩ := e_from (q := wTn w) (S := S) (w0 := w) (by have := h8.1; omega) (by omega) (by omega) 16 0 v w σ4 (by omega) (by omega) nd (fun _ => by rw [b2 _ _ (by omega) (by omega), hσ3, up_o (by omega), hσ2, uL_1, up_s]) (fun _ p p0 p1 z => by have := old p p0 p1; rw [z] at this; omega)
  have u1' : F_SS_tricksFrom 16 0 v σ4 = some (VV (wTn w) w, σ5) := u1
  have m55 : σ5.2.1 144 5 = S := by rw [u3.2.2.1 _ _ (by omega)]; exact m5
  refine ⟨σ5, ?_, u4 rfl ho, ⟨?_, fun p p0 p1 => ?_⟩, fun c j hcj => ?_, fun c j h1 h2 => ?_, ?_⟩
  · unfold F_SS_mostTricks F_SS_listCards
    rw [e_trickAt (by omega), zt_bdS, zt_ckI (tri_in _ (by decide)), show (148 + (0 : Int).toNat) = 148 from rfl, c1, zt_bdS, zt_letS, k1, zt_letS, zt_letS]
    have e5 : (zt_up (zt_up σ1 144 7 (wTn w)) 144 8 (-1)).2.1 144 5 + 1 = S := by rw [up_2, up_2, s1, hS]
    rw [e5, ← hσ2, g1, zt_bdS, zt_letS, ← hσ3, b1, zt_bdS, u1', zt_bdS]
  · rw [m55, Sv]
    have := h8.1
    omega
  · rw [m55]
    exact (u2 p p0 p1).1
  · rw [u3.1 c j (by omega) (by omega), e4 c j (by omega) (by omega) (by omega)]
  · rw [u3.2.2.1 c j h2, l4 c j (Or.inl h1)]
  · rw [u3.2.2.2, b3, hσ3, up_2, hσ2, uL_3, up_2, up_2, c2]
end SH
