/-! THE SCRIPT READ: the class, the reference -/
def TCL (σ : zt_S) : Prop := (∀ q, 0 ≤ q → q < 4 → σ.1 134 q = 0 ∧ σ.1 135 q = 0 ∧ σ.1 136 q = 0) ∧ σ.1 130 16 = 0 ∧ σ.1 130 17 = 0 ∧ σ.1 130 18 = 0 ∧ σ.2.1 130 10 = 0
def FRd (σ σ' : zt_S) : Prop := (∀ c j, c ≠ 2 → (c < 128 ∨ 139 < c) → σ'.1 c j = σ.1 c j) ∧ (∀ c j, (c < 128 ∨ 139 < c) → σ'.2.1 c j = σ.2.1 c j) ∧ σ'.2.2 = σ.2.2
def FM4 (τ τ' : zt_S) : Prop := (∀ c j, c ≠ 165 → c ≠ 168 → (c ≠ 163 ∨ (j ≠ 11 ∧ j ≠ 12 ∧ j ≠ 13 ∧ j ≠ 14 ∧ j ≠ 16 ∧ j ≠ 17)) → τ'.1 c j = τ.1 c j) ∧ (∀ c j, (c ≠ 163 ∨ j ≠ 15) → τ'.2.1 c j = τ.2.1 c j) ∧ τ'.2.2 = τ.2.2
section RC
variable {B : Int → Int} {N : Int} {σ τ : zt_S} {s : PS} {r u : Int → Int} {z : ZS} {p k : Int}
theorem ec_clear : ∃ s, F_Tb_clear 130 σ = some ((), s) ∧ CLH 130 (zt_up (zt_up (zt_up (zt_up (zt_up (zt_up (rz 136 σ (fl 0 4 0 (σ.1 136))) 130 11 1) 130 12 2) 130 13 0) 130 14 (-1)) 130 15 0) 130 18 0) s := by
  obtain ⟨s, g1, g2⟩ := ec_clearHand (t := 130) (σ := zt_up (zt_up (zt_up (zt_up (zt_up (zt_up (rz 136 σ (fl 0 4 0 (σ.1 136))) 130 11 1) 130 12 2) 130 13 0) 130 14 (-1)) 130 15 0) 130 18 0)
  refine ⟨s, ?_, g2⟩
  unfold F_Tb_clear
  rw [be_fill (by decide), zt_letS, zt_letS, zt_letS, zt_letS, zt_letS, zt_letS]
  exact congrArg (fun o => zt_bd o (fun (_ : Unit) (s10 : zt_S) => some ((), s10))) g1
theorem ec_read (hb : BF σ) (hv : 0 ≤ N ∧ N ≤ σ.1 0 1) (u : Int → Int) : ∃ σ', F_TR_read N σ = F_TR_read_65 σ' ∧ CZ (σ.1 169) N σ' (zE (σ.1 169) N u) ∧ FRd σ σ' ∧ TCL σ' := by
  obtain ⟨b1, b2, b3⟩ := hb
  have hN : 0 ≤ N ∧ N ≤ 500 := by omega
  obtain ⟨B, hBe⟩ : ∃ B, B = σ.1 169 := ⟨_, rfl⟩
  rw [← hBe]
  obtain ⟨σa, hσa⟩ : ∃ x, x = zt_up (zt_up (zt_up (zt_up σ 2 1 N) 2 3 0) 2 6 0) 2 7 (-1) := ⟨_, rfl⟩
  have a0 : ∀ c j, c ≠ 2 → σa.1 c j = σ.1 c j := fun c j hc => by
    rw [hσa]
    simp (disch := omega) only [up_o]
  have a1 : σa.1 2 1 = N := by rw [hσa]; simp (disch := omega) only [up_o, up_s]
  have a3 : σa.1 2 3 = 0 := by rw [hσa]; simp (disch := omega) only [up_o, up_s]
  have a6 : σa.1 2 6 = 0 := by rw [hσa]; simp (disch := omega) only [up_o, up_s]
  have a7 : σa.1 2 7 = -1 := by rw [hσa]; simp (disch := omega) only [up_s]
  have cb : CBY B N σa := ⟨hN, a1, fun j h0 h1 => by
    have := b3 j h0 (by omega)
    rw [← hBe] at this
    rw [a0 _ _ (by decide)]
    exact this⟩
  obtain ⟨σ1, n1, n2, n3⟩ := e_next cb (by rw [a3]; omega)
  rw [a3] at n2
  have cp1 : CP B N σ1 s0 := ⟨cb.f n3, ⟨by show (0 : Int) ≤ 0; omega, by show (0 : Int) ≤ N; omega⟩, n2, by rw [n3.1 _ _ (by omega)]; exact a6, by rw [n3.1 _ _ (by omega)]; exact a7, by show (0 : Int) ≤ 0 ∧ (0 : Int) ≤ 3; omega, by show (-1 : Int) ≤ -1 ∧ (-1 : Int) ≤ 500; omega⟩
  obtain ⟨σb, c1, d1, d2, d3, d4, d5, d6, d7⟩ := ec_clear (σ := σ1)
  have e0 : ∀ c j, (c < 130 ∨ 136 < c) → σb.1 c j = σ1.1 c j := fun c j hc => by
    rw [d5 c j (by omega) (by omega) (by omega) (by omega)]
    simp (disch := omega) only [up_o, rz_o]
  have cp2 : CP B N σb s0 := cp1.l (fun j => e0 _ _ (by omega)) (fun j _ _ => e0 _ _ (by omega))
  have x11 : ∀ j, j ≠ 16 → j ≠ 17 → σb.1 130 j = (zt_up (zt_up (zt_up (zt_up (zt_up (zt_up (rz 136 σ1 (fl 0 4 0 (σ1.1 136))) 130 11 1) 130 12 2) 130 13 0) 130 14 (-1)) 130 15 0) 130 18 0).1 130 j := fun j h1 h2 => d5 130 j (by omega) (by omega) (by omega) (by omega)
  obtain ⟨v0, v1, v2, v3, v4, v5, v6, v7, v8, v15, _⟩ := rBg_v (u := u) (a := szA B N s0) (b := szB B N s0) (c := szC B N s0)
  have cq : CQ [3, 4, 6, 7, 8] σb (rBg u (szA B N s0) (szB B N s0) (szC B N s0)) := by
    refine ⟨by decide, fun i hi => ?_⟩
    simp only [List.mem_cons, List.not_mem_nil, or_false] at hi
    rcases hi with e | e | e | e | e <;> subst e
    · rw [v3]; show σb.1 130 11 = 1; rw [x11 _ (by omega) (by omega)]; simp (disch := omega) only [up_o, up_s]
    · rw [v4]; show σb.1 130 14 = -1; rw [x11 _ (by omega) (by omega)]; simp (disch := omega) only [up_o, up_s]
    · rw [v6]; show σb.1 130 12 = 2; rw [x11 _ (by omega) (by omega)]; simp (disch := omega) only [up_o, up_s]
    · rw [v7]; show σb.1 130 13 = 0; rw [x11 _ (by omega) (by omega)]; simp (disch := omega) only [up_o, up_s]
    · rw [v8]; show σb.1 130 15 = 0; rw [x11 _ (by omega) (by omega)]; simp (disch := omega) only [up_o, up_s]
  obtain ⟨σ2, g1, g2, g3, g4⟩ := ec_sizes (u := u) cp2 cq
  have y5 : (zh1 B N u s0).1 5 = 10 := by
    unfold zh1
    rw [wn_o (by decide)]; exact v5
  have y7 : (zh1 B N u s0).1 7 = 0 := by
    unfold zh1
    rw [wn_o (by decide)]; exact v7
  have y15 : (zh2 B N u s0).1 15 = 0 := by
    unfold zh2 zh1
    rw [trZ_o (by decide), wn_o (by decide)]; exact v15
  obtain ⟨σ3, h1, h2, h3, h4⟩ := ec_trump (L := []) g2 g3 y5 y7
  have RZ := zh_R (B := B) (N := N) (u := u) (s := s0)
  obtain ⟨σ4, i1, i2, i3, i4⟩ := ec_start (z := zh2 B N u s0) h2 h3 y15 RZ.2.1.2.1
  have i2 : CP B N σ4 (zh B N u s0).2 := i2
  have i3 : CQ LW σ4 (zh B N u s0).1 := i3
  have fh := (g4.tr h4).tr i4
  have cz : CZ B N σ4 (z0 B N u) := by
    refine ⟨i2, i3.row (fun i hi => rL_o ?_), fun q d q0 q1 d0' d1' => ?_, fun p p0 p1 => ?_⟩
    · have : ∀ i ∈ LW, i < 9 ∨ 11 < i := by decide
      exact this i hi
    · rw [fh.2, (d1 q q0 q1).1, hb_0]
      refine (decide_eq_false (fun x => ?_)).symm
      have R := (XR_0 (B := B) (N := N) (u := u)).1.1.1
      rw [z0_40.1 d d0' (by omega)] at x
      omega
    · rw [fh.1 _ _ (by decide) (by decide) (by decide) (by omega), (d1 p p0 p1).2.1, z0_40.2 p p0 p1]
  obtain ⟨σ5, j1, j2, j3⟩ := ec_read_29 (B := B) hN N.toNat zt_N 0 σ4 (z0 B N u) (by omega) (zN (by omega)) (by omega) cz XR_0.1
  refine ⟨σ5, ?_, j2, ⟨fun c j hc h5 => ?_, fun c j h5 => ?_, ?_⟩, fun q q0 q1 => ?_, ?_, ?_, ?_, ?_⟩
  · unfold F_TR_read F_Tk_open
    rw [zt_letS, zt_letS, zt_letS, zt_letS, ← hσa, n1, zt_bdS, zt_bdS, c1, zt_bdS, g1, zt_bdS, h1, zt_bdS, i1, zt_bdS]
    exact j1
  · rw [j3.1 c j hc (by omega), fh.1 c j hc (by omega) (by omega) (by omega), e0 c j (by omega), n3.1 c j (by omega), a0 c j hc]
  · rw [j3.2.1 c j (by omega), fh.2, d6 c j (by omega) (by omega), up_2, up_2, up_2, up_2, up_2, up_2, rz_2, n3.2, hσa, up_2, up_2, up_2, up_2]
  · rw [j3.2.2, fh.2, d7, up_2, up_2, up_2, up_2, up_2, up_2, rz_2, n3.2, hσa, up_2, up_2, up_2, up_2]
  · refine ⟨?_, ?_, ?_⟩
    · rw [j3.1 _ _ (by decide) (by decide), fh.1 _ _ (by decide) (by decide) (by decide) (by omega)]; exact (d1 q q0 q1).2.2.1
    · rw [j3.1 _ _ (by decide) (by decide), fh.1 _ _ (by decide) (by decide) (by decide) (by omega)]; exact (d1 q q0 q1).2.2.2
    · rw [j3.1 _ _ (by decide) (by decide), fh.1 _ _ (by decide) (by decide) (by decide) (by omega), d5 _ _ (by omega) (by omega) (by omega) (by omega)]
      simp (disch := omega) only [up_o, rz_r, fl_i]
  · rw [j3.1 _ _ (by decide) (by decide), fh.1 _ _ (by decide) (by decide) (by decide) (by omega)]; exact d3
  · rw [j3.1 _ _ (by decide) (by decide), fh.1 _ _ (by decide) (by decide) (by decide) (by omega)]; exact d4
  · rw [j3.1 _ _ (by decide) (by decide), fh.1 _ _ (by decide) (by decide) (by decide) (by omega), x11 _ (by omega) (by omega), up_s]
  · rw [j3.2.1 _ _ (by decide), fh.2]; exact d2
theorem ec_handOut (h : CZ B N σ z) (hx : XR z.1) (hk : kI k z) (g : z.2.1 = 0) (tc : TCL σ) : ∃ σ', F_TR_handOut σ = some ((), σ') ∧ TB σ' 130 (fin z.1 k) ∧ SUw σ' 129 (fin z.1 k) ∧ (∀ c j, c ≠ 5 → c ≠ 131 → σ'.1 c j = σ.1 c j) ∧ (∀ c j, c ≠ 132 → σ'.2.1 c j = σ.2.1 c j) ∧ σ'.2.2 = σ.2.2 := by
  obtain ⟨hr, h9, h10, h11, h12, h13, h14, h20⟩ := id hx
  obtain ⟨⟨a0, a1, a2, a3, b3, b4, b5, b6, b7, b8, b15⟩, c1, c2, c3⟩ := id hr
  have hP := wMx_pm (n := 4 * z.1 0) (seed := z.1 15) (by omega)
  have fo := fin_ok hx (fun k0 => by
    rcases hk g with x | x
    · exact x.2
    · exact absurd k0 x.1)
  have e15 : σ.1 128 4 = z.1 15 := h.2.1.2 15 (by decide)
  obtain ⟨r5, m1, m2⟩ := e_mix (σ := σ) (v := z.1 15) (n := 4 * z.1 0) (by omega) (by omega)
  have q5 : CQ LW (rz 5 σ r5) z.1 := ⟨h.2.1.1, fun i hi => by
    have := (cC_lt i hi).1
    rw [rz_o (by omega)]
    exact h.2.1.2 i hi⟩
  have ch5 : CH (rz 5 σ r5) z.1 := ⟨h.2.2.1, fun p p0 p1 => by rw [rz_o (by decide)]; exact h.2.2.2 p p0 p1⟩
  obtain ⟨v, w1, w2⟩ := ec_all (σ := rz 5 σ r5) ch5 hr
  -- the hands
  have hands : ∃ σh, (if (zt_lc v (0 : Int64)) = (0 : Int) then F_Tb_handOutInTurn 130 (rz 5 σ r5) else F_Tb_fillUp 130 (rz 5 σ r5)) = some ((), σh) ∧ (∀ q d, 0 ≤ q → q < 4 → 0 ≤ d → d < 64 → hb (σh.2.1 132 q) d = decide (d < 4 * z.1 0 ∧ fin z.1 k (40 + d) = q)) ∧ σh.1 = (rz 5 σ r5).1 ∧ (∀ c j, c ≠ 132 → σh.2.1 c j = σ.2.1 c j) ∧ σh.2.2 = σ.2.2 := by
    by_cases k0 : k = 0
    · have f40 : ∀ c, 0 ≤ c → c < 52 → z.1 (40 + c) = -1 := by
        rcases hk g with x | x
        · exact x.2
        · exact absurd k0 x.1
      have su : SUw (rz 5 σ r5) (zt_su 130) z.1 := ⟨q5.e0, q5.e1, q5.e2, q5.2 5 (by decide)⟩
      have mm : 0 ≤ z.1 1 * z.1 2 := Int.mul_nonneg (by omega) (by omega)
      obtain ⟨s4, f1, f2, f3, f4, f5⟩ := ec_handOut_4 (σ := rz 5 σ r5) (t := 130) (w := z.1) (u := z.1) su ⟨a0, a1, a2, a3, b5⟩ hP f40 (z.1 1 * z.1 2).toNat zt_N 0 (rz 5 σ r5) su (by omega) (zN (by omega)) (fun j h0 h1 => by rw [rz_r]; exact m2 j h0 h1) (fun q d h0 h1 h2 h3 => by rw [dlr]; exact ch5.1 q d h0 h1 h2 h3)
      rw [Nat.zero_add] at f5
      rw [if_pos (w2.mpr f40)]
      refine ⟨s4, ?_, fun q d q0 q1 d0 d1 => ?_, f2, f4, f3⟩
      · unfold F_Tb_handOutInTurn
        rw [show ((0 : Nat) : Int) % z.1 1 = 0 from Int.zero_emod _] at f1
        exact f1
      · have := f5 q d q0 q1 d0 d1
        unfold fin
        rw [if_pos k0]
        exact this
    · have nh : ¬ ∀ c, 0 ≤ c → c < 52 → z.1 (40 + c) = -1 := by
        rcases hk g with x | ⟨_, _, c, x1, x2, x3⟩
        · exact absurd x.1 k0
        · exact fun y => x3 (y c x1 x2)
      obtain ⟨σ', f1, f2, f3, f4, f5, f6⟩ := ec_fill_2 (R := z.1 0) a0 hP (4 * z.1 0).toNat zt_N 0 (rz 5 σ r5) z.1 (by omega) (zN (by omega)) (by omega) rfl q5 ch5 hr (fun j h0 h1 => by rw [rz_r]; exact m2 j h0 h1)
      rw [if_neg (fun y => nh (w2.mp y))]
      refine ⟨σ', f1, fun q d q0 q1 d0 d1 => ?_, f4, f5, f6⟩
      have e0 := (fu_R (P := wMx (4 * z.1 0) (z.1 15)) (4 * z.1 0).toNat 0 z.1 hr hP (by omega) (by omega)).2 0 (by omega)
      have := f3.1 q d q0 q1 d0 d1
      rw [e0] at this
      unfold fin
      rw [if_neg k0]
      exact this
  obtain ⟨σh, t1, t2, t3, t4, t5⟩ := hands
  have s0' : ∀ c j, c ≠ 5 → σh.1 c j = σ.1 c j := fun c j hc => by rw [t3, rz_o hc]
  have o14 : σh.1 130 14 = z.1 4 := by rw [s0' _ _ (by decide)]; exact h.2.1.2 4 (by decide)
  have o15 : σh.1 130 15 = z.1 8 := by rw [s0' _ _ (by decide)]; exact h.2.1.2 8 (by decide)
  have o5 : σh.1 (zt_su 130) 3 = z.1 5 := by show σh.1 129 3 = z.1 5; rw [s0' _ _ (by decide)]; exact h.2.1.2 5 (by decide)
  obtain ⟨s5, g1, g2, g3, g4, g5, g6, g7, g8, g9, g10, g11, g12⟩ := ec_openHand (σ := σh) (t := 130) (by decide) (by rw [o14]; unfold zt_in; omega)
  have x0 : ∀ c j, c ≠ 5 → c ≠ 131 → s5.1 c j = σ.1 c j := fun c j h1 h2 => by rw [g3 c j h2, s0' c j h1]
  have f := fo.2
  refine ⟨s5, ?_, TB.of0 ?_ ?_ ?_ ?_ (fun q d h0 h1 h2 h3 => ?_) (fun q h0 h1 => ?_) ?_ ?_, ?_, x0, fun c j hc => by rw [g2]; exact t4 c j hc, by rw [g2]; exact t5⟩
  · unfold F_TR_handOut
    have e0 : (4 * σ.1 129 0) = 4 * z.1 0 := by rw [h.2.1.e0]
    rw [e_cardCount, zt_bdS, e15, e0, m1, zt_bdS, w1, zt_bdS]
    unfold F_TR_handOut_55
    by_cases y : (zt_lc v (0 : Int64)) = (0 : Int)
    · rw [if_pos y] at t1 ⊢
      rw [t1, zt_bdS, g1, zt_bdS]
    · rw [if_neg y] at t1 ⊢
      rw [t1, zt_bdS, g1, zt_bdS]
  · rw [f 12 (by omega)]; exact h12
  · rw [f 13 (by omega)]; exact h13
  · rw [f 9 (by omega), f 1 (by omega), h9]; exact b8
  · rw [f 9 (by omega), f 10 (by omega), f 11 (by omega), h9, h10, h11, g4, g5, g6, g7, g8, g9, g10, g11, g12, o14, o15, o5]
    exact ⟨rfl, rfl, rfl, rfl, rfl, rfl, rfl, rfl, rfl⟩
  · rw [g2, f 0 (by omega)]
    exact t2 q d h0 h1 h2 h3
  · have tq := tc.1 q h0 h1
    refine ⟨?_, ?_, ?_, ?_⟩
    · rw [x0 _ _ (by decide) (by decide), f _ (by omega)]; exact h.2.2.2 q h0 h1
    · rw [x0 _ _ (by decide) (by decide)]; exact tq.1
    · rw [x0 _ _ (by decide) (by decide), show σ.1 (130 + 5) q = 0 from tq.2.1]
      unfold wLk
      rw [f _ (by omega), f _ (by omega), f _ (by omega), f _ (by omega), h20 _ (by omega) (by omega), h20 _ (by omega) (by omega), h20 _ (by omega) (by omega), h20 _ (by omega) (by omega)]
      rfl
    · rw [x0 _ _ (by decide) (by decide), f _ (by omega), h20 _ (by omega) (by omega)]; exact tq.2.2
  · rw [g2, t4 _ _ (by decide)]; exact tc.2.2.2.2
  · rw [f 3 (by omega), f 6 (by omega), f 7 (by omega), f 4 (by omega), f 8 (by omega), f 14 (by omega), x0 _ _ (by decide) (by decide), x0 _ _ (by decide) (by decide), x0 _ _ (by decide) (by decide), x0 _ _ (by decide) (by decide), x0 _ _ (by decide) (by decide), x0 _ _ (by decide) (by decide), x0 _ _ (by decide) (by decide), x0 _ _ (by decide) (by decide), h14]
    exact ⟨h.2.1.2 3 (by decide), h.2.1.2 6 (by decide), h.2.1.2 7 (by decide), h.2.1.2 4 (by decide), h.2.1.2 8 (by decide), tc.2.1, tc.2.2.1, tc.2.2.2.1⟩
  · unfold SUw
    rw [f 0 (by omega), f 1 (by omega), f 2 (by omega), f 5 (by omega), x0 _ _ (by decide) (by decide), x0 _ _ (by decide) (by decide), x0 _ _ (by decide) (by decide), x0 _ _ (by decide) (by decide)]
    exact ⟨h.2.1.e0, h.2.1.e1, h.2.1.e2, h.2.1.2 5 (by decide)⟩
/-! the reference -/
theorem FM3.m4 {τ' : zt_S} (h : FM3 τ τ') : FM4 τ τ' := ⟨fun c j h1 _ h3 => h.1 c j h1 h3, h.2.1, h.2.2⟩
theorem FM4.tr {a b c : zt_S} (h : FM4 a b) (g : FM4 b c) : FM4 a c := ⟨fun x j h1 h2 h3 => by rw [g.1 x j h1 h2 h3, h.1 x j h1 h2 h3], fun x j hx => by rw [g.2.1 x j hx, h.2.1 x j hx], g.2.2.trans h.2.2⟩
theorem em_fin (h : MZ B N τ z) (hx : XR z.1) (hk : kI k z) (g : z.2.1 = 0) : ∃ τ', F_M_readsAll_71 k τ = some ((), τ') ∧ MP B N τ' z.2 ∧ τ'.1 165 = fin z.1 k ∧ FM4 τ τ' := by
  obtain ⟨hr, h9, h10, h11, h12, h13, h14, h20⟩ := id hx
  obtain ⟨⟨a0, a1, a2, a3, b3, b4, b5, b6, b7, b8, b15⟩, c1, c2, c3⟩ := id hr
  have hP := wMx_pm (n := 4 * z.1 0) (seed := z.1 15) (by omega)
  have e : ∀ j, τ.1 165 j = z.1 j := fun j => by rw [h.2]
  unfold F_M_readsAll_71 fin
  rw [em_isGood h.1, zt_bdS, if_pos g, zt_ckI (by decide), if_neg (by decide), zt_ckI (by
    rcases hk g with x | x
    · rw [x.1]; decide
    · exact x.2.1), e 15]
  by_cases k0 : k = 0
  · obtain ⟨s, d1, d2, d3, d4⟩ := em_deals (σ := τ) (c1 := 165) (v := z.1 15) (by decide) (by omega) (by rw [e 0, e 1, e 2]; exact ⟨a0, a1, a2, a3⟩)
    rw [e 0, e 1, e 2, h.2] at d3
    rw [if_pos k0, if_pos k0, d1, zt_bdS]
    refine ⟨s, rfl, h.1.l (fun j => d4 _ _ (by decide) (by decide)) (fun j _ _ => d4 _ _ (by decide) (by decide)) (by rw [d2]), d3, fun c j h1 h2 _ => d4 c j h1 h2, fun c j _ => by rw [d2], by rw [d2]⟩
  · rw [if_neg k0, if_neg k0]
    obtain ⟨r5, m1, m2⟩ := em_piles (σ := τ) (v := z.1 15) (n := 4 * z.1 0) (by omega) (by omega)
    obtain ⟨r', f1, f2, f3, f4, f5⟩ := em_comp_23 (τ := rz 168 τ r5) (R := z.1 0) a0 hP (fun j h0 h1 => by rw [rz_r]; exact m2 j h0 h1) (z.1 1).toNat zt_N 0 0 z.1 (by omega) (zN (by omega)) (by omega) ⟨hr, rfl, by omega, fun j _ _ => by omega, fun q _ _ => by omega⟩
    have er : rz 165 (rz 168 τ r5) z.1 = rz 168 τ r5 := by
      have : z.1 = (rz 168 τ r5).1 165 := by rw [← h.2]; exact funext fun j => (rz_o (by decide)).symm
      rw [this, rz_id]
    rw [er] at f1
    rw [Int.sub_zero] at f2
    unfold F_M_completes
    rw [e 0, e 15, m1, zt_bdS, f1, zt_bdS]
    refine ⟨_, rfl, h.1.l (fun j => by rw [rz_o (by decide), rz_o (by decide)]) (fun j _ _ => by rw [rz_o (by decide), rz_o (by decide)]) rfl, by rw [rz_r, f2], fun c j h1 h2 _ => by rw [rz_o h1, rz_o h2], fun c j _ => rfl, rfl⟩
theorem zN1 : ∃ n, zt_N = n + 1 := ⟨zt_N - 1, by have := zN (m := 1) (by omega); omega⟩
theorem em_readsAll (h : MP B N τ s0) (hu : τ.1 165 = u) : ∃ τ', F_M_readsAll τ = some ((), τ') ∧ MP B N τ' (zE B N u).2 ∧ ((zE B N u).2.1 = 0 → τ'.1 165 = fin (zE B N u).1 (kE B N u)) ∧ FM4 τ τ' := by
  obtain ⟨τ1, g1, g2, g3, g4⟩ := em_head h hu
  unfold F_M_readsAll
  rw [g1, zt_bdS]
  by_cases x : (zh B N u s0).2.1 = 0
  · have mz : MZ B N τ1 (z0 B N u) := ⟨g2, g3 x⟩
    have hN := g2.1.1
    obtain ⟨τ2, k1, k2, k3⟩ := em_all_6 N.toNat zt_N 0 τ1 (z0 B N u) (fun _ => by have := mz.1.2.1; omega) (zN (by omega)) mz XR_0.1
    have k2 : MZ B N τ2 (zE B N u) := k2
    rw [k1]
    by_cases y : (zE B N u).2.1 = 0
    · obtain ⟨τ3, m1, m2, m3, m4⟩ := em_fin k2 XR_E kE_ok y
      exact ⟨τ3, m1, m2, fun _ => m3, (g4.tr k3).m4.tr m4⟩
    · refine ⟨τ2, ?_, k2.1, fun z => absurd z y, (g4.tr k3).m4⟩
      unfold F_M_readsAll_71
      rw [em_isGood k2.1, zt_bdS, if_neg y, zt_ckI (by decide), if_pos rfl]
  · have ez : zE B N u = z0 B N u := by
      unfold zE
      cases N.toNat with
      | zero => rfl
      | succ m => rw [caZ, if_neg (fun q => x q.1)]
    have y : ¬ (zE B N u).2.1 = 0 := by rw [ez]; exact x
    obtain ⟨n, hn⟩ := zN1
    refine ⟨τ1, ?_, by rw [ez]; exact g2, fun z => absurd z y, g4.m4⟩
    rw [hn, F_M_readsAll_6, em_isGood g2, zt_bdS, if_neg x, zt_ckI (by decide), if_pos rfl]
    unfold F_M_readsAll_71
    rw [em_isGood g2, zt_bdS, if_neg x, zt_ckI (by decide), if_pos rfl]
end RC
