/-! load: the class' half, over the bytes B of its buffer -/
section QL
variable {B : Int → Int} {N : Int} {σ τ : zt_S} {u : Int → Int} {v : Int}
theorem pc_read (hN : 0 ≤ N ∧ N ≤ 500) (b3 : ∀ j, 0 ≤ j → j < N → (0 ≤ B j ∧ B j ≤ 255) ∧ σ.1 1 j = (if B j < 128 then B j else B j - 256)) (u : Int → Int) : ∃ σ', F_TR_read N σ = F_TR_read_65 σ' ∧ CZ B N σ' (zE B N u) ∧ FRd σ σ' ∧ TCL σ' := by
  obtain ⟨σa, hσa⟩ : ∃ x, x = zt_up (zt_up (zt_up (zt_up σ 2 1 N) 2 3 0) 2 6 0) 2 7 (-1) := ⟨_, rfl⟩
  have a0 : ∀ c j, c ≠ 2 → σa.1 c j = σ.1 c j := fun c j hc => by
    rw [hσa]
    simp (disch := omega) only [up_o]
  have a1 : σa.1 2 1 = N := by rw [hσa]; simp (disch := omega) only [up_o, up_s]
  have a3 : σa.1 2 3 = 0 := by rw [hσa]; simp (disch := omega) only [up_o, up_s]
  have a6 : σa.1 2 6 = 0 := by rw [hσa]; simp (disch := omega) only [up_o, up_s]
  have a7 : σa.1 2 7 = -1 := by rw [hσa]; simp (disch := omega) only [up_s]
  have cb : CBY B N σa := ⟨hN, a1, fun j h0 h1 => by
    have := b3 j h0 h1
    rw [a0 _ _ (by decide)]
    exact this⟩
  obtain ⟨σ1, n1, n2, n3⟩ := e_next cb (by rw [a3]; omega)
  rw [a3] at n2
  have cp1 : CP B N σ1 s0 := ⟨cb.f n3, ⟨by show (0 : Int) ≤ 0; omega, by show (0 : Int) ≤ N; omega⟩, n2, by rw [n3.1 _ _ (by omega)]; exact a6, by rw [n3.1 _ _ (by omega)]; exact a7, by show (0 : Int) ≤ 0 ∧ (0 : Int) ≤ 3; omega, by show (-1 : Int) ≤ -1 ∧ (-1 : Int) ≤ 500; omega⟩
  obtain ⟨σb, c1, d1, d2, d3, d4, d5, d6, d7⟩ := ec_clear (σ := σ1)
  have e0 : ∀ c j, (c < 130 ∨ 136 < c) → σb.1 c j = σ1.1 c j := fun c j hc => by
    rw [d5 c j (by omega) (by omega) (by omega) (by omega)]
    simp (disch := omega) only [up_o, rz_o]
  have cp2 : CP B N σb s0 := cp1.l (fun j => e0 _ _ (by omega)) (fun j _ _ => e0 _ _ (by omega))
  have x11 : ∀ j, j ≠ 16 → j ≠ 17 → σb.1 130 j = (zt_up (zt_up (zt_up (zt_up (zt_up (zt_up (rz 136 σ1 (fl 0 4 0 (σ1.1 136))) 130 11 1) 130 12 2) 130 13 0) 130 14 (-1)) 130 15 0) 130 18 0).1 130 j := fun j h1 h2 => d5 130 j (by omega) (by omega) (by omega) (by omega)
  obtain ⟨v0, v1, v2, v3, v4, v5, v6, v7, v8, v15, _⟩ := rBg_v (u := u) (a := szA B N s0) (b := szB B N s0) (c := szC B N s0)
  have cq : CQ [3, 4, 6, 7, 8] σb (rBg u (szA B N s0) (szB B N s0) (szC B N s0)) := by
    refine ⟨by decide, fun i hi => ?_⟩
    simp only [List.mem_cons, List.not_mem_nil, or_false] at hi
    rcases hi with e | e | e | e | e <;> subst e
    · rw [v3]; show σb.1 130 11 = 1; rw [x11 _ (by omega) (by omega)]; simp (disch := omega) only [up_o, up_s]
    · rw [v4]; show σb.1 130 14 = -1; rw [x11 _ (by omega) (by omega)]; simp (disch := omega) only [up_o, up_s]
    · rw [v6]; show σb.1 130 12 = 2; rw [x11 _ (by omega) (by omega)]; simp (disch := omega) only [up_o, up_s]
    · rw [v7]; show σb.1 130 13 = 0; rw [x11 _ (by omega) (by omega)]; simp (disch := omega) only [up_o, up_s]
    · rw [v8]; show σb.1 130 15 = 0; rw [x11 _ (by omega) (by omega)]; simp (disch := omega) only [up_o, up_s]
  obtain ⟨σ2, g1, g2, g3, g4⟩ := ec_sizes (u := u) cp2 cq
  have y5 : (zh1 B N u s0).1 5 = 10 := by
    unfold zh1
    rw [wn_o (by decide)]; exact v5
  have y7 : (zh1 B N u s0).1 7 = 0 := by
    unfold zh1
    rw [wn_o (by decide)]; exact v7
  have y15 : (zh2 B N u s0).1 15 = 0 := by
    unfold zh2 zh1
    rw [trZ_o (by decide), wn_o (by decide)]; exact v15
  obtain ⟨σ3, h1, h2, h3, h4⟩ := ec_trump (L := []) g2 g3 y5 y7
  have RZ := zh_R (B := B) (N := N) (u := u) (s := s0)
  obtain ⟨σ4, i1, i2, i3, i4⟩ := ec_start (z := zh2 B N u s0) h2 h3 y15 RZ.2.1.2.1
  have i2 : CP B N σ4 (zh B N u s0).2 := i2
  have i3 : CQ LW σ4 (zh B N u s0).1 := i3
  have fh := (g4.tr h4).tr i4
  have cz : CZ B N σ4 (z0 B N u) := by
    refine ⟨i2, i3.row (fun i hi => rL_o ?_), fun q d q0 q1 d0' d1' => ?_, fun p p0 p1 => ?_⟩
    · have : ∀ i ∈ LW, i < 9 ∨ 11 < i := by decide
      exact this i hi
    · rw [fh.2, (d1 q q0 q1).1, hb_0]
      refine (decide_eq_false (fun x => ?_)).symm
      have R := (XR_0 (B := B) (N := N) (u := u)).1.1.1
      rw [z0_40.1 d d0' (by omega)] at x
      omega
    · rw [fh.1 _ _ (by decide) (by decide) (by decide) (by omega), (d1 p p0 p1).2.1, z0_40.2 p p0 p1]
  obtain ⟨σ5, j1, j2, j3⟩ := ec_read_29 (B := B) hN N.toNat zt_N 0 σ4 (z0 B N u) (by omega) (zN (by omega)) (by omega) cz XR_0.1
  refine ⟨σ5, ?_, j2, ⟨fun c j hc h5 => ?_, fun c j h5 => ?_, ?_⟩, fun q q0 q1 => ?_, ?_, ?_, ?_, ?_⟩
  · unfold F_TR_read F_Tk_open
    rw [zt_letS, zt_letS, zt_letS, zt_letS, ← hσa, n1, zt_bdS, zt_bdS, c1, zt_bdS, g1, zt_bdS, h1, zt_bdS, i1, zt_bdS]
    exact j1
  · rw [j3.1 c j hc (by omega), fh.1 c j hc (by omega) (by omega) (by omega), e0 c j (by omega), n3.1 c j (by omega), a0 c j hc]
  · rw [j3.2.1 c j (by omega), fh.2, d6 c j (by omega) (by omega), up_2, up_2, up_2, up_2, up_2, up_2, rz_2, n3.2, hσa, up_2, up_2, up_2, up_2]
  · rw [j3.2.2, fh.2, d7, up_2, up_2, up_2, up_2, up_2, up_2, rz_2, n3.2, hσa, up_2, up_2, up_2, up_2]
  · refine ⟨?_, ?_, ?_⟩
    · rw [j3.1 _ _ (by decide) (by decide), fh.1 _ _ (by decide) (by decide) (by decide) (by omega)]; exact (d1 q q0 q1).2.2.1
    · rw [j3.1 _ _ (by decide) (by decide), fh.1 _ _ (by decide) (by decide) (by decide) (by omega)]; exact (d1 q q0 q1).2.2.2
    · rw [j3.1 _ _ (by decide) (by decide), fh.1 _ _ (by decide) (by decide) (by decide) (by omega), d5 _ _ (by omega) (by omega) (by omega) (by omega)]
      simp (disch := omega) only [up_o, rz_r, fl_i]
  · rw [j3.1 _ _ (by decide) (by decide), fh.1 _ _ (by decide) (by decide) (by decide) (by omega)]; exact d3
  · rw [j3.1 _ _ (by decide) (by decide), fh.1 _ _ (by decide) (by decide) (by decide) (by omega)]; exact d4
  · rw [j3.1 _ _ (by decide) (by decide), fh.1 _ _ (by decide) (by decide) (by decide) (by omega), x11 _ (by omega) (by omega), up_s]
  · rw [j3.2.1 _ _ (by decide), fh.2]; exact d2
theorem pc_load (hN : 0 ≤ N ∧ N ≤ 500) (b3 : ∀ j, 0 ≤ j → j < N → (0 ≤ B j ∧ B j ≤ 255) ∧ σ.1 1 j = (if B j < 128 then B j else B j - 256)) (h1 : N ≤ σ.1 0 1 ∧ σ.1 0 1 ≤ 500) (g : (zE B N u).2.1 = 0) : ∃ σe, F_C_load N σ = some (.inl (fin (zE B N u).1 (kE B N u) 1 * fin (zE B N u).1 (kE B N u) 2), σe) ∧ PG 0 σe (fin (zE B N u).1 (kE B N u)) ∧ F_C_errorPosition σe = some ((zE B N u).2.2.1, σe) := by
  obtain ⟨σr, r1, r2, r3, r4⟩ := pc_read hN b3 u
  have hxE := XR_E (B := B) (N := N) (u := u)
  have hkE := kE_ok (B := B) (N := N) (u := u)
  obtain ⟨σh, t1, t2, t3, t4, t5, t6⟩ := ec_handOut r2 hxE hkE g r4
  obtain ⟨w, hw⟩ : ∃ w, w = fin (zE B N u).1 (kE B N u) := ⟨_, rfl⟩
  rw [← hw] at t2 t3
  have fo := fin_ok hxE (k := kE B N u) (fun k0 => by
    rcases hkE g with x | x
    · exact x.2
    · exact absurd k0 x.1)
  rw [← hw] at fo
  have ri := fo.1
  have a := ri.n
  have f := fo.2
  have w14 : w 14 = 0 := by rw [f _ (by omega)]; exact hxE.2.2.2.2.2.2.1
  have w20 : ∀ i, 20 ≤ i → i < 40 → w i = 0 := fun i i0 i1 => by rw [f _ (by omega)]; exact hxE.2.2.2.2.2.2.2 i i0 i1
  obtain ⟨σb, k1, k2, k3, k4⟩ := e_SuCopy (σ := zt_up σh 0 1 0) (t0 := 3) (t1 := 129) (by decide)
  have k0 : ∀ c j, c ≠ 3 → (c ≠ 0 ∨ j ≠ 1) → σb.1 c j = σh.1 c j := fun c j c1 c2 => by rw [k3 c j c1, up_o c2]
  have tbb : TB σb 130 w := t2.ag (fun c j c1 c2 => k0 c j (by omega) (by omega)) (fun c j c1 c2 => by rw [k2, up_2])
  have b13 : σb.1 130 13 = w 7 := tbb.2.2.2.2.2.2.2.2.1
  obtain ⟨σc, c1, c2⟩ := ec_copyFrom (σ := σb) (t0 := 6) (t1 := 130) (by decide) (by omega)
  have tbc := TB.cp c2 ri tbb
  obtain ⟨σe, hσe⟩ : ∃ x, x = zt_up (zt_up (zt_up σc 16 1 0) 16 2 0) 0 8 0 := ⟨_, rfl⟩
  have su3 : ∀ j, 0 ≤ j → j < 4 → σe.1 3 j = σh.1 129 j := fun j j0 j1 => by
    rw [hσe, up_o (by omega), up_o (by omega), up_o (by omega), (c2.1.1 3 j (by omega)).1, k4 j j0 j1, up_o (by omega)]
  have suw : SUw σe 3 w := ⟨by rw [su3 _ (by omega) (by omega)]; exact t3.1, by rw [su3 _ (by omega) (by omega)]; exact t3.2.1, by rw [su3 _ (by omega) (by omega)]; exact t3.2.2.1, by rw [su3 _ (by omega) (by omega)]; exact t3.2.2.2⟩
  have fr : ∀ c j, c ≠ 2 → c ≠ 3 → c ≠ 5 → c ≠ 16 → (c < 6 ∨ 15 < c) → (c < 128 ∨ 139 < c) → (c ≠ 0 ∨ (j ≠ 1 ∧ j ≠ 8)) → σe.1 c j = σ.1 c j := fun c j d1 d2 d3 d4 d5 d6 d7 => by
    rw [hσe, up_o (by omega), up_o (by omega), up_o (by omega), (c2.1.1 c j (by omega)).1, k0 c j d2 (by omega), t4 c j d3 (by omega), r3.1 c j d1 d6]
  have fl2 : ∀ c j, (c < 6 ∨ 15 < c) → (c < 128 ∨ 139 < c) → σe.2.1 c j = σ.2.1 c j := fun c j d5 d6 => by
    rw [hσe, up_2, up_2, up_2, (c2.1.1 c j (by omega)).2, k2, up_2, t5 c j (by omega), r3.2.1 c j d6]
  have fl3 : σe.2.2 = σ.2.2 := by rw [hσe, up_2, up_2, up_2, c2.1.2, k2, up_2, t6, r3.2.2]
  rw [← hw]
  refine ⟨σe, ?_, ⟨⟨ri, TB.ag (σ := σc) (fun c j d1 d2 => by rw [hσe, up_o (by omega), up_o (by omega), up_o (by omega)]) (fun c j d1 d2 => by rw [hσe]; rfl) tbc, suw⟩, ⟨by omega, fun p d0 d1 => by rw [w20 _ (by omega) (by omega)]; omega⟩, ?_, ?_⟩, ?_⟩
  · have e6 : σh.1 2 6 = 0 := by rw [t4 _ _ (by decide) (by decide)]; exact r2.1.2.2.2.1.trans g
    have c65 : F_TR_read_65 σr = some (0, σh) := by
      unfold F_TR_read_65 F_TR_read_79
      rw [e_hasFailed r2.1, zt_bdS, if_pos g, zt_ckI (by decide), if_pos rfl, t1, zt_bdS, e6]
    unfold F_C_load F_Hi_clear
    rw [zt_ckI (by unfold zt_in; omega), if_neg (by omega), zt_ckI ⟨by unfold zt_in; omega, by unfold zt_in; omega⟩, if_neg (by omega), r1, c65, zt_bdS, zt_letS, zt_ckI (by decide), if_pos rfl, k1, zt_bdS, c1, zt_bdS, zt_letS, zt_letS, zt_bdS, zt_letS, ← hσe, ed_cardsOfHands suw]
  · rw [hσe, up_o (by omega), up_o (by omega), up_s]; omega
  · rw [hσe, up_o (by omega), up_s]; omega
  · unfold F_C_errorPosition
    rw [show σe.1 2 7 = (zE B N u).2.2.1 from by rw [hσe, up_o (by omega), up_o (by omega), up_o (by omega), (c2.1.1 2 7 (by omega)).1, k0 _ _ (by omega) (by omega), t4 _ _ (by omega) (by omega)]; exact r2.1.2.2.2.2.1]
end QL
