/-! load: both read the script alike -/
section LO
variable {σ τ : zt_S} {n : Int} {v : Int}
/-- all but the readers' cells stands -/
theorem Inv.ld (h : Inv n σ) (e1 : ∀ c j, c ≠ 2 → c ≠ 165 → c ≠ 168 → (c < 128 ∨ 139 < c) → (c ≠ 0 ∨ j ≠ 1) → (c ≠ 163 ∨ j = 5 ∨ j = 6 ∨ j = 31) → τ.1 c j = σ.1 c j) (e2 : ∀ c j, (c < 128 ∨ 139 < c) → c ≠ 163 → c ≠ 184 → τ.2.1 c j = σ.2.1 c j) (e3 : τ.2.2.2 = σ.2.2.2) (hb : BF τ) (he : ER τ) : Inv (n + 1) τ := by
  obtain ⟨hc, h2, h3, h4, h5, h6, h7, h8, h9⟩ := id h
  have f3 : τ.1 164 = σ.1 164 := funext fun j => e1 _ _ (by omega) (by omega) (by omega) (by omega) (by omega) (by omega)
  refine ⟨⟨by rw [f3]; exact hc.1, by rw [f3]; exact hc.2.1.ag (fun c j a b => e1 c j (by omega) (by omega) (by omega) (by omega) (by omega) (by omega)) (fun c j a b => e2 c j (by omega) (by omega) (by omega)), ?_⟩, by rw [f3]; exact h2.up (by omega), h3.ag (by omega) (fun c j a b => e1 c j (by omega) (by omega) (by omega) (by omega) (by omega) (by omega)) (fun c j a b => e2 c j (by omega) (by omega) (by omega)) (e1 _ _ (by omega) (by omega) (by omega) (by omega) (by omega) (by omega)) (fun j => e1 _ _ (by omega) (by omega) (by omega) (by omega) (by omega) (by omega)) (fun j _ => by rw [f3]), h4.ag (by omega) (fun c j a b => e1 c j (by omega) (by omega) (by omega) (by omega) (by omega) (by omega)) (fun c j a b => e2 c j (by omega) (by omega) (by omega)) (e1 _ _ (by omega) (by omega) (by omega) (by omega) (by omega) (by omega)) (e1 _ _ (by omega) (by omega) (by omega) (by omega) (by omega) (by omega)) (fun j => e1 _ _ (by omega) (by omega) (by omega) (by omega) (by omega) (by omega)) (fun j _ => by rw [f3]), hb, he, h7.ag (fun c j a b => e1 _ _ (by omega) (by omega) (by omega) (by omega) (by omega) (by omega)) (e1 _ _ (by omega) (by omega) (by omega) (by omega) (by omega) (by omega)) (fun j => e1 _ _ (by omega) (by omega) (by omega) (by omega) (by omega) (by omega)), h8.ag (by omega) (fun c j a b => e2 c j (by omega) (by omega) (by omega)), by rw [e3]; omega⟩
  have g := hc.2.2
  unfold SUw at g ⊢
  rw [f3, e1 _ _ (by omega) (by omega) (by omega) (by omega) (by omega) (by omega), e1 _ _ (by omega) (by omega) (by omega) (by omega) (by omega) (by omega), e1 _ _ (by omega) (by omega) (by omega) (by omega) (by omega) (by omega), e1 _ _ (by omega) (by omega) (by omega) (by omega) (by omega) (by omega)]
  exact g
theorem e_SuCopy {t0 t1 : Nat} (h : t0 ≠ t1) : ∃ σ', F_Su_copyFrom t0 t1 σ = some ((), σ') ∧ σ'.2 = σ.2 ∧ (∀ c j, c ≠ t0 → σ'.1 c j = σ.1 c j) ∧ (∀ j, 0 ≤ j → j < 4 → σ'.1 t0 j = σ.1 t1 j) := by
  unfold F_Su_copyFrom
  refine ⟨_, rfl, rfl, fun c j hc => ?_, fun j h0 h1 => ?_⟩
  · simp only [up_1, hc, false_and, if_false]
  · have hj : j = 0 ∨ j = 1 ∨ j = 2 ∨ j = 3 := by omega
    rcases hj with rfl | rfl | rfl | rfl <;> simp (disch := omega) only [up_s, up_o]
theorem op_load (h : Inv n σ) (hi : zt_in v) : OP (n + 1) (F_L_load v) (F_M_load v) σ := by
  obtain ⟨hc, h2, h3, h4, h5, h6, h7, h8, h9⟩ := id h
  have b0 := h5.2.1
  have b1 := h5.1
  by_cases hv : 0 ≤ v ∧ v ≤ σ.1 0 1
  · obtain ⟨σr, r1, r2, r3, r4⟩ := ec_read h5 hv (σ.1 165)
    obtain ⟨B, hBe⟩ : ∃ B, B = σ.1 169 := ⟨_, rfl⟩
    obtain ⟨u, hu⟩ : ∃ u, u = σ.1 165 := ⟨_, rfl⟩
    rw [← hBe, ← hu] at r2
    have hxE := XR_E (B := B) (N := v) (u := u)
    have hkE := kE_ok (B := B) (N := v) (u := u)
    -- the reference, behind a class that has changed its own cells only
    have ref : ∀ τ0 : zt_S, (∀ c j, 163 ≤ c → τ0.1 c j = σ.1 c j) → ∃ τ', MP B v τ' (zE B v u).2 ∧ ((zE B v u).2.1 = 0 → τ'.1 165 = fin (zE B v u).1 (kE B v u)) ∧ (∀ c j, c ≠ 165 → c ≠ 168 → (c ≠ 163 ∨ j = 5 ∨ j = 6 ∨ j = 31) → τ'.1 c j = τ0.1 c j) ∧ (∀ c j, c ≠ 163 → τ'.2.1 c j = τ0.2.1 c j) ∧ τ'.2.2 = τ0.2.2 ∧ τ'.1 163 9 = 0 ∧ τ'.1 163 0 = 0 ∧ F_M_load v τ0 = (zt_bd (F_M_isGood τ') fun a10 s11 => zt_ck (zt_in a10) <| if a10 = (0 : Int) then some (((-10 : Int) - (s11.1 163 16)), s11) else zt_bd (F_M_copies 165 274 164 274 (0 : Int) (0 : Int) s11) fun _ s13 => zt_let (zt_up s13 163 5 (0 : Int)) fun s14 => zt_let (zt_up s14 163 6 (0 : Int)) fun s15 => some (((s15.1 164 (1 : Int)) * (s15.1 164 (2 : Int))), s15)) := by
      intro τ0 e0
      obtain ⟨τa, hτa⟩ : ∃ x, x = zt_up (zt_up (zt_up (zt_up (zt_up (zt_up τ0 163 0 0) 163 10 v) 163 9 0) 163 11 0) 163 16 0) 163 17 (-1) := ⟨_, rfl⟩
      have a0 : ∀ c j, (c ≠ 163 ∨ (j ≠ 0 ∧ j ≠ 10 ∧ j ≠ 9 ∧ j ≠ 11 ∧ j ≠ 16 ∧ j ≠ 17)) → τa.1 c j = τ0.1 c j := fun c j hc => by
        rw [hτa]
        simp (disch := omega) only [up_o]
      have a11 : τa.1 163 11 = 0 := by rw [hτa]; simp (disch := omega) only [up_o, up_s]
      have mb : MBY B v τa := ⟨by omega, by rw [hτa]; simp (disch := omega) only [up_o, up_s], fun j j0 j1 => by
        have := h5.2.2 j j0 (by omega)
        rw [a0 _ _ (by omega), e0 _ _ (by omega), hBe]
        exact ⟨rfl, this.1⟩⟩
      obtain ⟨τb, n1, n2, n3⟩ := em_next mb (by rw [a11]; omega)
      rw [a11] at n2
      have mp1 : MP B v τb s0 := ⟨mb.f n3, ⟨by show (0 : Int) ≤ 0; omega, by show (0 : Int) ≤ v; omega⟩, n2, by rw [n3.1 _ _ (by omega), hτa]; simp (disch := omega) only [up_o, up_s]; rfl, by rw [n3.1 _ _ (by omega), hτa]; simp (disch := omega) only [up_s]; rfl, by show (0 : Int) ≤ 0 ∧ (0 : Int) ≤ 3; omega, by show (-1 : Int) ≤ -1 ∧ (-1 : Int) ≤ 500; omega⟩
      have r165 : τb.1 165 = u := funext fun j => by rw [n3.1 _ _ (by omega), a0 _ _ (by omega), e0 _ _ (by omega), hu]
      obtain ⟨τ', m1, m2, m3, m4⟩ := em_readsAll mp1 r165
      refine ⟨τ', m2, m3, fun c j c1 c2 c3 => ?_, fun c j c1 => ?_, ?_, ?_, ?_, ?_⟩
      · rw [m4.1 c j c1 c2 (by omega), n3.1 c j (by omega), a0 c j (by omega)]
      · rw [m4.2.1 c j (Or.inl c1), n3.2.1 c j (Or.inl c1), hτa]
        rfl
      · rw [m4.2.2, n3.2.2, hτa]
        rfl
      · rw [m4.1 _ _ (by omega) (by omega) (by omega), n3.1 _ _ (by omega), hτa]
        simp (disch := omega) only [up_o, up_s]
      · rw [m4.1 _ _ (by omega) (by omega) (by omega), n3.1 _ _ (by omega), hτa]
        simp (disch := omega) only [up_o, up_s]
      · have e9 : (zt_up τ0 163 0 0).1 163 9 = σ.1 163 9 := by rw [up_o (by omega), e0 _ _ (by omega)]
        unfold F_M_load
        rw [zt_letS, e9, eb_inI zl_0 rfl hi (by decide) (by unfold zt_in; omega) (by omega), eb_fails1 (up_s _ _ _ _), zt_ckI (by decide), if_pos rfl]
        unfold F_M_starts
        rw [zt_letS, zt_letS, zt_letS, zt_letS, zt_letS, ← hτa, n1, zt_bdS, zt_bdS, m1, zt_bdS]
    by_cases g : (zE B v u).2.1 = 0
    · -- a good script
      obtain ⟨σh, t1, t2, t3, t4, t5, t6⟩ := ec_handOut r2 hxE hkE g r4
      obtain ⟨w, hw⟩ : ∃ w, w = fin (zE B v u).1 (kE B v u) := ⟨_, rfl⟩
      rw [← hw] at t2 t3
      have fo := fin_ok hxE (k := kE B v u) (fun k0 => by
        rcases hkE g with x | x
        · exact x.2
        · exact absurd k0 x.1)
      rw [← hw] at fo
      have ri := fo.1
      have a := ri.n
      have f := fo.2
      have w14 : w 14 = 0 := by rw [f _ (by omega)]; exact hxE.2.2.2.2.2.2.1
      have w20 : ∀ i, 20 ≤ i → i < 40 → w i = 0 := fun i i0 i1 => by rw [f _ (by omega)]; exact hxE.2.2.2.2.2.2.2 i i0 i1
      obtain ⟨σb, k1, k2, k3, k4⟩ := e_SuCopy (σ := zt_up σh 0 1 0) (t0 := 3) (t1 := 129) (by decide)
      have k0 : ∀ c j, c ≠ 3 → (c ≠ 0 ∨ j ≠ 1) → σb.1 c j = σh.1 c j := fun c j c1 c2 => by rw [k3 c j c1, up_o c2]
      have tbb : TB σb 130 w := t2.ag (fun c j c1 c2 => k0 c j (by omega) (by omega)) (fun c j c1 c2 => by rw [k2, up_2])
      have b13 : σb.1 130 13 = w 7 := tbb.2.2.2.2.2.2.2.2.1
      obtain ⟨σc, c1, c2⟩ := ec_copyFrom (σ := σb) (t0 := 6) (t1 := 130) (by decide) (by omega)
      have tbc := TB.cp c2 ri tbb
      obtain ⟨σe, hσe⟩ : ∃ x, x = zt_up (zt_up (zt_up σc 16 1 0) 16 2 0) 0 8 0 := ⟨_, rfl⟩
      have su3 : ∀ j, 0 ≤ j → j < 4 → σe.1 3 j = σh.1 129 j := fun j j0 j1 => by
        rw [hσe, up_o (by omega), up_o (by omega), up_o (by omega), (c2.1.1 3 j (by omega)).1, k4 j j0 j1, up_o (by omega)]
      have suw : SUw σe 3 w := ⟨by rw [su3 _ (by omega) (by omega)]; exact t3.1, by rw [su3 _ (by omega) (by omega)]; exact t3.2.1, by rw [su3 _ (by omega) (by omega)]; exact t3.2.2.1, by rw [su3 _ (by omega) (by omega)]; exact t3.2.2.2⟩
      have fr : ∀ c j, c ≠ 2 → c ≠ 3 → c ≠ 5 → c ≠ 16 → (c < 6 ∨ 15 < c) → (c < 128 ∨ 139 < c) → (c ≠ 0 ∨ (j ≠ 1 ∧ j ≠ 8)) → σe.1 c j = σ.1 c j := fun c j d1 d2 d3 d4 d5 d6 d7 => by
        rw [hσe, up_o (by omega), up_o (by omega), up_o (by omega), (c2.1.1 c j (by omega)).1, k0 c j d2 (by omega), t4 c j d3 (by omega), r3.1 c j d1 d6]
      have fl2 : ∀ c j, (c < 6 ∨ 15 < c) → (c < 128 ∨ 139 < c) → σe.2.1 c j = σ.2.1 c j := fun c j d5 d6 => by
        rw [hσe, up_2, up_2, up_2, (c2.1.1 c j (by omega)).2, k2, up_2, t5 c j (by omega), r3.2.1 c j d6]
      have fl3 : σe.2.2 = σ.2.2 := by rw [hσe, up_2, up_2, up_2, c2.1.2, k2, up_2, t6, r3.2.2]
      have cl : F_L_load v σ = some (0, zt_uL σe 184 0 (zt_l (w 1 * w 2))) := by
        have e6 : σh.1 2 6 = 0 := by rw [t4 _ _ (by decide) (by decide)]; exact r2.1.2.2.2.1.trans g
        have c65 : F_TR_read_65 σr = some (0, σh) := by
          unfold F_TR_read_65 F_TR_read_79
          rw [e_hasFailed r2.1, zt_bdS, if_pos g, zt_ckI (by decide), if_pos rfl, t1, zt_bdS, e6]
        unfold F_L_load F_C_load F_Hi_clear
        rw [zt_ckI hi, if_neg (by omega), zt_ckI ⟨hi, by unfold zt_in; omega⟩, if_neg (by omega), r1, c65, zt_bdS, zt_letS, zt_ckI (by decide), if_pos rfl, k1, zt_bdS, c1, zt_bdS, zt_letS, zt_letS, zt_bdS, zt_letS, ← hσe, ed_cardsOfHands suw, zt_bxS, zt_letS]
      obtain ⟨τ', q1, q2, q3, q4, q5, q6, q7, q8⟩ := ref (zt_uL σe 184 0 (zt_l (w 1 * w 2))) (fun c j d => fr c j (by omega) (by omega) (by omega) (by omega) (by omega) (by omega) (by omega))
      have q2 := q2 g
      rw [← hw] at q2
      obtain ⟨φ, hφ⟩ : ∃ x, x = zt_up (zt_up (zt_cI τ' 165 164 0 0 274) 163 5 0) 163 6 0 := ⟨_, rfl⟩
      have p1 : ∀ c j, c ≠ 164 → (c ≠ 163 ∨ (j ≠ 5 ∧ j ≠ 6)) → φ.1 c j = τ'.1 c j := fun c j d1 d2 => by rw [hφ, up_o (by omega), up_o (by omega), cI_o d1]
      have p2 : φ.2 = τ'.2 := by rw [hφ]; rfl
      have eq : EQ w (φ.1 164) := fun j j0 j1 => by
        rw [hφ, up_o (by omega), up_o (by omega), cI_s ⟨by omega, by omega⟩, q2, show 0 + (j - 0) = j by omega]
      have p0 : ∀ c j, c ≠ 2 → c ≠ 3 → c ≠ 5 → c ≠ 16 → (c < 6 ∨ 15 < c) → (c < 128 ∨ 139 < c) → (c ≠ 0 ∨ (j ≠ 1 ∧ j ≠ 8)) → c ≠ 164 → c ≠ 165 → c ≠ 168 → (c ≠ 163 ∨ j = 31) → φ.1 c j = σ.1 c j := fun c j d1 d2 d3 d4 d5 d6 d7 d8 d9 d10 d11 => by
        rw [p1 c j d8 (by omega), q3 c j d9 d10 (by omega)]
        exact fr c j d1 d2 d3 d4 d5 d6 d7
      have pl : ∀ c j, (c < 6 ∨ 15 < c) → (c < 128 ∨ 139 < c) → c ≠ 163 → c ≠ 184 → φ.2.1 c j = σ.2.1 c j := fun c j d1 d2 d3 d4 => by
        rw [p2, q4 c j d3, uL_o (Or.inl d4), fl2 c j d1 d2]
      have pe : ∀ c j, c < 163 → φ.1 c j = σe.1 c j := fun c j d => by
        rw [p1 c j (by omega) (by omega), q3 c j (by omega) (by omega) (by omega), uL_1]
      have z163 : φ.1 163 5 = 0 ∧ φ.1 163 6 = 0 := ⟨by rw [hφ, up_o (by omega), up_s], by rw [hφ, up_s]⟩
      have e164 : φ.1 164 1 * φ.1 164 2 = w 1 * w 2 := by rw [eq 1 (by omega) (by omega), eq 2 (by omega) (by omega)]
      refine ⟨0, w 1 * w 2, zt_uL σe 184 0 (zt_l (w 1 * w 2)), φ, cl, ?_, ?_, by omega, fun _ => ?_, ?_⟩
      · rw [q8, em_isGood q1, zt_bdS, if_pos g, zt_ckI (by decide), if_neg (by decide), eb_copies ⟨by omega, by omega⟩ ⟨by omega, by omega⟩ (Or.inl (by decide)), zt_letS, zt_letS, ← hφ, e164]
      · rw [p1 _ _ (by omega) (by omega)]; exact q7
      · rw [p2, q4 _ _ (by omega), uL_s]
      · have tb6 : TB φ 6 w := TB.ag (σ := σc) (fun c j d1 d2 => by rw [pe c j (by omega), hσe, up_o (by omega), up_o (by omega), up_o (by omega)]) (fun c j d1 d2 => by
          rw [p2, q4 c j (by omega), uL_o (Or.inl (by omega)), hσe]
          rfl) tbc
        refine ⟨⟨eq.i ri, eq.tb ri tb6, ?_⟩, eq.rb ⟨by omega, fun p d0 d1 => by rw [w20 _ (by omega) (by omega)]; omega⟩, ⟨by rw [z163.1]; omega, ?_, ?_, fun i d0 d1 => by rw [z163.1] at d1; omega⟩, ⟨?_, Or.inl z163.2⟩, ⟨?_, ?_, fun j d0 d1 => ?_⟩, ⟨?_, ?_⟩, h7.ag (fun c j d0 d1 => p0 c j (by omega) (by omega) (by omega) (by omega) (by omega) (by omega) (by omega) (by omega) (by omega) (by omega) (by omega)) (p0 _ _ (by omega) (by omega) (by omega) (by omega) (by omega) (by omega) (by omega) (by omega) (by omega) (by omega) (by omega)) (fun j => p0 _ _ (by omega) (by omega) (by omega) (by omega) (by omega) (by omega) (by omega) (by omega) (by omega) (by omega) (by omega)), h8.ag (by omega) (fun c j d0 d1 => pl c j (by omega) (by omega) (by omega) (by omega)), ?_⟩
        · have x := suw
          unfold SUw at x ⊢
          rw [eq 0 (by omega) (by omega), eq 1 (by omega) (by omega), eq 2 (by omega) (by omega), eq 5 (by omega) (by omega), pe _ _ (by omega), pe _ _ (by omega), pe _ _ (by omega), pe _ _ (by omega)]
          exact x
        · rw [z163.1, pe _ _ (by omega), hσe, up_o (by omega), up_s]
        · rw [pe _ _ (by omega), hσe, up_o (by omega), up_o (by omega), up_s]; omega
        · rw [z163.2, pe _ _ (by omega), hσe, up_s]
        · rw [pe _ _ (by omega), hσe, up_o (by omega), up_o (by omega), up_o (by omega), (c2.1.1 0 1 (by omega)).1, k3 _ _ (by omega), up_s, p1 _ _ (by omega) (by omega), q6]
        · rw [p1 _ _ (by omega) (by omega), q6]; omega
        · rw [p1 _ _ (by omega) (by omega), q6] at d1; omega
        · rw [pe _ _ (by omega), hσe, up_o (by omega), up_o (by omega), up_o (by omega), (c2.1.1 2 7 (by omega)).1, k0 _ _ (by omega) (by omega), t4 _ _ (by omega) (by omega), r2.1.2.2.2.2.1, p1 _ _ (by omega) (by omega), q1.2.2.2.2.1]
        · rw [p1 _ _ (by omega) (by omega), q1.2.2.2.2.1]
          have := q1.2.2.2.2.2.2
          unfold zt_in; omega
        · rw [p2, q5, uL_3, fl3]; omega
    · -- a faulty script
      have cl : F_L_load v σ = some (0, zt_uL (zt_up σr 0 1 0) 184 0 (zt_l (-10 - (zE B v u).2.1))) := by
        have e6 : σr.1 2 6 = (zE B v u).2.1 := r2.1.2.2.2.1
        have b6 := r2.1.2.2.2.2.2.1
        have c65 : F_TR_read_65 σr = some ((zE B v u).2.1, σr) := by
          unfold F_TR_read_65 F_TR_read_79
          rw [e_hasFailed r2.1, zt_bdS, if_neg g, zt_ckI (by decide), if_neg (by decide), e6]
        unfold F_L_load F_C_load
        rw [zt_ckI hi, if_neg (by omega), zt_ckI ⟨hi, by unfold zt_in; omega⟩, if_neg (by omega), r1, c65, zt_bdS, zt_letS, zt_ckI (by unfold zt_in; omega), if_neg g, zt_bxS, zt_letS]
      have fr : ∀ c j, c ≠ 2 → (c < 128 ∨ 139 < c) → (c ≠ 0 ∨ j ≠ 1) → (zt_uL (zt_up σr 0 1 0) 184 0 (zt_l (-10 - (zE B v u).2.1))).1 c j = σ.1 c j := fun c j d1 d2 d3 => by
        rw [uL_1, up_o d3, r3.1 c j d1 d2]
      obtain ⟨τ', q1, q2, q3, q4, q5, q6, q7, q8⟩ := ref (zt_uL (zt_up σr 0 1 0) 184 0 (zt_l (-10 - (zE B v u).2.1))) (fun c j d => fr c j (by omega) (by omega) (by omega))
      refine ⟨0, -10 - (zE B v u).2.1, _, τ', cl, ?_, q7, by omega, fun _ => ?_, ?_⟩
      · rw [q8, em_isGood q1, zt_bdS, if_neg g, zt_ckI (by decide), if_pos rfl, q1.2.2.2.1]
      · rw [q4 _ _ (by omega), uL_s]
      · refine h.ld (fun c j d1 d2 d3 d4 d5 d6 => by rw [q3 c j d2 d3 d6, fr c j d1 d4 d5]) (fun c j d1 d2 d3 => by rw [q4 c j d2, uL_o (Or.inl d3), up_2, r3.2.1 c j d1]) (by rw [q5, uL_3, up_2, r3.2.2]) ⟨?_, ?_, fun j d0 d1 => ?_⟩ ⟨?_, ?_⟩
        · rw [q6, q3 _ _ (by omega) (by omega) (by omega), uL_1, up_s]
        · rw [q6]; omega
        · rw [q6] at d1; omega
        · rw [q3 _ _ (by omega) (by omega) (by omega), uL_1, up_o (by omega), r2.1.2.2.2.2.1, q1.2.2.2.2.1]
        · rw [q1.2.2.2.2.1]
          have := q1.2.2.2.2.2.2
          unfold zt_in; omega
  · refine op_no h (e := 1) (u := 0) (Or.inl rfl) ?_ ?_
    · unfold F_L_load F_C_load F_C_load_12
      rw [zt_ckI hi]
      by_cases y : v < 0
      · rw [if_pos y]
        rfl
      · rw [if_neg y, zt_ckI ⟨hi, by rw [h5.1]; unfold zt_in; omega⟩, if_pos (by omega)]
        rfl
    · have e9 : (zt_up (zt_nx σ) 163 0 0).1 163 9 = σ.1 163 9 := up_o (by omega)
      have b1 := h5.1
      unfold F_M_load
      rw [zt_letS, e9, eb_inO zl_0 rfl hi (by decide) (by unfold zt_in; omega) (by omega), eb_fails0 (Or.inl rfl) (up_s _ _ _ _), zt_ckI (by decide), if_neg (by decide), up_up]
end LO
