section QP
variable {σ τ : zt_S} {n v : Int}
theorem op_query (h : Inv n σ) (hi : zt_in v) : OP (n + 1) (F_L_query v) (F_M_query v) σ := by
  obtain ⟨hc, h2, h3, h4, h5, h6, h7, h8, h9⟩ := id h
  have b0 := h5.2.1
  have b1 := h5.1
  have a := hc.1.n
  have less : ∀ t : zt_S, t.1 163 9 = σ.1 163 9 → F_M_lesser (t.1 163 9) 200 t = some (if σ.1 163 9 < 200 then σ.1 163 9 else 200, t) := by
    intro t e
    unfold F_M_lesser F_M_lesser_10
    rw [e, zt_ckI ⟨by unfold zt_in; omega, by decide⟩]
    split <;> rfl
  obtain ⟨mx, hmx⟩ : ∃ mx : Int, mx = (if σ.1 163 9 < 200 then σ.1 163 9 else 200) := ⟨_, rfl⟩
  have mxr : 0 ≤ mx ∧ mx ≤ 200 ∧ (mx ≤ σ.1 163 9) ∧ (σ.1 163 9 < 200 → mx = σ.1 163 9) ∧ (200 ≤ σ.1 163 9 → mx = 200) := by rw [hmx]; split <;> omega
  by_cases hv : 0 ≤ v ∧ v ≤ mx
  · have hN : 0 ≤ v ∧ v ≤ 200 := by omega
    obtain ⟨σr, r1, r2, r3, r4⟩ := ec_qread (N := v) h5 (by omega)
    obtain ⟨B, hBe⟩ : ∃ B, B = σ.1 169 := ⟨_, rfl⟩
    rw [← hBe] at r1 r2 r3
    have us := qS_up (B := B) hN.1
    -- the reference, behind a class that has changed its own cells only
    have ref : ∀ τ0 : zt_S, (∀ c j, 163 ≤ c → τ0.1 c j = σ.1 c j) → ∃ τ' v2, MP B v τ' (qZ B v) ∧ ((qZ B v).1 = 0 → CF B v τ' [] (enc (qY B v).1) (qZ B v)) ∧ (∀ c j, c ≠ 181 → c ≠ 182 → (c ≠ 163 ∨ j = 5 ∨ j = 6 ∨ j = 31) → τ'.1 c j = τ0.1 c j) ∧ (∀ c j, c ≠ 163 → τ'.2.1 c j = τ0.2.1 c j) ∧ τ'.2.2 = τ0.2.2 ∧ τ'.1 163 9 = 0 ∧ τ'.1 163 0 = 0 ∧ (v2 = 0 ↔ qM B v = true) ∧ zt_in v2 ∧ F_M_query v τ0 = (zt_bd (F_M_isGood τ') fun a18 s19 => zt_ck (zt_in a18) <| if a18 = (0 : Int) then some (((-1000000000 : Int) - (s19.1 163 16)), s19) else F_M_query_90 zt_N v2 (0 : Int) (0 : Int) s19) := by
      intro τ0 e0
      obtain ⟨τa, hτa⟩ : ∃ x, x = zt_up (zt_up (zt_up (zt_up (zt_up (zt_up τ0 163 0 0) 163 10 v) 163 9 0) 163 11 0) 163 16 0) 163 17 (-1) := ⟨_, rfl⟩
      have a0 : ∀ c j, (c ≠ 163 ∨ (j ≠ 0 ∧ j ≠ 10 ∧ j ≠ 9 ∧ j ≠ 11 ∧ j ≠ 16 ∧ j ≠ 17)) → τa.1 c j = τ0.1 c j := fun c j hc => by
        rw [hτa]
        simp (disch := omega) only [up_o]
      have a11 : τa.1 163 11 = 0 := by rw [hτa]; simp (disch := omega) only [up_o, up_s]
      have mb : MBY B v τa := ⟨by omega, by rw [hτa]; simp (disch := omega) only [up_o, up_s], fun j j0 j1 => by
        have := h5.2.2 j j0 (by omega)
        rw [a0 _ _ (by omega), e0 _ _ (by omega), hBe]
        exact ⟨rfl, this.1⟩⟩
      obtain ⟨τb, n1, n2, n3⟩ := em_next mb (by rw [a11]; omega)
      rw [a11] at n2
      have mp1 : MP B v τb s0 := ⟨mb.f n3, ⟨by show (0 : Int) ≤ 0; omega, by show (0 : Int) ≤ v; omega⟩, n2, by rw [n3.1 _ _ (by omega), hτa]; simp (disch := omega) only [up_o, up_s]; rfl, by rw [n3.1 _ _ (by omega), hτa]; simp (disch := omega) only [up_s]; rfl, by show (0 : Int) ≤ 0 ∧ (0 : Int) ≤ 3; omega, by show (-1 : Int) ≤ -1 ∧ (-1 : Int) ≤ 500; omega⟩
      -- behind the first word
      have rest : ∀ (τc : zt_S) (v2 : Int), MP B v τc (qS B v) → FT3 τb τc → (v2 = 0 ↔ qM B v = true) → zt_in v2 → F_M_query v τ0 = F_M_query_65 v2 τc → ∃ τ' v2, MP B v τ' (qZ B v) ∧ ((qZ B v).1 = 0 → CF B v τ' [] (enc (qY B v).1) (qZ B v)) ∧ (∀ c j, c ≠ 181 → c ≠ 182 → (c ≠ 163 ∨ j = 5 ∨ j = 6 ∨ j = 31) → τ'.1 c j = τ0.1 c j) ∧ (∀ c j, c ≠ 163 → τ'.2.1 c j = τ0.2.1 c j) ∧ τ'.2.2 = τ0.2.2 ∧ τ'.1 163 9 = 0 ∧ τ'.1 163 0 = 0 ∧ (v2 = 0 ↔ qM B v = true) ∧ zt_in v2 ∧ F_M_query v τ0 = (zt_bd (F_M_isGood τ') fun a18 s19 => zt_ck (zt_in a18) <| if a18 = (0 : Int) then some (((-1000000000 : Int) - (s19.1 163 16)), s19) else F_M_query_90 zt_N v2 (0 : Int) (0 : Int) s19) := by
        intro τc v2 m1 m2 m3 m4 m5
        obtain ⟨τ', k1, k2, k3, k4⟩ := em_qread m1 hN.2
        refine ⟨τ', v2, k2, k4, fun c j c1 c2 c3 => ?_, fun c j c1 => ?_, ?_, ?_, ?_, m3, m4, ?_⟩
        · rw [k3.1 c j c1 c2 (by omega), m2.1 c j (by omega), n3.1 c j (by omega), a0 c j (by omega)]
        · rw [k3.2.1 c j (Or.inl c1), m2.2.1 c j (Or.inl c1), n3.2.1 c j (Or.inl c1), hτa]
          rfl
        · rw [k3.2.2, m2.2.2, n3.2.2, hτa]
          rfl
        · rw [k3.1 _ _ (by omega) (by omega) (by omega), m2.1 _ _ (by omega), n3.1 _ _ (by omega), hτa]
          simp (disch := omega) only [up_o, up_s]
        · rw [k3.1 _ _ (by omega) (by omega) (by omega), m2.1 _ _ (by omega), n3.1 _ _ (by omega), hτa]
          simp (disch := omega) only [up_o, up_s]
        · rw [m5]
          unfold F_M_query_65
          rw [k1, zt_bdS]
      have e9 : (zt_up τ0 163 0 0).1 163 9 = σ.1 163 9 := by rw [up_o (by omega), e0 _ _ (by omega)]
      have start : F_M_query v τ0 = (zt_bd (F_M_passes (3379448 : Int64) τb) fun a10 s11 => zt_ck (zt_in a10) <| if a10 = (0 : Int) then zt_bd (F_M_passes (257011 : Int64) s11) fun a12 s13 => zt_ck (zt_in a12) <| if a12 = (0 : Int) then zt_bd (F_M_wrongs (1 : Int) s13) fun a14 s15 => F_M_query_65 a10 s15 else F_M_query_65 a10 s13 else F_M_query_65 a10 s11) := by
        unfold F_M_query
        rw [zt_letS, less _ e9, zt_bdS, ← hmx, eb_inI zl_0 rfl hi (by decide) (by unfold zt_in; omega) hv, eb_fails1 (up_s _ _ _ _), zt_ckI (by decide), if_pos rfl]
        unfold F_M_starts
        rw [zt_letS, zt_letS, zt_letS, zt_letS, zt_letS, ← hτa, n1, zt_bdS, zt_bdS]
      obtain ⟨τ1, p1, p2, p3⟩ := em_passes (k := 11) (by decide) hW_11.symm mp1
      unfold pWd at p2
      by_cases w11 : pWb B v (q_big + 1 + 11) s0 = true
      · have w10 := wo_10_11 w11 mp1.2.1
        have es : qS B v = pX B v s0 := by
          unfold qS qM pNW
          rw [if_neg w10, if_pos w11]
        rw [if_pos w11] at p2
        refine rest τ1 1 (by rw [es]; exact p2) p3 ⟨fun z => absurd z (by decide), fun z => absurd z w10⟩ (by decide) ?_
        rw [start, p1, zt_bdS, if_pos w11, zt_ckI (by decide), if_neg (by decide)]
      · rw [if_neg w11] at p2
        obtain ⟨τ2, q1, q2, q3⟩ := em_passes (k := 10) (by decide) hW_10.symm p2
        unfold pWd at q2
        by_cases w10 : pWb B v (q_big + 1 + 10) s0 = true
        · have es : qS B v = pX B v s0 := if_pos w10
          rw [if_pos w10] at q2
          refine rest τ2 0 (by rw [es]; exact q2) (p3.tr q3) ⟨fun _ => w10, fun _ => rfl⟩ (by decide) ?_
          rw [start, p1, zt_bdS, if_neg w11, zt_ckI (by decide), if_pos rfl, q1, zt_bdS, if_pos w10, zt_ckI (by decide), if_neg (by decide)]
        · rw [if_neg w10] at q2
          obtain ⟨τ3, t1, t2, t3⟩ := em_wrongs (k := 1) q2 (by decide)
          have es : qS B v = pF B v 1 s0 := by
            unfold qS qM pNW
            rw [if_neg w10, if_neg w11]
          have ne : ¬ (qS B v).1 = 0 := by rw [es]; exact pF_ne (by decide)
          have ez : qZ B v = qS B v := by
            have e : (qY B v).2 = qS B v := ts_f ne
            unfold qZ
            rw [e, pF_f ne]
            split <;> rfl
          obtain ⟨τ', k1, k2, k3, k4⟩ := em_qread (by rw [es]; exact t2) hN.2
          have fr := (p3.tr q3).tr t3
          refine ⟨τ', if qM B v = true then 0 else 1, k2, k4, fun c j c1 c2 c3 => ?_, fun c j c1 => ?_, ?_, ?_, ?_, ?_, ?_, ?_⟩
          · rw [k3.1 c j c1 c2 (by omega), fr.1 c j (by omega), n3.1 c j (by omega), a0 c j (by omega)]
          · rw [k3.2.1 c j (Or.inl c1), fr.2.1 c j (Or.inl c1), n3.2.1 c j (Or.inl c1), hτa]
            rfl
          · rw [k3.2.2, fr.2.2, n3.2.2, hτa]
            rfl
          · rw [k3.1 _ _ (by omega) (by omega) (by omega), fr.1 _ _ (by omega), n3.1 _ _ (by omega), hτa]
            simp (disch := omega) only [up_o, up_s]
          · rw [k3.1 _ _ (by omega) (by omega) (by omega), fr.1 _ _ (by omega), n3.1 _ _ (by omega), hτa]
            simp (disch := omega) only [up_o, up_s]
          · by_cases y : qM B v = true
            · rw [if_pos y]; exact ⟨fun _ => y, fun _ => rfl⟩
            · rw [if_neg y]; exact ⟨fun z => absurd z (by decide), fun z => absurd z y⟩
          · split <;> decide
          · rw [start, p1, zt_bdS, if_neg w11, zt_ckI (by decide), if_pos rfl, q1, zt_bdS, if_neg w10, zt_ckI (by decide), if_pos rfl, t1, zt_bdS]
            unfold F_M_query_65
            rw [k1, zt_bdS, em_isGood k2, zt_bdS, zt_bdS, if_neg (by rw [ez]; exact ne), zt_ckI (by decide), if_pos rfl, zt_ckI (by decide), if_pos rfl]
    -- what the class leaves
    have fc : ∀ c j, c ≠ 2 → (c < 128 ∨ 143 < c) → (c ≠ 0 ∨ j ≠ 1) → (zt_up σr 0 1 0).1 c j = σ.1 c j := fun c j d1 d2 d3 => by
      rw [up_o d3, r4.1 c j d1 (by omega) (by omega) (by omega) (by omega)]
    have fc2 : (zt_up σr 0 1 0).2 = σ.2 := by rw [up_2]; exact r4.2
    have row : (zt_up σr 0 1 0).1 164 = σ.1 164 := funext fun j => fc _ _ (by omega) (by omega) (by omega)
    -- the invariant behind both
    have inv : ∀ (x : Int) (τ' τ'' : zt_S), MP B v τ' (qZ B v) → (∀ c j, c ≠ 181 → c ≠ 182 → (c ≠ 163 ∨ j = 5 ∨ j = 6 ∨ j = 31) → τ'.1 c j = (zt_uL (zt_up σr 0 1 0) 184 0 (zt_l x)).1 c j) → (∀ c j, c ≠ 163 → τ'.2.1 c j = (zt_uL (zt_up σr 0 1 0) 184 0 (zt_l x)).2.1 c j) → τ'.2.2 = (zt_uL (zt_up σr 0 1 0) 184 0 (zt_l x)).2.2 → τ'.1 163 9 = 0 → FA τ' τ'' → Inv (n + 1) τ'' := by
      intro x τ' τ'' q1 q3 q4 q5 q6 g
      have e9 : τ''.1 163 9 = 0 := by rw [g.1 _ _ (by omega)]; exact q6
      have e17 : τ''.1 163 17 = (qZ B v).2.1 := by rw [g.1 _ _ (by omega)]; exact q1.2.2.2.2.1
      refine h.lq (fun c j d1 d2 d3 d4 d5 d6 d7 d8 d9 => by rw [g.1 c j d6, q3 c j d4 d5 d9, uL_1]; exact fc c j d1 d7 d8) (fun c j d1 d2 d3 => by rw [g.2, q4 c j d2, uL_o (Or.inl d3), fc2]) (by rw [g.2, q5, uL_3, fc2]) ⟨?_, ?_, fun j d0 d1 => ?_⟩ ⟨?_, ?_⟩
      · rw [e9, g.1 _ _ (by omega), q3 _ _ (by omega) (by omega) (by omega), uL_1, up_s]
      · rw [e9]; omega
      · rw [e9] at d1; omega
      · rw [e17, g.1 _ _ (by omega), q3 _ _ (by omega) (by omega) (by omega), uL_1, up_o (by omega)]
        exact r2.1.2.2.2.2.1
      · rw [e17]
        have := q1.2.2.2.2.2.2
        unfold zt_in; omega
    have zr := r2.1.2.2.2.2.2.1
    by_cases g : (qZ B v).1 = 0
    · -- a good query
      obtain ⟨o1, o2, o3⟩ := qE_ok (B := B) hN g
      obtain ⟨w, hw⟩ : ∃ w, w = σ.1 164 := ⟨_, rfl⟩
      obtain ⟨H, hH⟩ : ∃ H : Int → Bool, H = fun c => (ev (cw w c) (qY B v).1).headD false := ⟨_, rfl⟩
      have hev : ∀ c, ev (cw w c) (qY B v).1 = [H c] := by
        intro c
        have l := (ok_len (cv := cw w c) _ o1).2.2
        rw [o2] at l
        rw [hH]
        match he : ev (cw w c) (qY B v).1 with
        | [] => rw [he] at l; simp at l
        | [x] => simp [he]
        | x :: y :: r => rw [he] at l; simp at l; omega
      have cc : CO (zt_up σr 0 1 0) := by
        refine ⟨by rw [row]; exact hc.1, by rw [row]; exact hc.2.1.ag (fun c j d0 d1 => fc c j (by omega) (by omega) (by omega)) (fun c j d0 d1 => by rw [fc2]), ?_⟩
        have q := hc.2.2
        unfold SUw at q ⊢
        rw [row, fc _ _ (by omega) (by omega) (by omega), fc _ _ (by omega) (by omega) (by omega), fc _ _ (by omega) (by omega) (by omega), fc _ _ (by omega) (by omega) (by omega)]
        exact q
      obtain ⟨L, l1, l2⟩ := ec_allowedCards cc.hu cc.1 cc.2.1
      have qc : QC B v (zt_up σr 0 1 0) ((qY B v).1, qZ B v) := ⟨r2.1.l (fun j => up_o (by omega)) (fun j _ _ => up_o (by omega)), by rw [up_o (by omega)]; exact r2.2.1, SC.ag (fun c j _ _ _ => up_o (by omega)) _ r2.2.2⟩
      have cans : F_QR_answer 6 (zt_up σr 0 1 0) = some (an H (qM B v) (4 * w 0).toNat 0 0, zt_up σr 0 1 0) := by
        unfold F_QR_answer
        rw [l1, zt_bdS]
        refine e_an (R := w 0) (by rw [hw]; omega) (by have q := cc.hu.1; rw [row] at q; rw [hw]; exact q) (by rw [up_o (by omega)]; exact r3) (fun c d0 d1 => ?_) (4 * w 0).toNat zt_N 0 0 (by rw [hw]; omega) (zN (by rw [hw]; omega)) (by omega)
        refine e_holds_0 cc ⟨d0, by rw [row, ← hw]; exact d1⟩ l2 qc.2.1 o3 qc.2.2 o1 ?_
        rw [row, ← hw]
        exact hev c
      have ai := an_in (H := H) (m := qM B v) (4 * w 0).toNat 0 0 (by omega) (by omega)
      have cl : F_L_query v σ = some (0, zt_uL (zt_up σr 0 1 0) 184 0 (zt_l (an H (qM B v) (4 * w 0).toNat 0 0))) := by
        unfold F_L_query F_C_query F_C_query_63
        rw [zt_ckI hi, if_neg (by omega), zt_ckI hi, if_neg (by omega), zt_ckI ⟨hi, by unfold zt_in; omega⟩, if_neg (by omega), r1, zt_bdS, zt_letS, zt_ckI (by unfold zt_in; omega), if_pos g, cans, zt_bdS, zt_bxS, zt_letS]
      obtain ⟨τ', v2, q1, q2, q3, q4, q5, q6, q7, q8, q9, q10⟩ := ref (zt_uL (zt_up σr 0 1 0) 184 0 (zt_l (an H (qM B v) (4 * w 0).toNat 0 0))) (fun c j d => fc c j (by omega) (by omega) (by omega))
      have cf := q2 g
      have w' : τ'.1 164 = w := by
        rw [hw]
        exact funext fun j => by rw [q3 _ _ (by omega) (by omega) (by omega), uL_1]; exact fc _ _ (by omega) (by omega) (by omega)
      obtain ⟨τ'', m1, m2⟩ := em_an (H := H) (m := qM B v) (v2 := v2) (w := w) (by rw [hw]; omega) q9 q8 (fun t => t.1 163 35 = ((enc (qY B v).1).length : Int) ∧ EK t (enc (qY B v).1)) (fun t t' p f => ⟨by rw [f.1 _ _ (by omega)]; exact p.1, EK.ag _ (fun j _ _ => f.1 _ _ (by omega)) p.2⟩) (fun t c p e d0 d1 => em_holds_0 (by rw [hw]; exact hc.1) ⟨d0, d1⟩ cf.len.2 o3 o1 e p.1 p.2 (hev c)) (4 * w 0).toNat zt_N 0 0 τ' (by rw [hw]; omega) (zN (by rw [hw]; omega)) (by omega) ⟨cf.2.2.2.1, cf.2.2.2.2.1⟩ w'
      refine ⟨0, an H (qM B v) (4 * w 0).toNat 0 0, _, τ'', cl, ?_, by rw [m2.1 _ _ (by omega)]; exact q7, by omega, fun _ => ?_, inv _ τ' τ'' q1 q3 q4 q5 q6 m2⟩
      · rw [q10, em_isGood q1, zt_bdS, if_pos g, zt_ckI (by decide), if_neg (by decide), m1]
      · rw [m2.2, q4 _ _ (by omega), uL_s]
    · -- a faulty query
      have cl : F_L_query v σ = some (0, zt_uL (zt_up σr 0 1 0) 184 0 (zt_l (-1000000000 - (qZ B v).1))) := by
        have zr' : 0 ≤ (qZ B v).1 ∧ (qZ B v).1 ≤ 3 := zr
        unfold F_L_query F_C_query F_C_query_63
        rw [zt_ckI hi, if_neg (by omega), zt_ckI hi, if_neg (by omega), zt_ckI ⟨hi, by unfold zt_in; omega⟩, if_neg (by omega), r1, zt_bdS, zt_letS, zt_ckI (by unfold zt_in; omega), if_neg g, zt_bxS, zt_letS]
      obtain ⟨τ', v2, q1, q2, q3, q4, q5, q6, q7, q8, q9, q10⟩ := ref (zt_uL (zt_up σr 0 1 0) 184 0 (zt_l (-1000000000 - (qZ B v).1))) (fun c j d => fc c j (by omega) (by omega) (by omega))
      refine ⟨0, -1000000000 - (qZ B v).1, _, τ', cl, ?_, q7, by omega, fun _ => ?_, inv _ τ' τ' q1 q3 q4 q5 q6 FA.rf⟩
      · rw [q10, em_isGood q1, zt_bdS, if_neg g, zt_ckI (by decide), if_pos rfl, q1.2.2.2.1]
      · rw [q4 _ _ (by omega), uL_s]
  · refine op_no h (e := 1) (u := 0) (Or.inl rfl) ?_ ?_
    · unfold F_L_query F_C_query F_C_query_19
      rw [zt_ckI hi]
      by_cases y : v < 0
      · rw [if_pos y]
        rfl
      · rw [if_neg y, zt_ckI hi]
        by_cases y2 : 200 < v
        · rw [if_pos y2]
          rfl
        · rw [if_neg y2, zt_ckI ⟨hi, by rw [b1]; unfold zt_in; omega⟩, if_pos (by omega)]
          rfl
    · have e9 : (zt_up (zt_nx σ) 163 0 0).1 163 9 = σ.1 163 9 := up_o (by omega)
      unfold F_M_query
      rw [zt_letS, less _ e9, zt_bdS, ← hmx, eb_inO zl_0 rfl hi (by decide) (by unfold zt_in; omega) hv, eb_fails0 (Or.inl rfl) (up_s _ _ _ _), zt_ckI (by decide), if_neg (by decide), up_up]
end QP
