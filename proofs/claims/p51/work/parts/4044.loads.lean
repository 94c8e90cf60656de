/-! loads: the text is written, fed and read; the cards are dealt as the law says -/
section TL0
variable {T : zt_T} {σ : zt_S} {w : Int → Int} {l : List Int} {n v : Int}
theorem p_wr {k : Nat} {cs : List Int} (hk : zt_sl k ≤ 10) (hs : wsL k cs = true) (hc : cs.length ≤ 7) (h : TW T l) (hn : l.length ≤ n) (hb : n ≤ 100) : ∃ T', F_P_writes k σ T = some ((), σ, T') ∧ TW T' (l ++ cs) ∧ ((l ++ cs).length ≤ n + cs.length) ∧ TF T T' := by
  obtain ⟨T', a, b, c⟩ := p_writes (σ := σ) hk h hs (by omega) (by omega)
  exact ⟨T', a, b, by rw [List.length_append]; omega, c⟩
theorem p_sp (h : TW T l) (hn : l.length ≤ n) (hb : n ≤ 100) (hv : 0 ≤ v ∧ v < 100000) : ∃ T', F_P_spaced v σ T = some ((), σ, T') ∧ TW T' (l ++ 32 :: dgt v) ∧ ((l ++ 32 :: dgt v).length ≤ n + 6) ∧ TF T T' := by
  obtain ⟨T', a, b, c⟩ := p_spaced (σ := σ) h (by omega) hv
  have d := (dg_v hv).2.2.2
  exact ⟨T', a, b, by rw [List.length_append, List.length_cons]; omega, c⟩
set_option maxRecDepth 20000 in
theorem sl_law : (zt_sl (q_big + 1 + 10) ≤ 10 ∧ zt_sl (q_big + 1 + 12) ≤ 10 ∧ zt_sl (q_big + 1 + 13) ≤ 10 ∧ zt_sl (q_big + 1 + 14) ≤ 10 ∧ zt_sl (q_big + 1 + 15) ≤ 10 ∧ zt_sl (q_big + 1 + 16) ≤ 10 ∧ zt_sl (q_big + 1 + 17) ≤ 10 ∧ zt_sl (q_big + 1 + 18) ≤ 10 ∧ zt_sl (q_big + 1 + 19) ≤ 10) ∧ wsL (q_big + 1 + 10) tBlue = true ∧ wsL (q_big + 1 + 12) (32 :: tRule) = true ∧ wsL (q_big + 1 + 13) (32 :: tTrump) = true ∧ wsL (q_big + 1 + 14) (32 :: tGlow) = true ∧ wsL (q_big + 1 + 15) (32 :: tFade) = true ∧ wsL (q_big + 1 + 16) (32 :: tRevive) = true ∧ wsL (q_big + 1 + 17) (32 :: tLead) = true ∧ wsL (q_big + 1 + 18) (32 :: tSeed) = true ∧ wsL (q_big + 1 + 19) [59] = true := by decide +kernel
theorem AT_all {B : Int → Int} {N : Int} {p : Int → Prop} : ∀ (l : List Int) (i : Int), AT B N i l → (∀ c ∈ l, p c) → ∀ j, i ≤ j → j < N → p (B j)
  | [], i, h, _, j, h0, h1 => by
    have h : i = N := h
    omega
  | c :: l, i, h, hp, j, h0, h1 => by
    by_cases hj : j = i
    · rw [hj, h.1]; exact hp c (List.mem_cons_self ..)
    · exact AT_all l (i + 1) h.2 (fun x hx => hp x (List.mem_cons_of_mem _ hx)) j (by omega) h1
section
variable {R P H q t G F rv L S : Int} {u : Int → Int}
theorem dgt_b {v : Int} (hv : 0 ≤ v ∧ v < 100000) : ∀ c ∈ dgt v, 0 ≤ c ∧ c < 128 := fun c hc => by
  have := (dg_v hv).2.1 c hc
  omega
theorem tx_b {cs : List Int} (h : cs = tBlue ∨ cs = tRule ∨ cs = tTrump ∨ cs = tGlow ∨ cs = tFade ∨ cs = tRevive ∨ cs = tLead ∨ cs = tSeed) : ∀ c ∈ cs, 0 ≤ c ∧ c < 128 := fun c hc => by
  have := (ha_l h).2 c hc
  omega
theorem bb_c {v : Int} {l : List Int} (h : 0 ≤ v ∧ v < 128) (g : ∀ c ∈ l, 0 ≤ c ∧ c < 128) : ∀ c ∈ v :: l, 0 ≤ c ∧ c < 128 := fun c hc => by
  rcases List.mem_cons.mp hc with e | e
  · rw [e]; exact h
  · exact g c e
theorem bb_a {a b : List Int} (h : ∀ c ∈ a, 0 ≤ c ∧ c < 128) (g : ∀ c ∈ b, 0 ≤ c ∧ c < 128) : ∀ c ∈ a ++ b, 0 ≤ c ∧ c < 128 := fun c hc => by
  rcases List.mem_append.mp hc with e | e
  · exact h c e
  · exact g c e
theorem bb_n : ∀ c ∈ ([] : List Int), 0 ≤ c ∧ c < 128 := fun _ hc => nomatch hc
theorem tx_by (hR : 0 ≤ R ∧ R < 100000) (hP : 0 ≤ P ∧ P < 100000) (hH : 0 ≤ H ∧ H < 100000) (hq : 0 ≤ q ∧ q < 100000) (ht : t < 0 ∨ (0 ≤ t ∧ t < 100000)) (hG : 0 ≤ G ∧ G < 100000) (hF : 0 ≤ F ∧ F < 100000) (hL : 0 ≤ L ∧ L < 100000) (hS : 0 ≤ S ∧ S < 100000) : ∀ c ∈ tTx R P H q t G F rv L S, 0 ≤ c ∧ c < 128 := by
  have s : (0 : Int) ≤ 32 ∧ (32 : Int) < 128 := by decide
  have tr : ∀ c ∈ tTr t G F rv, 0 ≤ c ∧ c < 128 := by
    unfold tTr
    split
    · exact bb_n
    · refine bb_c s (bb_a (tx_b (by simp)) (bb_c s (bb_a (dgt_b (by omega)) (bb_c s (bb_a (tx_b (by simp)) (bb_c s (bb_a (dgt_b hG) (bb_c s (bb_a (tx_b (by simp)) (bb_c s (bb_a (dgt_b hF) ?_)))))))))))
      split
      · exact bb_n
      · exact bb_c s (tx_b (by simp))
  unfold tTx
  exact bb_a (tx_b (by simp)) (bb_c s (bb_a (dgt_b hR) (bb_c s (bb_a (dgt_b hP) (bb_c s (bb_a (dgt_b hH) (bb_c s (bb_a (tx_b (by simp)) (bb_c s (bb_a (dgt_b hq) (bb_a tr (bb_c s (bb_a (tx_b (by simp)) (bb_c s (bb_a (dgt_b hL) (bb_c s (bb_a (tx_b (by simp)) (bb_c s (bb_a (dgt_b hS) (bb_c (by decide) bb_n))))))))))))))))))))
/-- the row's words -/
theorem tRow_v (ht : -1 ≤ t) : let r := rL (tRow u R P H q t G F rv L S); r 0 = R ∧ r 1 = P ∧ r 2 = H ∧ r 3 = q ∧ r 4 = t ∧ (t < 0 ∨ r 5 = G) ∧ r 8 = L ∧ r 15 = S ∧ ∀ c, 0 ≤ c → c < 52 → r (40 + c) = -1 := by
  obtain ⟨v0, v1, v2, v3, v4, v5, v6, v7, v8, v15, _⟩ := rBg_v (u := u) (a := R) (b := P) (c := H)
  have v40 := (rBg_r (u := u) (a := R) (b := P) (c := H)).2.2
  dsimp only
  rw [rL_o (by omega), rL_o (by omega), rL_o (by omega), rL_o (by omega), rL_o (by omega), rL_o (by omega), rL_o (by omega), rL_o (by omega)]
  have e40 : ∀ c, 0 ≤ c → c < 52 → rL (tRow u R P H q t G F rv L S) (40 + c) = tRow u R P H q t G F rv L S (40 + c) := fun c h0 h1 => rL_o (by omega)
  unfold tRow at e40 ⊢
  by_cases h1 : t < 0
  · simp only [if_pos h1] at e40 ⊢
    refine ⟨?_, ?_, ?_, ?_, ?_, Or.inl h1, ?_, ?_, fun c h0 h1 => ?_⟩
    · simp (disch := omega) only [ru_o, v0]
    · simp (disch := omega) only [ru_o, v1]
    · simp (disch := omega) only [ru_o, v2]
    · simp (disch := omega) only [ru_o, ru_s]
    · simp (disch := omega) only [ru_o, v4]
      omega
    · simp (disch := omega) only [ru_o, ru_s]
    · simp (disch := omega) only [ru_s]
    · rw [e40 c h0 h1]
      simp (disch := omega) only [ru_o]
      exact v40 _ (by omega) (by omega)
  · simp only [if_neg h1] at e40 ⊢
    by_cases h2 : rv = 0
    · simp only [if_pos h2] at e40 ⊢
      refine ⟨?_, ?_, ?_, ?_, ?_, Or.inr ?_, ?_, ?_, fun c h0 h1 => ?_⟩
      · simp (disch := omega) only [ru_o, v0]
      · simp (disch := omega) only [ru_o, v1]
      · simp (disch := omega) only [ru_o, v2]
      · simp (disch := omega) only [ru_o, ru_s]
      · simp (disch := omega) only [ru_o, ru_s]
      · simp (disch := omega) only [ru_o, ru_s]
      · simp (disch := omega) only [ru_o, ru_s]
      · simp (disch := omega) only [ru_s]
      · rw [e40 c h0 h1]
        simp (disch := omega) only [ru_o]
        exact v40 _ (by omega) (by omega)
    · simp only [if_neg h2] at e40 ⊢
      refine ⟨?_, ?_, ?_, ?_, ?_, Or.inr ?_, ?_, ?_, fun c h0 h1 => ?_⟩
      · simp (disch := omega) only [ru_o, v0]
      · simp (disch := omega) only [ru_o, v1]
      · simp (disch := omega) only [ru_o, v2]
      · simp (disch := omega) only [ru_o, ru_s]
      · simp (disch := omega) only [ru_o, ru_s]
      · simp (disch := omega) only [ru_o, ru_s]
      · simp (disch := omega) only [ru_o, ru_s]
      · simp (disch := omega) only [ru_s]
      · rw [e40 c h0 h1]
        simp (disch := omega) only [ru_o]
        exact v40 _ (by omega) (by omega)
/-- behind the text -/
theorem p_207 {X : q_X} (hx : ∀ tl, l ++ tl = tBlue ++ 32 :: (dgt R ++ 32 :: (dgt P ++ 32 :: (dgt H ++ 32 :: (tRule ++ 32 :: (dgt q ++ (tTr t G F rv ++ tl))))))) (h : TW T l) (hl : l.length ≤ 74) (hT : TI T) (h1 : T.1 < 80000) (hσ : σ.1 0 1 = 0) (hR : 4 ≤ R ∧ R ≤ 9) (hP : 2 ≤ P ∧ P ≤ 4) (hH : 1 ≤ H ∧ H ≤ mH R P) (hq : 0 ≤ q ∧ q ≤ 3) (ht : -1 ≤ t ∧ t ≤ 3) (hG : 0 ≤ G ∧ G ≤ 12) (hF : 0 ≤ F ∧ F ≤ 3) (hL : 0 ≤ L ∧ L < P) (hS : 0 ≤ S ∧ S ≤ 99999) : ∃ σ' T' w, F_P_loads_207 X R P H q t G L S σ T = some (1, σ', T') ∧ PG 0 σ' w ∧ w 12 = 0 ∧ w 13 = 0 ∧ TI T' ∧ T.1 ≤ T'.1 ∧ T'.1 ≤ T.1 + 6 := by
  obtain ⟨⟨s0, s2, s3, s4, s5, s6, s7, s8, s9⟩, -, -, -, -, -, -, z7, z8, z9⟩ := sl_law
  have hm : mH R P ≤ 13 := by unfold mH; split <;> omega
  have tt := h.1
  obtain ⟨T1, a1, b1, c1, d1⟩ := p_wr (σ := σ) s7 z7 (by decide) h (n := 74) (by omega) (by omega)
  rw [show (((32 :: tLead).length : Nat) : Int) = 5 by decide] at c1
  obtain ⟨T2, a2, b2, c2, d2⟩ := p_sp (σ := σ) b1 c1 (by omega) (show 0 ≤ L ∧ L < 100000 by omega)
  obtain ⟨T3, a3, b3, c3, d3⟩ := p_wr (σ := σ) s8 z8 (by decide) b2 c2 (by omega)
  rw [show (((32 :: tSeed).length : Nat) : Int) = 5 by decide] at c3
  obtain ⟨T4, a4, b4, c4, d4⟩ := p_sp (σ := σ) b3 c3 (by omega) (show 0 ≤ S ∧ S < 100000 by omega)
  obtain ⟨T5, a5, b5, c5, d5⟩ := p_wr (σ := σ) s9 z9 (by decide) b4 c4 (by omega)
  rw [show ((([59] : List Int).length : Nat) : Int) = 1 by decide] at c5
  have e : l ++ 32 :: tLead ++ 32 :: dgt L ++ 32 :: tSeed ++ 32 :: dgt S ++ [59] = tTx R P H q t G F rv L S := by
    rw [List.append_assoc, List.append_assoc, List.append_assoc, List.append_assoc, hx]
    rfl
  rw [e] at b5 c5
  have d := (((d1.tr d2).tr d3).tr d4).tr d5
  have i5 := d.ti hT
  have n5 := b5.sz
  obtain ⟨N, hN⟩ : ∃ N, N = T5.2.2 0 1 := ⟨_, rfl⟩
  have nb : 0 ≤ N ∧ N ≤ 97 := by omega
  have at5 := b5.2.2
  rw [← hN] at at5
  have by5 := AT_all _ _ at5 (tx_by (rv := rv) (show 0 ≤ R ∧ R < 100000 by omega) (show 0 ≤ P ∧ P < 100000 by omega) (show 0 ≤ H ∧ H < 100000 by omega) (show 0 ≤ q ∧ q < 100000 by omega) (show t < 0 ∨ (0 ≤ t ∧ t < 100000) by omega) (show 0 ≤ G ∧ G < 100000 by omega) (show 0 ≤ F ∧ F < 100000 by omega) (show 0 ≤ L ∧ L < 100000 by omega) (show 0 ≤ S ∧ S < 100000 by omega))
  obtain ⟨σ1, T6, n', f1, f2, f3, f4, f5, f6, f7⟩ := p_feeds_2 5 zt_N 0 σ T5 (by omega) (zN (by omega)) i5 (by rw [d.1]; omega) (by omega) (by omega) (fun j j0 => by
    unfold bx
    split
    · exact by5 j j0 (by omega)
    · decide) ⟨hσ, fun j j0 j1 => by omega⟩
  rw [← hN] at f1 f3
  obtain ⟨B, hB⟩ : ∃ B, B = T5.2.2 1 := ⟨_, rfl⟩
  rw [← hB] at at5 by5
  have ze := tx_zE (u := fun _ => 0) at5 (by omega) hP hH hq (by omega) (by omega) (by omega) hL hS
  obtain ⟨σe, l1, l2, l3⟩ := pc_load (σ := σ1) (B := B) (N := N) (u := fun _ => 0) ⟨by omega, by omega⟩ (fun j j0 j1 => by
    have g := by5 j j0 j1
    refine ⟨by omega, ?_⟩
    rw [if_pos g.2, f2.2 j j0 (by omega)]
    unfold bx
    rw [if_pos (by omega), hB]) (by rw [f2.1]; omega) (by rw [ze.1])
  rw [ze.1, ze.2] at l1 l2
  rw [ze.1] at l3
  have hxE := XR_E (B := B) (N := N) (u := fun _ => 0)
  rw [ze.1] at hxE
  obtain ⟨r, hr⟩ : ∃ r, r = rL (tRow (fun _ => 0) R P H q t G F rv L S) := ⟨_, rfl⟩
  obtain ⟨r0, r1, r2, r3, r4, r5, r8, r15, r40⟩ := tRow_v (u := fun _ => 0) (R := R) (P := P) (H := H) (q := q) (t := t) (G := G) (F := F) (rv := rv) (L := L) (S := S) ht.1
  simp only [← hr] at l1 l2 l3 hxE r0 r1 r2 r3 r4 r5 r8 r15 r40
  obtain ⟨w, hw⟩ : ∃ w, w = fin r 0 := ⟨_, rfl⟩
  have fo := (fin_ok hxE (k := 0) (fun _ => r40)).2
  rw [← hw] at l1 l2 fo
  obtain ⟨-, x9, x10, x11, x12, x13, x14, -⟩ := hxE
  have cw := l2.1
  have a := cw.1.n
  have w0 : w 0 = R := by rw [fo _ (by omega), r0]
  have w1 : w 1 = P := by rw [fo _ (by omega), r1]
  have w2 : w 2 = H := by rw [fo _ (by omega), r2]
  have w12 : w 12 = 0 := by rw [fo _ (by omega), x12]
  have w13 : w 13 = 0 := by rw [fo _ (by omega), x13]
  have w9 : w 9 = L := by rw [fo _ (by omega), x9, r8]
  have ph := a.2.2.2.1
  rw [w0, w1, w2] at ph
  have ph0 : 0 ≤ P * H := Int.mul_nonneg (by omega) (by omega)
  have ph1 : 0 < P * H := Int.mul_pos (by omega) (by omega)
  have pl : wPl w = 0 := by unfold wPl; rw [w12, w13]; omega
  have ov : wOv w = false := by
    unfold wOv
    rw [w12, w1, w2]
    exact decide_eq_false (by omega)
  have tn : wTn w = L := by rw [tn_pl ov, pl, w9, w1, Int.add_zero, Int.emod_eq_of_lt hL.1 hL.2]
  have w10 : w 10 = t := by rw [fo _ (by omega), x10, r4]
  have w11 : w 11 = if t < 0 then 0 else G := by
    rw [fo _ (by omega), x11, r4]
    by_cases h : t < 0
    · rw [if_pos h, if_pos (by omega)]
    · rw [if_neg h, if_neg (by omega)]
      exact r5.resolve_left h
  have w3 : w 3 = q := by rw [fo _ (by omega), r3]
  have w14 : w 14 = 0 := by rw [fo _ (by omega), x14]
  have hD : ∀ c, 0 ≤ c → c < 4 * R → w (40 + wMx (4 * R) S c) = if c < P * H then c % P else -1 := fun c c0 c1 => by
    have pm := wMx_pm (n := 4 * R) (seed := S) (by omega)
    have pc := pm.1 c c0 c1
    have e1 : w = dlr (wMx (4 * R) S) P (P * H).toNat r := by
      rw [hw]
      unfold fin
      rw [if_pos rfl, r0, r1, r2, r15]
    rw [e1, dlr_at pm ⟨c0, c1⟩ _ (by omega), r40 _ pc.1 (by omega), show (((P * H).toNat : Nat) : Int) = P * H by omega]
  obtain ⟨T7, g1, g2, g3, g4⟩ := p_dealt (S := S) cw w0 hP ⟨ph0, by omega⟩ (by omega) hD f4 (by have := d.1; omega)
  refine ⟨σe, T7, w, ?_, l2, w12, w13, g2, by have := d.1; omega, by have := d.1; omega⟩
  have u1 := b1.1
  have u2 := b2.1
  have u3 := b3.1
  have u4 := b4.1
  unfold F_P_loads_207 F_P_loads_330 F_P_feeds
  rw [zt_ckI (by omega), a1, zt_btI, zt_ckI (by omega), a2, zt_btI, zt_ckI (by omega), a3, zt_btI, zt_ckI (by omega), a4, zt_btI, zt_ckI (by omega), a5, zt_btI, zt_ckI (by have := d.1; omega), f1, zt_btI, l1, zt_byI, w1, w2, zt_ckI ⟨by unfold zt_in; omega, by unfold zt_in; omega⟩, if_pos rfl, l3, zt_bdS, zt_ckI (by decide), if_pos rfl, px_size0 cw, zt_byI, w0, zt_ckI ⟨by unfold zt_in; omega, by unfold zt_in; omega⟩, if_pos rfl, px_size1 cw, zt_byI, w1, zt_ckI ⟨by unfold zt_in; omega, by unfold zt_in; omega⟩, if_pos rfl, px_size2 cw, zt_byI, w2, zt_ckI ⟨by unfold zt_in; omega, by unfold zt_in; omega⟩, if_pos rfl, px_size3 cw, zt_byI, w3, zt_ckI ⟨by unfold zt_in; omega, by unfold zt_in; omega⟩, if_pos rfl, px_size4 cw, zt_byI, w10, zt_ckI ⟨by unfold zt_in; omega, by unfold zt_in; omega⟩, if_pos rfl, px_size5 cw, zt_byI, w11, zt_ckI (by unfold zt_in; omega)]
  have tail : (zt_by (F_C_size 9 σe) fun a60 s61 => zt_ck (zt_in a60 ∧ zt_in L) <| if a60 = L then zt_by (F_C_size 12 s61) fun a62 s63 => zt_ck (zt_in a62) <| if a62 = (0 : Int) then zt_by (F_C_size 13 s63) fun a64 s65 => zt_ck (zt_in a64) <| if a64 = (0 : Int) then zt_bt (F_P_areDealt R P H S s65 T6) fun a66 s67 t68 => zt_ck (a66 = 0 ∨ a66 = 1) <| some (a66, s67, t68) else F_P_loads_362 X s65 T6 else F_P_loads_362 X s63 T6 else F_P_loads_362 X s61 T6) = some (1, σe, T7) := by
    rw [px_size9 cw, zt_byI, tn, zt_ckI ⟨by unfold zt_in; omega, by unfold zt_in; omega⟩, if_pos rfl, px_size12 cw, zt_byI, w12, zt_ckI (by decide), if_pos rfl, px_size13 cw, zt_byI, w14, zt_ckI (by decide), if_pos rfl, g1, zt_btI, zt_ckI (Or.inr rfl)]
  by_cases h : t < 0
  · rw [if_pos h, if_pos h, zt_ckI ⟨by decide, by decide⟩, if_pos rfl]
    exact tail
  · rw [if_neg h, if_neg h, zt_ckI ⟨by unfold zt_in; omega, by unfold zt_in; omega⟩, if_pos rfl]
    exact tail
/-- the text's first words -/
theorem p_98 {X : q_X} {c : Int} (hX : X.1 ≤ 1000000) (hc : 0 ≤ c ∧ c < 1073741824) (h : TW T []) (hT : TI T) (h1 : T.1 < 80000) (hσ : σ.1 0 1 = 0) (hR : 4 ≤ R ∧ R ≤ 9) (hP : 2 ≤ P ∧ P ≤ 4) (hH : 1 ≤ H ∧ H ≤ mH R P) (hq : 0 ≤ q ∧ q ≤ 3) (ht : -1 ≤ t ∧ t ≤ 3) (hG : 0 ≤ G ∧ G ≤ 12) (hF : 0 ≤ F ∧ F ≤ 3) (hr : rv = 0 ∨ rv = 1) : ∃ σ' T' w, F_P_loads_98 X c R P H q t G F rv σ T = some (1, σ', T') ∧ PG 0 σ' w ∧ w 12 = 0 ∧ w 13 = 0 ∧ TI T' ∧ T.1 ≤ T'.1 ∧ T'.1 ≤ T.1 + 6 := by
  obtain ⟨⟨s0, s2, s3, s4, s5, s6, s7, s8, s9⟩, z0, z2, z3, z4, z5, z6, z7, z8, z9⟩ := sl_law
  have hm : mH R P ≤ 13 := by unfold mH; split <;> omega
  have L0 := Int.emod_nonneg (c / 224640) (show P ≠ 0 by omega)
  have L1 := Int.emod_lt_of_pos (c / 224640) (show 0 < P by omega)
  obtain ⟨cs, k1, k2, k3⟩ := p_cell (T := T) (σ := σ) hX (v := 1) (by omega)
  obtain ⟨T1, a1, b1, c1, d1⟩ := p_wr (σ := σ) s0 z0 (by decide) h (n := 0) (by decide) (by omega)
  rw [show ((tBlue.length : Nat) : Int) = 4 by decide] at c1
  obtain ⟨T2, a2, b2, c2, d2⟩ := p_sp (σ := σ) b1 c1 (by omega) (show 0 ≤ R ∧ R < 100000 by omega)
  obtain ⟨T3, a3, b3, c3, d3⟩ := p_sp (σ := σ) b2 c2 (by omega) (show 0 ≤ P ∧ P < 100000 by omega)
  obtain ⟨T4, a4, b4, c4, d4⟩ := p_sp (σ := σ) b3 c3 (by omega) (show 0 ≤ H ∧ H < 100000 by omega)
  obtain ⟨T5, a5, b5, c5, d5⟩ := p_wr (σ := σ) s2 z2 (by decide) b4 c4 (by omega)
  rw [show (((32 :: tRule).length : Nat) : Int) = 5 by decide] at c5
  obtain ⟨T6, a6, b6, c6, d6⟩ := p_sp (σ := σ) b5 c5 (by omega) (show 0 ≤ q ∧ q < 100000 by omega)
  have d := ((((d1.tr d2).tr d3).tr d4).tr d5).tr d6
  have u0 := h.1
  have u1 := b1.1
  have u2 := b2.1
  have u3 := b3.1
  have u4 := b4.1
  have u5 := b5.1
  have u6 := b6.1
  unfold F_P_loads_98
  rw [zt_ckI ⟨by omega, by omega⟩, zt_ckI ⟨⟨by omega, by omega⟩, by omega, by omega⟩, k1, zt_btI, zt_ckI ⟨by omega, by omega⟩, zt_ckI (by omega), a1, zt_btI, zt_ckI (by omega), a2, zt_btI, zt_ckI (by omega), a3, zt_btI, zt_ckI (by omega), a4, zt_btI, zt_ckI (by omega), a5, zt_btI, zt_ckI (by omega), a6, zt_btI, zt_ckI (by unfold zt_in; omega)]
  by_cases h2 : t < 0
  · rw [if_pos h2]
    obtain ⟨σ', T', w, g1, g2, g3, g4, g5, g6, g7⟩ := p_207 (X := X) (T := T6) (σ := σ) (rv := rv) (G := G) (F := F) (t := t) (S := cs % 100000) (fun tl => by
      unfold tTr
      rw [if_pos h2, List.append_assoc, List.append_assoc, List.append_assoc, List.append_assoc, List.append_assoc]
      rfl) b6 (by omega) (d.ti hT) (by rw [d.1]; omega) hσ hR hP hH hq ht hG hF ⟨L0, L1⟩ (by omega)
    have e := d.1
    exact ⟨σ', T', w, g1, g2, g3, g4, g5, by omega, by omega⟩
  · rw [if_neg h2]
    obtain ⟨T7, a7, b7, c7, d7⟩ := p_wr (σ := σ) s3 z3 (by decide) b6 c6 (by omega)
    rw [show (((32 :: tTrump).length : Nat) : Int) = 6 by decide] at c7
    obtain ⟨T8, a8, b8, c8, d8⟩ := p_sp (σ := σ) b7 c7 (by omega) (show 0 ≤ t ∧ t < 100000 by omega)
    obtain ⟨T9, a9, b9, c9, d9⟩ := p_wr (σ := σ) s4 z4 (by decide) b8 c8 (by omega)
    rw [show (((32 :: tGlow).length : Nat) : Int) = 5 by decide] at c9
    obtain ⟨Ta, aa, ba, ca, da⟩ := p_sp (σ := σ) b9 c9 (by omega) (show 0 ≤ G ∧ G < 100000 by omega)
    obtain ⟨Tb, ab, bb, cb, db⟩ := p_wr (σ := σ) s5 z5 (by decide) ba ca (by omega)
    rw [show (((32 :: tFade).length : Nat) : Int) = 5 by decide] at cb
    obtain ⟨Tc, ac, bc, cc, dc⟩ := p_sp (σ := σ) bb cb (by omega) (show 0 ≤ F ∧ F < 100000 by omega)
    have d' := (((((d.tr d7).tr d8).tr d9).tr da).tr db).tr dc
    have u7 := b7.1
    have u8 := b8.1
    have u9 := b9.1
    have ua := ba.1
    have ub := bb.1
    have uc := bc.1
    rw [zt_ckI (by omega), a7, zt_btI, zt_ckI (by omega), a8, zt_btI, zt_ckI (by omega), a9, zt_btI, zt_ckI (by omega), aa, zt_btI, zt_ckI (by omega), ab, zt_btI, zt_ckI (by omega), ac, zt_btI, zt_ckI (by unfold zt_in; omega)]
    by_cases h3 : rv = 0
    · rw [if_pos h3]
      obtain ⟨σ', T', w, g1, g2, g3, g4, g5, g6, g7⟩ := p_207 (X := X) (T := Tc) (σ := σ) (rv := rv) (G := G) (F := F) (t := t) (S := cs % 100000) (fun tl => by
        unfold tTr
        rw [if_neg h2, if_pos h3]
        simp only [List.append_assoc, List.cons_append, List.nil_append]) bc (by omega) (d'.ti hT) (by rw [d'.1]; omega) hσ hR hP hH hq ht hG hF ⟨L0, L1⟩ (by omega)
      have e := d'.1
      exact ⟨σ', T', w, g1, g2, g3, g4, g5, by omega, by omega⟩
    · rw [if_neg h3]
      obtain ⟨Td, ad, bd, cd, dd⟩ := p_wr (σ := σ) s6 z6 (by decide) bc cc (by omega)
      rw [show (((32 :: tRevive).length : Nat) : Int) = 7 by decide] at cd
      rw [zt_ckI (by omega), ad, zt_btI]
      have d'' := d'.tr dd
      obtain ⟨σ', T', w, g1, g2, g3, g4, g5, g6, g7⟩ := p_207 (X := X) (T := Td) (σ := σ) (rv := rv) (G := G) (F := F) (t := t) (S := cs % 100000) (fun tl => by
        unfold tTr
        rw [if_neg h2, if_neg h3]
        simp only [List.append_assoc, List.cons_append, List.nil_append]) bd (by omega) (d''.ti hT) (by rw [d''.1]; omega) hσ hR hP hH hq ht hG hF ⟨L0, L1⟩ (by omega)
      have e := d''.1
      exact ⟨σ', T', w, g1, g2, g3, g4, g5, by omega, by omega⟩
theorem p_loads {X : q_X} (hX : X.1 ≤ 1000000) (h : TW T []) (hT : TI T) (h1 : T.1 < 80000) (hσ : σ.1 0 1 = 0) : ∃ σ' T' w, F_P_loads X σ T = some (1, σ', T') ∧ PG 0 σ' w ∧ w 12 = 0 ∧ w 13 = 0 ∧ TI T' ∧ T.1 ≤ T'.1 ∧ T'.1 ≤ T.1 + 6 := by
  obtain ⟨c, k1, k2, k3⟩ := p_cell (T := T) (σ := σ) hX (v := 0) (by omega)
  obtain ⟨R, hR⟩ : ∃ x, x = 4 + c % 6 := ⟨_, rfl⟩
  obtain ⟨P, hP⟩ : ∃ x, x = 2 + c / 6 % 3 := ⟨_, rfl⟩
  have rR : 4 ≤ R ∧ R ≤ 9 := by omega
  have rP : 2 ≤ P ∧ P ≤ 4 := by omega
  have q1 : 4 ≤ 4 * R / P := by
    rcases (show P = 2 ∨ P = 3 ∨ P = 4 by omega) with h | h | h <;> rw [h] <;> omega
  have q2 : 4 * R / P ≤ 18 := by
    rcases (show P = 2 ∨ P = 3 ∨ P = 4 by omega) with h | h | h <;> rw [h] <;> omega
  obtain ⟨M, hM⟩ : ∃ x, x = (if 6 < 4 * R / P then 6 else 4 * R / P) := ⟨_, rfl⟩
  have rM : 4 ≤ M ∧ M ≤ 6 ∧ M ≤ mH R P := by
    rw [hM]
    unfold mH
    refine ⟨?_, ?_, ?_⟩
    · split <;> omega
    · split <;> omega
    · split <;> split <;> omega
  have H0 := Int.emod_nonneg (c / 18) (show M ≠ 0 by omega)
  have H1 := Int.emod_lt_of_pos (c / 18) (show 0 < M by omega)
  unfold F_P_loads
  rw [k1, zt_btI, ← hR, ← hP, ← hM, zt_ckI ⟨by omega, by omega⟩, zt_ckI ⟨by omega, by omega⟩, zt_ckI ⟨by omega, by omega⟩, zt_ckI ⟨by omega, by omega⟩, zt_ckI ⟨⟨by omega, by omega⟩, by omega, by omega⟩, zt_ckI (by unfold zt_in; omega), zt_ckI ⟨⟨by omega, by omega⟩, by omega, by omega⟩, zt_letS, zt_ckI ⟨by omega, by omega⟩, zt_ckI ⟨by omega, by omega⟩, zt_ckI ⟨by omega, by omega⟩, zt_ckI ⟨by omega, by omega⟩, zt_ckI ⟨by omega, by omega⟩, zt_ckI ⟨by omega, by omega⟩, zt_ckI ⟨by omega, by omega⟩, zt_ckI ⟨by omega, by omega⟩, zt_ckI ⟨by omega, by omega⟩, zt_ckI ⟨by omega, by omega⟩, zt_ckI (by unfold zt_in; omega)]
  split
  · exact p_98 hX ⟨k2, k3⟩ h hT h1 hσ rR rP (by omega) (by omega) (by omega) (by omega) (by omega) (Or.inr rfl)
  · exact p_98 hX ⟨k2, k3⟩ h hT h1 hσ rR rP (by omega) (by omega) (by omega) (by omega) (by omega) (Or.inl rfl)
end
end TL0
