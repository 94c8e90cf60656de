/-! A COMPARISON, the reference's side -/
section QV
variable {B : Int → Int} {N : Int} {σ τ : zt_S} {s : PS} {S C : List Int} {f : Nat}
theorem vlS_f (h : ¬ s.1 = 0) : vlS B N s = s := by
  unfold vlS
  rw [pNu_f h, pF_f h, if_neg h]
  split
  · rfl
  · split <;> rfl
theorem sgS_f (h : ¬ s.1 = 0) : sgS B N s = s := by
  unfold sgS
  rw [if_neg (pSb_f h), if_neg (pSb_f h), if_neg (pSb_f h), pF_f h]
theorem em_isW {k : Nat} {hh : Int64} (hk : k < 23) (he : hh = Int64.ofInt (hW k)) (h : MP B N τ s) (h0 : s.1 = 0) : F_M_isWord hh τ = some (if isW B N s.2.2 (q_big + 1 + k) = true then 1 else 0, τ) := by
  rw [em_isWord hk he h]
  have e : (pWb B N (q_big + 1 + k) s = true) = (isW B N s.2.2 (q_big + 1 + k) = true) := by
    unfold pWb
    rw [decide_eq_true h0, Bool.true_and]
  simp only [e]
theorem em_prop (h : MP B N τ s) (h0 : s.1 = 0) : F_M_propertyHere τ = some (if pp B N s = 0 then -1 else -1 - pp B N s, τ) := by
  have w := fun k hk hh he => em_isW (B := B) (N := N) (τ := τ) (s := s) (k := k) (hh := hh) hk he h h0
  unfold F_M_propertyHere F_M_propertyHere_101 pp
  rw [w 13 (by decide) _ hW_13.symm, zt_bdS]
  by_cases h1 : isW B N s.2.2 (q_big + 1 + 13) = true
  · rw [if_pos h1, zt_ckI (by decide), if_neg (by decide), if_pos h1]; rfl
  · rw [if_neg h1, zt_ckI (by decide), if_pos rfl, if_neg h1, w 14 (by decide) _ hW_14.symm, zt_bdS]
    by_cases h2 : isW B N s.2.2 (q_big + 1 + 14) = true
    · rw [if_pos h2, zt_ckI (by decide), if_neg (by decide), if_pos h2]; rfl
    · rw [if_neg h2, zt_ckI (by decide), if_pos rfl, if_neg h2, w 15 (by decide) _ hW_15.symm, zt_bdS]
      by_cases h3 : isW B N s.2.2 (q_big + 1 + 15) = true
      · rw [if_pos h3, zt_ckI (by decide), if_neg (by decide), if_pos h3]; rfl
      · rw [if_neg h3, zt_ckI (by decide), if_pos rfl, if_neg h3, w 16 (by decide) _ hW_16.symm, zt_bdS]
        by_cases h4 : isW B N s.2.2 (q_big + 1 + 16) = true
        · rw [if_pos h4, zt_ckI (by decide), if_neg (by decide), if_pos h4]; rfl
        · rw [if_neg h4, zt_ckI (by decide), if_pos rfl, if_neg h4, w 17 (by decide) _ hW_17.symm, zt_bdS]
          by_cases h5 : isW B N s.2.2 (q_big + 1 + 17) = true
          · rw [if_pos h5, zt_ckI (by decide), if_neg (by decide), if_pos h5]; rfl
          · rw [if_neg h5, zt_ckI (by decide), if_pos rfl, if_neg h5, w 18 (by decide) _ hW_18.symm, zt_bdS]
            by_cases h6 : isW B N s.2.2 (q_big + 1 + 18) = true
            · rw [if_pos h6, zt_ckI (by decide), if_neg (by decide), if_pos h6]; rfl
            · rw [if_neg h6, zt_ckI (by decide), if_pos rfl, if_neg h6, w 19 (by decide) _ hW_19.symm, zt_bdS]
              by_cases h7 : isW B N s.2.2 (q_big + 1 + 19) = true
              · rw [if_pos h7, zt_ckI (by decide), if_neg (by decide), if_pos h7]; rfl
              · rw [if_neg h7, zt_ckI (by decide), if_pos rfl, if_neg h7, w 20 (by decide) _ hW_20.symm, zt_bdS]
                by_cases h8 : isW B N s.2.2 (q_big + 1 + 20) = true
                · rw [if_pos h8, zt_ckI (by decide), if_neg (by decide), if_pos h8]
                  rfl
                · rw [if_neg h8, zt_ckI (by decide), if_pos rfl, if_neg h8]
                  rfl
/-- a code is put behind -/
theorem CF.add {v : Int} {s' : PS} {τ' : zt_S} (h : CF B N τ S C s) (g : MP B N τ' s') (g0 : s'.1 = 0) (up : s.2.2 + 1 ≤ s'.2.2) (e35 : τ'.1 163 35 = (C.length : Int) + 1) (ev : τ'.1 181 (C.length : Int) = v) (e1 : ∀ c j, (c ≠ 163 ∨ (j ≠ 11 ∧ j ≠ 12 ∧ j ≠ 13 ∧ j ≠ 14 ∧ j ≠ 16 ∧ j ≠ 17 ∧ j ≠ 35)) → (c ≠ 181 ∨ j ≠ (C.length : Int)) → τ'.1 c j = τ.1 c j) : CF B N τ' S (v :: C) s' := by
  obtain ⟨h1, h2, h3, h4, h5, h6, h7, h8, h9, h10⟩ := h
  have l : ((v :: C).length : Int) = (C.length : Int) + 1 := by simp
  exact ⟨g, g0, h3, by omega, ⟨ev, EK.ag _ (fun j j0 j1 => e1 _ _ (by omega) (by omega)) h5⟩, by rw [e1 _ _ (by omega) (by omega)]; exact h6, SK.ag _ (fun j _ _ => e1 _ _ (by omega) (by omega)) h7, by rw [e1 _ _ (by omega) (by omega)]; exact h8, by omega, h10⟩
theorem em_value (h : CF B N τ S C s) : ∃ τ', F_M_valueRead τ = some ((), τ') ∧ MP B N τ' (vlS B N s) ∧ FQ3 τ τ' ∧ ((vlS B N s).1 = 0 → CF B N τ' S (vE (vlV B N s) :: C) (vlS B N s)) := by
  obtain ⟨h1, h2, h3, h4, h5, h6, h7, h8, h9, h10⟩ := id h
  have p := h.pos
  have km := kM_v (B := B) h1.2.1
  have ts := tS_lt (B := B) h1.2.1
  have kv := tK_v (B := B) h1.2.1
  have te := tE_lt (B := B) h1.2.1
  have cl : 0 ≤ (C.length : Int) ∧ 0 ≤ (S.length : Int) := ⟨by omega, by omega⟩
  have lt : tK B N s.2.2 ≠ 0 → (C.length : Int) < 200 := fun hk => by
    have : tS B N s.2.2 ≠ N := fun z => hk (ts.2.2.2.mpr z)
    omega
  unfold F_M_valueRead
  rw [em_isGood h1, zt_bdS, if_pos h2, zt_ckI (by decide), if_neg (by decide), h1.2.2.1.2.2.1, zt_ckI km.2.2.2.2]
  by_cases k3 : tK B N s.2.2 = 3
  · obtain ⟨τ1, g1, g2, g3⟩ := em_number (lo := 0) (hi := 9999) h1 (by decide) (by decide)
    have lt := lt (by omega)
    have e35 : τ1.1 163 35 = (C.length : Int) := by rw [g3.1 _ _ (by omega)]; exact h4
    have vl : vlV B N s = pPv B N 0 9999 s := if_pos k3
    have sl : vlS B N s = pNu B N 0 9999 s := if_pos k3
    have pv := pPv_in (B := B) (N := N) (s := s) (show (0 : Int) ≤ 9999 by decide)
    rw [if_pos (km.2.2.1.mpr k3), g1, zt_bdS, em_adds (by rw [e35]; omega), zt_bdS, vl, sl, e35]
    refine ⟨_, rfl, g2.l (fun j => by rw [up_o (by omega), up_o (by omega)]) (fun j _ _ => by rw [up_o (by omega), up_o (by omega)]) rfl, (g3.q.tr (FQ3.up (by omega))).tr (FQ3.up (by omega)), fun g0 => ?_⟩
    have up : s.2.2 + 1 ≤ (pNu B N 0 9999 s).2.2 := by
      have := vl_g (B := B) p.1 p.2 (by rw [sl]; exact g0)
      rw [sl] at this
      omega
    refine h.add (g2.l (fun j => by rw [up_o (by omega), up_o (by omega)]) (fun j _ _ => by rw [up_o (by omega), up_o (by omega)]) rfl) g0 up (up_s _ _ _ _) ?_ (fun c j c1 c2 => by rw [up_o (by omega), up_o (by omega), g3.1 c j (by omega)])
    rw [up_o (by omega), up_s]
    unfold vE
    rw [if_neg (by omega)]
  · have vl : vlV B N s = pp B N s := if_neg k3
    have sl : vlS B N s = (if pp B N s = 0 then pF B N 1 s else if s.1 = 0 then pX B N s else s) := if_neg k3
    have pl := pp_lt (B := B) (N := N) (s := s)
    rw [if_neg (fun q => k3 (km.2.2.1.mp q)), em_prop h1 h2, zt_bdS, vl, sl]
    by_cases p0 : pp B N s = 0
    · obtain ⟨τ1, g1, g2, g3⟩ := em_wrongs (k := 1) h1 (by decide)
      rw [if_pos p0, if_pos p0, zt_ckI (by decide), if_pos rfl, g1, zt_bdS]
      exact ⟨τ1, rfl, g2, g3.q, fun z => absurd z (pF_ne (by decide))⟩
    · have hk : tK B N s.2.2 ≠ 0 := fun hk => p0 (by
        have nw : ∀ w, ¬ isW B N s.2.2 w = true := fun w hw => by
          unfold isW at hw
          simp only [Bool.and_eq_true, decide_eq_true_eq] at hw
          omega
        unfold pp
        rw [if_neg (nw _), if_neg (nw _), if_neg (nw _), if_neg (nw _), if_neg (nw _), if_neg (nw _), if_neg (nw _), if_neg (nw _)])
      have lt := lt hk
      have x1 := up_X1 (B := B) p.1 p.2 hk
      rw [if_neg p0, if_neg p0, zt_ckI (by unfold zt_in; omega), if_neg (by omega), em_adds (by rw [h4]; omega), zt_bdS, if_pos h2, h4]
      obtain ⟨τ1, g1, g2, g3⟩ := em_nx (τ := zt_up (zt_up τ 181 (C.length : Int) (-1 - pp B N s)) 163 35 ((C.length : Int) + 1)) (h1.l (fun j => by rw [up_o (by omega), up_o (by omega)]) (fun j _ _ => by rw [up_o (by omega), up_o (by omega)]) rfl)
      rw [g1, zt_bdS]
      refine ⟨τ1, rfl, g2, ((FQ3.up (by omega)).tr (FQ3.up (by omega))).tr g3.q, fun g0 => h.add g2 g0 (by omega) (by rw [g3.1 _ _ (by omega), up_s]) ?_ (fun c j c1 c2 => by rw [g3.1 c j (by omega), up_o (by omega), up_o (by omega)])⟩
      rw [g3.1 _ _ (by omega), up_o (by omega), up_s]
      unfold vE
      rw [if_pos (by omega)]
theorem em_99 {v : Int} (h : MP B N τ s) (hc : s.1 = 0 → CF B N τ S C s ∧ tK B N s.2.2 ≠ 0) : ∃ τ', F_M_comparisonRead_99 v τ = some ((), τ') ∧ MP B N τ' (if s.1 = 0 then vlS B N (pX B N s) else s) ∧ FQ3 τ τ' ∧ ((if s.1 = 0 then vlS B N (pX B N s) else s).1 = 0 → CF B N τ' S (v :: vE (vlV B N (pX B N s)) :: C) (vlS B N (pX B N s))) := by
  unfold F_M_comparisonRead_99
  rw [em_isGood h, zt_bdS]
  by_cases h0 : s.1 = 0
  · obtain ⟨hc, hk⟩ := hc h0
    have p := hc.pos
    obtain ⟨τ1, g1, g2, g3⟩ := em_nx h
    have x1 := up_X1 (B := B) p.1 p.2 hk
    have c1 : CF B N τ1 S C (pX B N s) := hc.ft g3 g2 h0 (by omega)
    obtain ⟨τ2, k1, k2, k3, k4⟩ := em_value c1
    rw [if_pos h0, zt_ckI (by decide), if_neg (by decide), g1, zt_bdS, k1, zt_bdS, em_isGood k2, zt_bdS]
    simp only [if_pos h0]
    by_cases y : (vlS B N (pX B N s)).1 = 0
    · have c2 := k4 y
      have p2 := c2.pos
      have p1 := c1.pos
      have x2 := vl_g (B := B) p1.1 p1.2 y
      have l2 := c2.2.2.2.2.2.2.2.2.1
      have ll : ((vE (vlV B N (pX B N s)) :: C).length : Int) = (C.length : Int) + 1 := by simp
      have l0 := hc.2.2.2.2.2.2.2.2.1
      have n2 := c2.2.2.1
      rw [if_pos y, zt_ckI (by decide), if_neg (by decide), em_adds (by rw [c2.2.2.2.1, ll]; omega), zt_bdS]
      obtain ⟨d1, d2, d3, d4, d5, d6, d7, d8, d9, d10⟩ := id c2
      have mp : MP B N (zt_up (zt_up τ2 181 (τ2.1 163 35) v) 163 35 (τ2.1 163 35 + 1)) (vlS B N (pX B N s)) := d1.l (fun j => by rw [up_o (by omega), up_o (by omega)]) (fun j _ _ => by rw [up_o (by omega), up_o (by omega)]) rfl
      refine ⟨_, rfl, mp, (g3.q.tr k3).tr ((FQ3.up (by omega)).tr (FQ3.up (by omega))), fun _ => ?_⟩
      have lv : ((v :: vE (vlV B N (pX B N s)) :: C).length : Int) = (C.length : Int) + 2 := by simp; omega
      refine ⟨mp, y, d3, by rw [up_s, d4, ll, lv]; omega, ⟨?_, EK.ag _ (fun j j0 j1 => ?_) d5⟩, by rw [up_o (by omega), up_o (by omega)]; exact d6, SK.ag _ (fun j _ _ => by rw [up_o (by omega), up_o (by omega)]) d7, by rw [up_o (by omega), up_o (by omega)]; exact d8, by rw [lv]; omega, d10⟩
      · rw [up_o (by omega), d4, up_s]
      · rw [up_o (by omega), up_o (by omega)]
    · rw [if_neg y, zt_ckI (by decide), if_pos rfl]
      exact ⟨τ2, rfl, k2, g3.q.tr k3, fun z => absurd z y⟩
  · rw [if_neg h0, zt_ckI (by decide), if_pos rfl]
    simp only [if_neg h0]
    exact ⟨τ, rfl, h, FQ3.rf, fun z => absurd z h0⟩
theorem em_cmp (h : CF B N τ S C s) : ∃ τ', F_M_comparisonRead_43 τ = some ((), τ') ∧ MP B N τ' (cmS B N s) ∧ FQ3 τ τ' ∧ ((cmS B N s).1 = 0 → CF B N τ' S (encx (cmE B N s) ++ C) (cmS B N s)) := by
  obtain ⟨τ1, g1, g2, g3, g4⟩ := em_value h
  obtain ⟨t, ht⟩ : ∃ t, t = vlS B N s := ⟨_, rfl⟩
  rw [← ht] at g2 g4
  -- the sign is there
  have yes : ∀ (g x : Int), pSb B N g t = true → sgV B N t = g → sgS B N t = pX B N t → sgE g = x → (¬ g = 1 ∧ ¬ g = 2 ∧ ¬ g = 3) → ∃ τ', F_M_comparisonRead_99 x τ1 = some ((), τ') ∧ MP B N τ' (cmS B N s) ∧ FQ3 τ τ' ∧ ((cmS B N s).1 = 0 → CF B N τ' S (encx (cmE B N s) ++ C) (cmS B N s)) := by
    intro g x hb e1 e2 e3 e4
    have q := pSb_k hb
    obtain ⟨τ2, k1, k2, k3, k4⟩ := em_99 (v := x) g2 (fun z => ⟨g4 z, by omega⟩)
    rw [if_pos q.1] at k2 k4
    have es : cmS B N s = vlS B N (pX B N t) := by unfold cmS; rw [← ht, e2]
    have ee : encx (cmE B N s) = [x, vE (vlV B N (pX B N t)), vE (vlV B N s)] := by
      unfold encx cmE
      rw [← ht, e1, e2]
      dsimp only
      rw [if_neg e4.1, if_neg e4.2.1, if_neg e4.2.2, e3]
    rw [es, ee]
    exact ⟨τ2, k1, k2, g3.tr k3, k4⟩
  unfold F_M_comparisonRead_43
  rw [g1, zt_bdS, em_isByte g2 (by decide), zt_bdS]
  by_cases a : pSb B N 60 t = true
  · rw [if_pos a, zt_ckI (by decide), if_neg (by decide)]
    unfold F_M_comparisonRead_77
    rw [zt_ckI (by decide), if_neg (by decide)]
    exact yes 60 20 a (if_pos a) (if_pos a) rfl (by decide)
  · rw [if_neg a, zt_ckI (by decide), if_pos rfl, em_isByte g2 (by decide), zt_bdS]
    by_cases b : pSb B N 62 t = true
    · rw [if_pos b, zt_ckI (by decide), if_neg (by decide)]
      unfold F_M_comparisonRead_77
      rw [zt_ckI (by decide), if_neg (by decide)]
      exact yes 62 22 b (by unfold sgV; rw [if_neg a, if_pos b]) (by unfold sgS; rw [if_neg a, if_pos b]) rfl (by decide)
    · rw [if_neg b, zt_ckI (by decide), if_pos rfl]
      unfold F_M_comparisonRead_77
      rw [zt_ckI (by decide), if_pos rfl, em_isByte g2 (by decide), zt_bdS]
      by_cases c : pSb B N 61 t = true
      · rw [if_pos c, zt_ckI (by decide), if_neg (by decide)]
        exact yes 61 21 c (by unfold sgV; rw [if_neg a, if_neg b]) (by unfold sgS; rw [if_neg a, if_neg b, if_pos c]) rfl (by decide)
      · obtain ⟨τ2, k1, k2, k3⟩ := em_wrongs (k := 1) g2 (by decide)
        have ne : ¬ (pF B N 1 t).1 = 0 := pF_ne (by decide)
        have es : cmS B N s = pF B N 1 t := by
          have e2 : sgS B N t = pF B N 1 t := by unfold sgS; rw [if_neg a, if_neg b, if_neg c]
          unfold cmS
          rw [← ht, e2, vlS_f ne]
        rw [if_neg c, zt_ckI (by decide), if_pos rfl, k1, zt_bdS]
        obtain ⟨τ3, m1, m2, m3, m4⟩ := em_99 (v := 21) (S := S) (C := C) k2 (fun z => absurd z ne)
        rw [if_neg ne] at m2
        rw [es]
        exact ⟨τ3, m1, m2, (g3.tr k3.q).tr m3, fun z => absurd z ne⟩
/-! pushing -/
def isO (B : Int → Int) (N : Int) (s : PS) : Prop := isW B N s.2.2 (q_big + 1 + 12) = true ∨ (tK B N s.2.2 = 4 ∧ B (tS B N s.2.2) = 40)
theorem pSb_g {b : Int} (h0 : s.1 = 0) : pSb B N b s = true ↔ tK B N s.2.2 = 4 ∧ B (tS B N s.2.2) = b := by
  unfold pSb
  simp only [Bool.and_eq_true, decide_eq_true_eq]
  exact ⟨fun h => h.2, fun h => ⟨h0, h⟩⟩
theorem isO_k (h : isO B N s) : tK B N s.2.2 ≠ 0 := by
  rcases h with h | h
  · unfold isW at h
    simp only [Bool.and_eq_true, decide_eq_true_eq] at h
    omega
  · omega
theorem em_cmp0 (h : CF B N τ S C s) (ho : ¬ isO B N s) : F_M_comparisonRead_0 (f + 1) τ = F_M_comparisonRead_43 τ := by
  unfold isO at ho
  rw [not_or] at ho
  rw [F_M_comparisonRead_0, em_isW (by decide) hW_12.symm h.1 h.2.1, zt_bdS, if_neg ho.1, zt_ckI (by decide), if_pos rfl, em_isByte h.1 (by decide), zt_bdS, if_neg (fun z => ho.2 ((pSb_g h.2.1).mp z)), zt_ckI (by decide), if_pos rfl]
theorem em_open (h : CF B N τ S C s) (ho : isO B N s) : F_M_comparisonRead_0 (f + 1) τ = F_M_comparisonRead_36 (F_M_comparisonRead_0 f) (if isW B N s.2.2 (q_big + 1 + 12) = true then 23 else 1) τ := by
  have k19 : F_M_comparisonRead_19 (F_M_comparisonRead_0 f) τ = F_M_comparisonRead_36 (F_M_comparisonRead_0 f) (if isW B N s.2.2 (q_big + 1 + 12) = true then 23 else 1) τ := by
    unfold F_M_comparisonRead_19
    rw [em_isW (by decide) hW_12.symm h.1 h.2.1, zt_bdS]
    by_cases a : isW B N s.2.2 (q_big + 1 + 12) = true
    · rw [if_pos a, zt_ckI (by decide), if_neg (by decide), if_pos a]
    · rw [if_neg a, zt_ckI (by decide), if_pos rfl, if_neg a]
  rw [F_M_comparisonRead_0, em_isW (by decide) hW_12.symm h.1 h.2.1, zt_bdS]
  by_cases a : isW B N s.2.2 (q_big + 1 + 12) = true
  · rw [if_pos a, zt_ckI (by decide), if_neg (by decide)]
    exact k19
  · have b : pSb B N 40 s = true := (pSb_g h.2.1).mpr (by
      rcases ho with z | z
      · exact absurd z a
      · exact z)
    rw [if_neg a, zt_ckI (by decide), if_pos rfl, em_isByte h.1 (by decide), zt_bdS, if_pos b, zt_ckI (by decide), if_neg (by decide)]
    exact k19
theorem em_push {x : Int} (hx : x = 23 ∨ x = 1) (h : CF B N τ S C s) (hk : tK B N s.2.2 ≠ 0) (hd : dp S < 6) (hd0 : 0 ≤ dp S) : ∃ τ', F_M_comparisonRead_36 (F_M_comparisonRead_0 f) x τ = F_M_comparisonRead_0 f τ' ∧ CF B N τ' (x :: S) C (pX B N s) ∧ FQ3 τ τ' := by
  obtain ⟨h1, h2, h3, h4, h5, h6, h7, h8, h9, h10⟩ := id h
  have p := h.pos
  have x1 := up_X1 (B := B) p.1 p.2 hk
  have ux := up_X (B := B) p.1 p.2
  have l : ((x :: S).length : Int) = (S.length : Int) + 1 := by simp
  obtain ⟨n, hn⟩ : ∃ n : Int, n = (S.length : Int) := ⟨_, rfl⟩
  have n0 : 0 ≤ n ∧ n < 200 := by omega
  rw [← hn] at h6
  obtain ⟨τ1, g1, g2, g3⟩ := em_nx (τ := zt_up (zt_up (zt_up τ 163 37 (dp S + 1)) 182 n x) 163 36 (n + 1)) (h1.l (fun j => by rw [up_o (by omega), up_o (by omega), up_o (by omega)]) (fun j _ _ => by rw [up_o (by omega), up_o (by omega), up_o (by omega)]) rfl)
  refine ⟨τ1, ?_, ⟨g2, h2, h3, ?_, EK.ag _ (fun j _ _ => ?_) h5, ?_, ⟨?_, SK.ag _ (fun j j0 j1 => ?_) h7⟩, ?_, by omega, fun y hy => ?_⟩, ((FQ3.up (by omega)).tr ((FQ3.up (by omega)).tr (FQ3.up (by omega)))).tr g3.q⟩
  · unfold F_M_comparisonRead_36 F_M_goesIn
    rw [h8, zt_ckI (by unfold zt_in; omega), if_neg (by omega), zt_letS, up_o (by omega), h6, zt_ckI (by omega), zt_letS, up_o (by omega), up_o (by omega), h6, zt_letS, g1, zt_bdS, zt_bdS, zt_ckI (by decide), if_neg (by decide)]
  · rw [g3.1 _ _ (by omega), up_o (by omega), up_o (by omega), up_o (by omega)]; exact h4
  · rw [g3.1 _ _ (by omega), up_o (by omega), up_o (by omega), up_o (by omega)]
  · rw [g3.1 _ _ (by omega), up_s, l, hn]
  · rw [g3.1 _ _ (by omega), up_o (by omega), ← hn, up_s]
  · rw [g3.1 _ _ (by omega), up_o (by omega), up_o (by omega), up_o (by omega)]
  · rw [g3.1 _ _ (by omega), up_o (by omega), up_o (by omega), up_s, dp, if_pos hx]; omega
  · rcases List.mem_cons.mp hy with e | e
    · rw [e]; unfold zt_in; omega
    · exact h10 y e
theorem em_deep {x : Int} (h : CF B N τ S C s) (hd : dp S = 6) : ∃ τ', F_M_comparisonRead_36 (F_M_comparisonRead_0 f) x τ = some ((), τ') ∧ MP B N τ' (pF B N 3 s) ∧ FQ3 τ τ' := by
  obtain ⟨τ1, g1, g2, g3⟩ := em_wrongs (k := 3) h.1 (by decide)
  refine ⟨τ1, ?_, g2, g3.q⟩
  unfold F_M_comparisonRead_36 F_M_goesIn
  rw [h.2.2.2.2.2.2.2.1, hd, zt_ckI (by decide), if_pos rfl, g1, zt_bdS, zt_ckI (by decide), zt_bdS, zt_ckI (by decide), if_pos rfl]
end QV
