/-! query: both read and answer alike -/
section QO
variable {B : Int → Int} {N : Int} {σ τ : zt_S} {s : PS} {n v : Int} {E : List ST}
theorem Inv.lq (h : Inv n σ) (e1 : ∀ c j, c ≠ 2 → c ≠ 165 → c ≠ 168 → c ≠ 181 → c ≠ 182 → c ≠ 183 → (c < 128 ∨ 143 < c) → (c ≠ 0 ∨ j ≠ 1) → (c ≠ 163 ∨ j = 5 ∨ j = 6 ∨ j = 31) → τ.1 c j = σ.1 c j) (e2 : ∀ c j, (c < 128 ∨ 139 < c) → c ≠ 163 → c ≠ 184 → τ.2.1 c j = σ.2.1 c j) (e3 : τ.2.2.2 = σ.2.2.2) (hb : BF τ) (he : ER τ) : Inv (n + 1) τ := by
  obtain ⟨hc, h2, h3, h4, h5, h6, h7, h8, h9⟩ := id h
  have g1 : ∀ c j, c ≠ 2 → c ≠ 165 → c ≠ 168 → c ≠ 181 ∧ c ≠ 182 ∧ c ≠ 183 ∧ (c < 128 ∨ 143 < c) → (c ≠ 0 ∨ j ≠ 1) → (c ≠ 163 ∨ j = 5 ∨ j = 6 ∨ j = 31) → τ.1 c j = σ.1 c j := fun c j a1 a2 a3 a4 a5 a6 => e1 c j a1 a2 a3 a4.1 a4.2.1 a4.2.2.1 a4.2.2.2 a5 a6
  have f3 : τ.1 164 = σ.1 164 := funext fun j => g1 _ _ (by omega) (by omega) (by omega) (by omega) (by omega) (by omega)
  refine ⟨⟨by rw [f3]; exact hc.1, by rw [f3]; exact hc.2.1.ag (fun c j a b => g1 c j (by omega) (by omega) (by omega) (by omega) (by omega) (by omega)) (fun c j a b => e2 c j (by omega) (by omega) (by omega)), ?_⟩, by rw [f3]; exact h2.up (by omega), h3.ag (by omega) (fun c j a b => g1 c j (by omega) (by omega) (by omega) (by omega) (by omega) (by omega)) (fun c j a b => e2 c j (by omega) (by omega) (by omega)) (g1 _ _ (by omega) (by omega) (by omega) (by omega) (by omega) (by omega)) (fun j => g1 _ _ (by omega) (by omega) (by omega) (by omega) (by omega) (by omega)) (fun j _ => by rw [f3]), h4.ag (by omega) (fun c j a b => g1 c j (by omega) (by omega) (by omega) (by omega) (by omega) (by omega)) (fun c j a b => e2 c j (by omega) (by omega) (by omega)) (g1 _ _ (by omega) (by omega) (by omega) (by omega) (by omega) (by omega)) (g1 _ _ (by omega) (by omega) (by omega) (by omega) (by omega) (by omega)) (fun j => g1 _ _ (by omega) (by omega) (by omega) (by omega) (by omega) (by omega)) (fun j _ => by rw [f3]), hb, he, h7.ag (fun c j a b => g1 _ _ (by omega) (by omega) (by omega) (by omega) (by omega) (by omega)) (g1 _ _ (by omega) (by omega) (by omega) (by omega) (by omega) (by omega)) (fun j => g1 _ _ (by omega) (by omega) (by omega) (by omega) (by omega) (by omega)), h8.ag (by omega) (fun c j a b => e2 c j (by omega) (by omega) (by omega)), by rw [e3]; omega⟩
  have g := hc.2.2
  unfold SUw at g ⊢
  rw [f3, g1 _ _ (by omega) (by omega) (by omega) (by omega) (by omega) (by omega), g1 _ _ (by omega) (by omega) (by omega) (by omega) (by omega) (by omega), g1 _ _ (by omega) (by omega) (by omega) (by omega) (by omega) (by omega), g1 _ _ (by omega) (by omega) (by omega) (by omega) (by omega) (by omega)]
  exact g
/-! what a query says -/
def qM (B : Int → Int) (N : Int) : Bool := pWb B N (q_big + 1 + 10) s0
def qS (B : Int → Int) (N : Int) : PS := if qM B N = true then pX B N s0 else pNW B N (q_big + 1 + 11) s0
def qY (B : Int → Int) (N : Int) : QY := tsQ B N (faQ B N 10) 0 ([], qS B N)
def qZ (B : Int → Int) (N : Int) : PS := if tK B N (qY B N).2.2.2 = 0 then (qY B N).2 else pF B N 1 (qY B N).2
theorem ts_f (h : ¬ s.1 = 0) : (tsQ B N (faQ B N 10) 0 (E, s)).2 = s := by
  have e : (faQ B N 10 0 (E, s)).2 = s := by
    rw [faQ, if_neg (fun q => absurd q.1 (by decide)), if_neg (pWb_f h), if_neg (pSb_f h)]
    show cmS B N s = s
    unfold cmS
    rw [vlS_f h, sgS_f h, vlS_f h]
  unfold tsQ
  rw [lpQ, if_pos (by rw [e]; exact h)]
  exact e
theorem qS_up (hN : 0 ≤ N) : 0 ≤ (qS B N).2.2 ∧ (qS B N).2.2 ≤ N := by
  have u : UP N s0 (qS B N) := by
    unfold qS pNW
    split
    · exact up_X
    · split
      · exact up_X
      · exact up_F
  have := u (by show (0 : Int) ≤ 0; omega) hN
  exact ⟨Int.le_trans (by show (0 : Int) ≤ 0; omega) this.1, this.2⟩
theorem qZ_0 (h : (qZ B N).1 = 0) : tK B N (qY B N).2.2.2 = 0 ∧ qZ B N = (qY B N).2 := by
  unfold qZ at h ⊢
  by_cases k : tK B N (qY B N).2.2.2 = 0
  · rw [if_pos k]; exact ⟨k, rfl⟩
  · rw [if_neg k] at h
    exact absurd h (pF_ne (by decide))
theorem qE_ok (hN : 0 ≤ N ∧ N ≤ 200) (h : (qZ B N).1 = 0) : okE (qY B N).1 ∧ dE (qY B N).1 = 1 ∧ ((qY B N).1.length : Int) ≤ 200 := by
  have u := qS_up (B := B) hN.1
  have q := qZ_0 h
  have g : (qY B N).2.1 = 0 := by rw [← q.2]; exact h
  have k := ts_ok (B := B) (fa_LG 10) (fa_ok 10 0 (by decide) (by decide)) (y := ([], qS B N)) u.1 u.2 trivial (by show (0 : Int) ≤ 0; decide) (by show (0 : Int) + 2 * (6 - 0) + 3 ≤ 15; decide) g
  have lg := ts_LG (B := B) (w := faQ B N 10) (fa_LG 10) 0 ([], qS B N) u.1 u.2
  have l2 := (lg.2.2 g).2
  refine ⟨k.1, k.2, ?_⟩
  have : ((([] : List ST).length : Nat) : Int) = 0 := rfl
  show ((tsQ B N (faQ B N 10) 0 ([], qS B N)).1.length : Int) ≤ 200
  dsimp only at l2 lg
  rw [this] at l2
  omega
/-! the class -/
def FQC (σ σ' : zt_S) : Prop := (∀ c j, c ≠ 2 → c ≠ 141 → c ≠ 142 → c ≠ 143 → c ≠ 140 → σ'.1 c j = σ.1 c j) ∧ σ'.2 = σ.2
theorem FQ.c {σ' : zt_S} (h : FQ σ σ') : FQC σ σ' := ⟨fun c j h1 h2 h3 h4 h5 => h.1 c j h1 h2 h3 h4 (Or.inl h5), h.2⟩
theorem FQC.tr {a b c : zt_S} (h : FQC a b) (g : FQC b c) : FQC a c := ⟨fun x j h1 h2 h3 h4 h5 => by rw [g.1 x j h1 h2 h3 h4 h5, h.1 x j h1 h2 h3 h4 h5], g.2.trans h.2⟩
theorem ec_qread (hb : BF σ) (hv : 0 ≤ N ∧ N ≤ σ.1 0 1) : ∃ σ', F_QR_read N σ = some ((qZ (σ.1 169) N).1, σ') ∧ QC (σ.1 169) N σ' ((qY (σ.1 169) N).1, qZ (σ.1 169) N) ∧ σ'.1 140 5 = bI (qM (σ.1 169) N) ∧ FQC σ σ' := by
  obtain ⟨b1, b2, b3⟩ := hb
  have hN : 0 ≤ N ∧ N ≤ 500 := by omega
  obtain ⟨B, hBe⟩ : ∃ B, B = σ.1 169 := ⟨_, rfl⟩
  rw [← hBe]
  obtain ⟨σa, hσa⟩ : ∃ x, x = zt_up (zt_up (zt_up (zt_up (zt_up σ 140 4 0) 2 1 N) 2 3 0) 2 6 0) 2 7 (-1) := ⟨_, rfl⟩
  have a0 : ∀ c j, c ≠ 2 → (c ≠ 140 ∨ j ≠ 4) → σa.1 c j = σ.1 c j := fun c j hc h4 => by
    rw [hσa]
    simp (disch := omega) only [up_o]
  have a4 : σa.1 140 4 = 0 := by rw [hσa]; simp (disch := omega) only [up_o, up_s]
  have a1 : σa.1 2 1 = N := by rw [hσa]; simp (disch := omega) only [up_o, up_s]
  have a3 : σa.1 2 3 = 0 := by rw [hσa]; simp (disch := omega) only [up_o, up_s]
  have a6 : σa.1 2 6 = 0 := by rw [hσa]; simp (disch := omega) only [up_o, up_s]
  have a7 : σa.1 2 7 = -1 := by rw [hσa]; simp (disch := omega) only [up_s]
  have cb : CBY B N σa := ⟨hN, a1, fun j h0 h1 => by
    have := b3 j h0 (by omega)
    rw [← hBe] at this
    rw [a0 _ _ (by decide) (by omega)]
    exact this⟩
  obtain ⟨σ1, n1, n2, n3⟩ := e_next cb (by rw [a3]; omega)
  rw [a3] at n2
  have cp1 : CP B N σ1 s0 := ⟨cb.f n3, ⟨by show (0 : Int) ≤ 0; omega, by show (0 : Int) ≤ N; omega⟩, n2, by rw [n3.1 _ _ (by omega)]; exact a6, by rw [n3.1 _ _ (by omega)]; exact a7, by show (0 : Int) ≤ 0 ∧ (0 : Int) ≤ 3; omega, by show (-1 : Int) ≤ -1 ∧ (-1 : Int) ≤ 500; omega⟩
  obtain ⟨σ2, g1, g2, g3⟩ := e_takeWord (k := 10) (by decide) cp1
  obtain ⟨σ3, hσ3⟩ : ∃ x, x = zt_up σ2 140 5 (bI (qM B N)) := ⟨_, rfl⟩
  have cp3 : CP B N σ3 (pWd B N (q_big + 1 + 10) s0) := g2.l (fun j => by rw [hσ3, up_o (by omega)]) (fun j _ _ => by rw [hσ3, up_o (by omega)])
  have e5 : σ3.1 140 5 = bI (qM B N) := by rw [hσ3, up_s]
  have e4 : σ3.1 140 4 = 0 := by rw [hσ3, up_o (by omega), g3.1 _ _ (by omega), n3.1 _ _ (by omega), a4]
  have f3 : FQC σ σ3 := ⟨fun c j c1 c2 c3 c4 c5 => by rw [hσ3, up_o (by omega), g3.1 _ _ (by omega), n3.1 _ _ (by omega), a0 _ _ c1 (by omega)], by rw [hσ3, up_2, g3.2, n3.2, hσa, up_2, up_2, up_2, up_2, up_2]⟩
  -- behind the first word
  have rest : ∀ σ4 : zt_S, CP B N σ4 (qS B N) → FT2 σ3 σ4 → ∃ σ', F_QR_read_42 σ4 = some ((qZ B N).1, σ') ∧ QC B N σ' ((qY B N).1, qZ B N) ∧ σ'.1 140 5 = bI (qM B N) ∧ FQC σ σ' := by
    intro σ4 h1 h2
    have u := qS_up (B := B) hN.1
    have qc : QC B N σ4 ([], qS B N) := ⟨h1, by rw [h2.1 _ _ (by omega)]; exact e4, trivial⟩
    obtain ⟨σ5, k1, k2, k3⟩ := e_test (f := F_QR_readFactor 10) (w := faQ B N 10) (c := 20000) hN.2 (by decide) (fa_LG 10) (e_factor hN.2 10 0 (by decide) (by decide) (by decide) (by decide)) qc (by show (0 : Int) ≤ _; dsimp only; omega)
    have k2 : QC B N σ5 (qY B N) := k2
    have x5 : σ5.1 140 5 = bI (qM B N) := by rw [k3.1 _ _ (by omega) (by omega) (by omega) (by omega) (by omega), h2.1 _ _ (by omega)]; exact e5
    unfold F_QR_read_42 F_QR_read_65
    rw [k1, zt_bdS, e_isAtEnd k2.1, zt_bdS]
    unfold qZ
    by_cases k0 : tK B N (qY B N).2.2.2 = 0
    · rw [if_pos k0, zt_ckI (by decide), if_neg (by decide), if_pos k0, k2.1.2.2.2.1]
      exact ⟨σ5, rfl, k2, x5, f3.tr (h2.q.c.tr k3.c)⟩
    · obtain ⟨σ6, m1, m2, m3⟩ := e_fail (k := 1) k2.1 (by decide)
      rw [if_neg k0, zt_ckI (by decide), if_pos rfl, if_neg k0, m1, zt_bdS, m2.2.2.2.1]
      exact ⟨σ6, rfl, k2.ft m3 m2, by rw [m3.1 _ _ (by omega)]; exact x5, (f3.tr (h2.q.c.tr k3.c)).tr m3.q.c⟩
  have em : (if pWb B N (q_big + 1 + 10) s0 = true then (1 : Int) else 0) = bI (qM B N) := rfl
  have bb := bI_v (qM B N)
  unfold F_QR_read F_Tk_open
  rw [zt_letS, zt_letS, zt_letS, zt_letS, zt_letS, ← hσa, n1, zt_bdS, zt_bdS, g1, zt_bdS, em, zt_ckI (by omega), zt_letS, ← hσ3, e5, zt_ckI (by unfold zt_in; omega)]
  unfold pWd at cp3
  by_cases hm : qM B N = true
  · have hm' : pWb B N (q_big + 1 + 10) s0 = true := hm
    have es : qS B N = pX B N s0 := if_pos hm
    have b1' : bI (qM B N) = 1 := if_pos hm
    rw [if_pos hm'] at cp3
    rw [b1', if_neg (by decide), ← b1']
    exact rest σ3 (by rw [es]; exact cp3) FT2.rf
  · have hm' : ¬ pWb B N (q_big + 1 + 10) s0 = true := hm
    have es : qS B N = pNW B N (q_big + 1 + 11) s0 := if_neg hm
    have b1' : bI (qM B N) = 0 := if_neg hm
    rw [if_neg hm'] at cp3
    obtain ⟨σ4, m1, m2, m3⟩ := e_needWord (k := 11) (by decide) cp3
    rw [b1', if_pos rfl, m1, zt_bdS, ← b1']
    exact rest σ4 (by rw [es]; exact m2) m3
/-! the reference -/
theorem wo_10_11 (h : pWb B N (q_big + 1 + 11) s = true) (hp : 0 ≤ s.2.2 ∧ s.2.2 ≤ N) : ¬ pWb B N (q_big + 1 + 10) s = true := by
  intro g
  unfold pWb at h g
  simp only [Bool.and_eq_true] at h g
  have a := (isW_h (k := 11) (by decide) hp).mp h.2
  have b := (isW_h (k := 10) (by decide) hp).mp g.2
  have := a.2.2.symm.trans b.2.2
  rw [hW_10, hW_11] at this
  exact absurd this (by decide)
theorem em_qread (h : MP B N τ (qS B N)) (hN : N ≤ 200) : ∃ τ', F_M_reads τ = some ((), τ') ∧ MP B N τ' (qZ B N) ∧ FQ3 τ τ' ∧ ((qZ B N).1 = 0 → CF B N τ' [] (enc (qY B N).1) (qZ B N)) := by
  have u := h.2.1
  obtain ⟨τ1, hτ1⟩ : ∃ t, t = zt_up (zt_up (zt_up τ 163 35 0) 163 37 0) 163 36 0 := ⟨_, rfl⟩
  have mp1 : MP B N τ1 (qS B N) := h.l (fun j => by rw [hτ1]; simp (disch := omega) only [up_o]) (fun j _ _ => by rw [hτ1]; simp (disch := omega) only [up_o]) (by rw [hτ1]; rfl)
  have f1 : FQ3 τ τ1 := by
    rw [hτ1]
    exact ((FQ3.up (by omega)).tr (FQ3.up (by omega))).tr (FQ3.up (by omega))
  obtain ⟨m, hm⟩ := zN1
  unfold F_M_reads
  rw [zt_letS, zt_letS, zt_letS, ← hτ1, em_isGood mp1, zt_bdS]
  by_cases s0' : (qS B N).1 = 0
  · rw [if_pos s0', hm, reads_O]
    have cf : CF B N τ1 [] (enc []) (qS B N) := by
      refine ⟨mp1, s0', hN, ?_, trivial, ?_, trivial, ?_, ?_, fun x hx => by simp at hx⟩
      · rw [hτ1]; simp (disch := omega) only [up_o, up_s]; rfl
      · rw [hτ1]; simp (disch := omega) only [up_s]; rfl
      · rw [hτ1]; simp (disch := omega) only [up_o, up_s]; rfl
      · show (0 : Int) + 0 ≤ _
        omega
    have zb := zN (m := 1000) (by omega)
    have sf := sim_fa (B := B) (N := N) 10 0 (by decide) (by decide) (by decide) (by decide)
    have q := sf zt_N m τ1 [] [] (qS B N) cf rfl (by omega) (by omega)
    have lg := fa_LG (B := B) (N := N) 10 0 ([], qS B N) u.1 u.2
    -- to the end of the test
    have T : (¬ (qY B N).2.1 = 0 → ∃ τ', jO zt_N m τ1 = some ((), τ') ∧ MP B N τ' (qY B N).2 ∧ FQ3 τ1 τ') ∧ ((qY B N).2.1 = 0 → ∃ g' f' τ' a b E', jO zt_N m τ1 = jC g' f' τ' ∧ CF B N τ' (pd a b ++ []) (enc E') (qY B N).2 ∧ (qY B N).1 = aOr b (aAn a E') ∧ ¬ isW B N (qY B N).2.2.2 (q_big + 1 + 21) = true ∧ ¬ isW B N (qY B N).2.2.2 (q_big + 1 + 22) = true ∧ N - (qY B N).2.2.2 < (g' : Int) ∧ N - (qY B N).2.2.2 < (f' : Int) ∧ FQ3 τ1 τ') := by
      unfold qY tsQ
      by_cases y : (faQ B N 10 0 ([], qS B N)).2.1 = 0
      · obtain ⟨g', f', τ', q1, q2, q3, q4, q5⟩ := q.2 y
        have i := sim_lp (fa_LG 10) sf (S := []) (Or.inl rfl) rfl 200 g' f' false false τ' (faQ B N 10 0 ([], qS B N)).1 (faQ B N 10 0 ([], qS B N)).2 q2 (by dsimp only at lg; omega) q3 q4
        have ey : (aAn false (faQ B N 10 0 ([], qS B N)).1, (faQ B N 10 0 ([], qS B N)).2) = faQ B N 10 0 ([], qS B N) := rfl
        rw [ey] at i
        rw [q1]
        refine ⟨fun z => ?_, fun z => ?_⟩
        · obtain ⟨τ3, r1, r2, r3⟩ := i.1 z
          exact ⟨τ3, r1, r2, q5.tr r3⟩
        · obtain ⟨g3, f3, τ3, a3, b3, E3, r1, r2, r3, r4, r5, r6, r7, r8⟩ := i.2 z
          exact ⟨g3, f3, τ3, a3, b3, E3, r1, r2, r3, r4, r5, r6, r7, q5.tr r8⟩
      · obtain ⟨τ', q1, q2, q3⟩ := q.1 y
        have ef : lpQ B N (faQ B N 10) 0 200 false (faQ B N 10 0 ([], qS B N)) = (aOr false (faQ B N 10 0 ([], qS B N)).1, (faQ B N 10 0 ([], qS B N)).2) := by
          rw [lpQ, if_pos y]
        rw [ef]
        exact ⟨fun _ => ⟨τ', q1, q2, q3⟩, fun z => absurd z y⟩
    by_cases y : (qY B N).2.1 = 0
    · obtain ⟨g', f', τ', a, b, E', r1, r2, r3, r4, r5, r6, r7, r8⟩ := T.2 y
      have p := r2.pos
      obtain ⟨g', rfl⟩ : ∃ g1, g' = g1 + 1 := ⟨g' - 1, by omega⟩
      obtain ⟨f', rfl⟩ : ∃ f1, f' = f1 + 1 := ⟨f' - 1, by omega⟩
      have n1 : ¬ (1 : Int) ∈ pd a b ++ [] := by cases a <;> cases b <;> decide
      rw [r1, em_noclose r2 (Or.inr n1), em_end r2 r4 r5]
      unfold qZ
      by_cases k0 : tK B N (qY B N).2.2.2 = 0
      · have km := kM_v (B := B) r2.1.2.1
        obtain ⟨τ4, t1, t2, t3⟩ := em_set1 (S := []) (Or.inl rfl) r2
        rw [if_pos k0, r3]
        refine ⟨τ4, ?_, t2.1, (f1.tr r8).tr t3, fun _ => t2⟩
        unfold F_M_reads_124 F_M_reads_151
        rw [em_isGood r2.1, zt_bdS, if_pos y, zt_ckI (by decide), if_neg (by decide), em_inside r2, zt_bdS, if_neg n1, zt_ckI (by decide), if_pos rfl, r2.1.2.2.1.2.2.1, zt_ckI km.2.2.2.2, if_pos (km.1.mpr k0), t1, zt_bdS]
      · obtain ⟨τ4, t1, t2, t3⟩ := em_bad_end r2 (Or.inr k0)
        rw [if_neg k0]
        exact ⟨τ4, t1, t2, (f1.tr r8).tr t3, fun z => absurd z (pF_ne (by decide))⟩
    · obtain ⟨τ', r1, r2, r3⟩ := T.1 y
      have ez : qZ B N = (qY B N).2 := by
        unfold qZ
        rw [pF_f y]
        split <;> rfl
      rw [ez]
      exact ⟨τ', r1, r2, f1.tr r3, fun z => absurd z y⟩
  · have e : (qY B N).2 = qS B N := ts_f s0'
    have ez : qZ B N = qS B N := by
      unfold qZ
      rw [e, pF_f s0']
      split <;> rfl
    rw [if_neg s0', ez, hm, F_M_reads_20, zt_ckI (by decide), if_pos rfl]
    unfold F_M_reads_124 F_M_reads_151
    rw [em_isGood mp1, zt_bdS, if_neg s0', zt_ckI (by decide), if_pos rfl, em_no mp1 s0', zt_bdS]
    exact ⟨τ1, rfl, mp1, f1, fun z => absurd z s0'⟩
/-! the answer over the cards -/
def an (H : Int → Bool) (m : Bool) : Nat → Int → Int → Int
  | 0, a, _ => if m = true then a else -1
  | k + 1, a, c => if H c = true then (if m = true then an H m k (a + 1) (c + 1) else c) else an H m k a (c + 1)
theorem an_in {H : Int → Bool} {m : Bool} : ∀ (k : Nat) (a c : Int), 0 ≤ a → 0 ≤ c → -1 ≤ an H m k a c ∧ an H m k a c ≤ a + c + 2 * k
  | 0, a, c, h0, h1 => by
    rw [an]
    split <;> omega
  | k + 1, a, c, h0, h1 => by
    have i := an_in (H := H) (m := m) k (a + 1) (c + 1) (by omega) (by omega)
    have j := an_in (H := H) (m := m) k a (c + 1) (by omega) (by omega)
    rw [an]
    split
    · split <;> omega
    · omega
theorem e_an {H : Int → Bool} {m : Bool} {L : Int64} {R : Int} (hR : 4 ≤ R ∧ R ≤ 13) (hs : σ.1 3 0 = R) (h5 : σ.1 140 5 = bI m) (hh : ∀ c, 0 ≤ c → c < 4 * R → F_QR_holds 6 c L σ = some (bv (H c), σ)) : ∀ (k f : Nat) (a c : Int), c + k = 4 * R → k < f → 0 ≤ c → F_QR_answer_11 6 f L a c σ = some (an H m k a c, σ)
  | k, 0, _, _, _, h1, _ => absurd h1 (Nat.not_lt_zero k)
  | 0, f + 1, a, c, h0, h1, h2 => by
    have b := bI_v m
    rw [F_QR_answer_11, e_cardCount, zt_bdS, show σ.1 (zt_su 6) 0 = R from hs, zt_ckI ⟨by unfold zt_in; omega, by unfold zt_in; omega⟩, if_neg (by omega)]
    unfold F_QR_answer_53 F_QR_answer_66
    rw [h5, zt_ckI (by unfold zt_in; omega), an]
    unfold bI
    by_cases hm : m = true
    · rw [if_pos hm, if_neg (by decide), if_pos hm]
    · rw [if_neg hm, if_pos rfl, if_neg hm]
  | k + 1, f + 1, a, c, h0, h1, h2 => by
    have b := bI_v m
    rw [F_QR_answer_11, e_cardCount, zt_bdS, show σ.1 (zt_su 6) 0 = R from hs, zt_ckI ⟨by unfold zt_in; omega, by unfold zt_in; omega⟩, if_pos (by omega), hh c h2 (by omega), zt_bdS, an]
    unfold F_QR_answer_47
    have ih := fun a => e_an (H := H) (m := m) hR hs h5 hh k f a (c + 1) (by omega) (by omega) (by omega)
    unfold bv
    by_cases hc : H c = true
    · rw [if_pos hc, zt_ckI (by decide), if_neg (by decide), if_pos hc, h5, zt_ckI (by unfold zt_in; omega)]
      unfold bI
      by_cases hm : m = true
      · rw [if_pos hm, if_neg (by decide), if_pos hm]
        exact ih (a + 1)
      · rw [if_neg hm, if_pos rfl, if_neg hm]
    · rw [if_neg hc, zt_ckI (by decide), if_pos rfl, if_neg hc]
      exact ih a
theorem em_an {H : Int → Bool} {m : Bool} {v2 : Int} {w : Int → Int} (hw : (4 ≤ w 0 ∧ w 0 ≤ 13)) (hv : zt_in v2) (hm : v2 = 0 ↔ m = true) (P : zt_S → Prop) (hP : ∀ t t', P t → FA t t' → P t') (hh : ∀ t c, P t → t.1 164 = w → 0 ≤ c → c < 4 * w 0 → ∃ t', F_M_holds c t = some (bv (H c), t') ∧ FA t t') : ∀ (k f : Nat) (a c : Int) (t : zt_S), c + k = 4 * w 0 → k < f → 0 ≤ c → P t → t.1 164 = w → ∃ t', F_M_query_90 f v2 a c t = some (an H m k a c, t') ∧ FA t t'
  | k, 0, _, _, _, _, h1, _, _, _ => absurd h1 (Nat.not_lt_zero k)
  | 0, f + 1, a, c, t, h0, h1, h2, h3, h4 => by
    refine ⟨t, ?_, FA.rf⟩
    rw [F_M_query_90]
    unfold F_M_cards F_M_query_127 F_M_query_136
    rw [h4, zt_bdS, zt_ckI ⟨by unfold zt_in; omega, by unfold zt_in; omega⟩, if_neg (by omega), zt_ckI hv, an]
    by_cases z : m = true
    · rw [if_pos (hm.mpr z), if_pos z]
    · rw [if_neg (fun y => z (hm.mp y)), if_neg z]
  | k + 1, f + 1, a, c, t, h0, h1, h2, h3, h4 => by
    obtain ⟨t1, g1, g2⟩ := hh t c h3 h4 h2 (by omega)
    have p1 := hP t t1 h3 g2
    have w1 : t1.1 164 = w := by rw [← h4]; exact funext fun j => g2.1 164 j (by decide)
    have ih := fun a => em_an (H := H) (m := m) hw hv hm P hP hh k f a (c + 1) t1 (by omega) (by omega) (by omega) p1 w1
    rw [F_M_query_90]
    unfold F_M_cards F_M_query_121
    rw [h4, zt_bdS, zt_ckI ⟨by unfold zt_in; omega, by unfold zt_in; omega⟩, if_pos (by omega), g1, zt_bdS, an]
    unfold bv
    by_cases hc : H c = true
    · rw [if_pos hc, zt_ckI (by decide), if_neg (by decide), if_pos hc, zt_ckI hv]
      by_cases z : m = true
      · rw [if_pos (hm.mpr z), if_pos z]
        obtain ⟨t2, k1, k2⟩ := ih (a + 1)
        exact ⟨t2, k1, g2.tr k2⟩
      · rw [if_neg (fun y => z (hm.mp y)), if_neg z]
        exact ⟨t1, rfl, g2⟩
    · rw [if_neg hc, zt_ckI (by decide), if_pos rfl, if_neg hc]
      obtain ⟨t2, k1, k2⟩ := ih a
      exact ⟨t2, k1, g2.tr k2⟩
end QO
