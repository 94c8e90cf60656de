/-! WHAT MAY BE PLAYED, in the class -/
theorem wS_iff {w : Int → Int} (h : RI w) {u c : Int} : wS w c = u ↔ u * w 0 ≤ c ∧ c < u * w 0 + w 0 := by
  have a := h.n
  unfold wS
  constructor
  · intro z
    have a1 := (Int.le_ediv_iff_mul_le (show 0 < w 0 by omega)).mp (show u ≤ c / w 0 by omega)
    have a2 := (Int.ediv_lt_iff_lt_mul (show 0 < w 0 by omega)).mp (show c / w 0 < u + 1 by omega)
    rw [Int.add_mul, Int.one_mul] at a2
    exact ⟨a1, a2⟩
  · intro z
    have a1 := (Int.le_ediv_iff_mul_le (show 0 < w 0 by omega)).mpr z.1
    have a2 := (Int.ediv_lt_iff_lt_mul (b := u + 1) (show 0 < w 0 by omega)).mpr (by rw [Int.add_mul, Int.one_mul]; exact z.2)
    omega
theorem hb_zero {X : Int64} : X = 0 ↔ ∀ c : Int, 0 ≤ c → c < 64 → hb X c = false :=
  ⟨fun h c _ _ => by rw [h]; exact hb_0 c, fun h => hb_ext fun c h0 h1 => by rw [h c h0 h1, hb_0]⟩
theorem wSc_pos {w : Int → Int} (h : RI w) {p u : Int} (hu : 0 ≤ u ∧ u < 4) : 0 < wSc w p u ↔ ∃ c, 0 ≤ c ∧ c < 4 * w 0 ∧ wHd w c = p ∧ wS w c = u := by
  have a := h.n
  have m := h.mu hu
  unfold wSc
  rw [cn_pos]
  constructor
  · rintro ⟨c, h1, h2, h3⟩
    refine ⟨c, by omega, by omega, of_decide_eq_true h3, (wS_iff h).mpr ⟨h1, by omega⟩⟩
  · rintro ⟨c, h1, h2, h3, h4⟩
    have := (wS_iff h).mp h4
    exact ⟨c, this.1, by omega, decide_eq_true h3⟩
theorem wHB_iff {w : Int → Int} (h : RI w) {p u : Int} (hu : 0 ≤ u ∧ u < 4) : wHB w p u = true ↔ ∃ c, 0 ≤ c ∧ c < 4 * w 0 ∧ wHd w c = p ∧ wS w c = u ∧ wBt w c = true := by
  have a := h.n
  have m := h.mu hu
  unfold wHB
  rw [decide_eq_true_eq, cn_pos]
  constructor
  · rintro ⟨c, h1, h2, h3⟩
    rw [Bool.and_eq_true, decide_eq_true_eq] at h3
    exact ⟨c, by omega, by omega, h3.1, (wS_iff h).mpr ⟨h1, by omega⟩, h3.2⟩
  · rintro ⟨c, h1, h2, h3, h4, h5⟩
    have := (wS_iff h).mp h4
    exact ⟨c, this.1, by omega, by rw [Bool.and_eq_true, decide_eq_true_eq]; exact ⟨h3, h5⟩⟩
section EC
variable {σ : zt_S} {s k : Nat} {w : Int → Int}
theorem ec_cardsOf {u : Int} (hs : SUw σ s w) (hw : RI w) (hu : -1 ≤ u ∧ u < 4) : ∃ v, F_Su_cardsOf s u σ = some (v, σ) ∧ ∀ c, 0 ≤ c → c < 64 → hb v c = decide (0 ≤ u ∧ wS w c = u) := by
  obtain ⟨v, h1, h2⟩ := e_cardsOf (hs.su hw) hu
  refine ⟨v, h1, fun c h3 h4 => ?_⟩
  rw [h2 c h3 h4, hs.1]
  rfl
theorem ec_higherOf {X : Int64} (hk : TK σ k w) (hs : SUw σ s w) (hw : RI w) (hp : ¬ wPl w = 0) (hX : ∀ c, 0 ≤ c → c < 64 → hb X c = true → c < 4 * w 0 ∧ wS w c = wLd w) : ∃ v, F_Tr_higherOf k s X σ = some (v, σ) ∧ ∀ c, 0 ≤ c → c < 64 → hb v c = (hb X c && wBt w c) := by
  have a := hw.n
  have b := hw.wpl
  have e := wLd_lt hw
  have e1 := e.2.2 (by omega)
  have m := hw.mu (s := wLd w) ⟨e1, e.2.1⟩
  have p2 := wPn_lt hw (c := wCd w (wBp w))
  have c0 := hw.cd (k := 0) (by omega) (by omega)
  have mx := wBp_max (w := w) (j := 0) (by omega) (by omega)
  have r0 := wR_lt hw (c := wCd w 0)
  have l0 : wS w (wCd w 0) = wLd w := by unfold wLd; rw [if_neg hp]
  have pn : ∀ c, wS w c = wLd w → wPn w c = wR w c + (if wLd w = w 10 then w 11 else 0) := by
    intro c hc
    unfold wPn wPw
    rw [if_neg hp, hc]
    by_cases h : wLd w = w 10
    · rw [if_pos h, if_pos h]
    · rw [if_neg h, if_pos rfl, if_neg h, Int.add_zero]
  have q0 := pn _ l0
  obtain ⟨⟨k0, k1, k2, k3⟩, ⟨k4, k5, k6⟩, k7, k8⟩ := hk
  rw [if_neg hp] at k4
  have key : ∀ (g : Int), g = (if wLd w = w 10 then w 11 else 0) → ∃ v, F_Tr_higherOf_23 k s X g (σ.1 k 4) σ = some (v, σ) ∧ ∀ c, 0 ≤ c → c < 64 → hb v c = (hb X c && wBt w c) := by
    intro g hg
    have g2 : 0 ≤ g ∧ g ≤ 30 := by rw [hg]; split <;> omega
    rw [← hg] at q0
    have bt : ∀ c, 0 ≤ c → c < 64 → hb X c = true → (wBt w c = true ↔ wPn w (wCd w (wBp w)) - g < wR w c) := by
      intro c h0 h1 h2
      unfold wBt
      rw [decide_eq_true_eq, pn c (hX c h0 h1 h2).2, ← hg]
      constructor
      · rintro (z | z)
        · exact absurd z hp
        · omega
      · intro z; exact Or.inr (by omega)
    unfold F_Tr_higherOf_23 F_Tr_higherOf_57
    rw [k4, k3, hs.1]
    by_cases h1 : wPn w (wCd w (wBp w)) - g < w 0
    · refine ⟨X &&& zt_ls (-1) (wLd w * w 0 + (wPn w (wCd w (wBp w)) - g)), ?_, fun c h2 h3 => ?_⟩
      · simp (disch := first | omega | (unfold zt_in; omega)) only [↓zt_ckI, ↓if_pos, ↓if_neg, if_true, if_false, zt_letS, zt_ckI, if_pos, if_neg, up_s, up_o, up_2, zt_in]
      · rw [hb_and, hb_ls ⟨by omega, by omega⟩ ⟨h2, h3⟩]
        by_cases hx : hb X c = true
        · rw [hx, Bool.true_and, Bool.true_and]
          have hS := (hX c h2 h3 hx).2
          have hI := (wS_iff hw).mp hS
          have hR : wR w c = c - wLd w * w 0 + 1 := by
            unfold wR
            rw [Int.emod_def, show c / w 0 = wLd w from hS, Int.mul_comm]
          have hB := bt c h2 h3 hx
          by_cases h5 : wLd w * w 0 + (wPn w (wCd w (wBp w)) - g) ≤ c
          · rw [hb_m1 (by omega) (by omega), decide_eq_true h5, Bool.true_and]
            exact (hB.mpr (by omega)).symm
          · rw [decide_eq_false h5, Bool.false_and]
            exact (Bool.eq_false_iff.mpr (fun z => h5 (by have := hB.mp z; omega))).symm
        · rw [Bool.eq_false_iff.mpr hx, Bool.false_and, Bool.false_and]
    · refine ⟨0, ?_, fun c h2 h3 => ?_⟩
      · simp (disch := first | omega | (unfold zt_in; omega)) only [↓zt_ckI, ↓if_pos, ↓if_neg, if_true, if_false, zt_letS, zt_ckI, if_pos, if_neg, up_s, up_o, up_2, zt_in]
      · rw [hb_0]
        by_cases hx : hb X c = true
        · have hB := bt c h2 h3 hx
          have r1 := wR_lt hw (c := c)
          rw [hx, Bool.true_and]
          exact (Bool.eq_false_iff.mpr (fun z => by have := hB.mp z; omega)).symm
        · rw [Bool.eq_false_iff.mpr hx, Bool.false_and]
  unfold F_Tr_higherOf
  by_cases h1 : wLd w = w 10
  · have := key (w 11) (by rw [if_pos h1])
    rw [k3, k7, k8, zt_ckI (by constructor <;> (unfold zt_in; omega)), if_pos h1]
    exact this
  · have := key 0 (by rw [if_neg h1])
    rw [k3, k7, zt_ckI (by constructor <;> (unfold zt_in; omega)), if_neg h1]
    exact this
theorem ec_allowed {H : Int64} {p : Int} (hk : TK σ k w) (hs : SUw σ s w) (hw : RI w) (hp : 0 ≤ p ∧ p < 4) (hH : ∀ c, 0 ≤ c → c < 64 → hb H c = decide (c < 4 * w 0 ∧ wHd w c = p)) : ∃ v, F_Tr_allowed k s H (w 3) σ = some (v, σ) ∧ ∀ c, 0 ≤ c → c < 64 → hb v c = (decide (c < 4 * w 0 ∧ wHd w c = p) && wMp w p c) := by
  have a := hw.n
  have b := hw.wpl
  have e := wLd_lt hw
  have hk0 := hk
  obtain ⟨⟨k0, k1, k2, k3⟩, ⟨k4, k5, k6⟩, k7, k8⟩ := hk
  unfold F_Tr_allowed
  by_cases h1 : wPl w = 0
  · refine ⟨H, ?_, fun c h2 h3 => ?_⟩
    · simp (disch := first | omega | (unfold zt_in; omega)) only [↓zt_ckI, ↓if_pos, ↓if_neg, if_true, if_false, zt_letS, zt_ckI, if_pos, if_neg, up_s, up_o, up_2, F_Tr_allowed_12]
    · rw [hH c h2 h3]; unfold wMp; rw [if_pos (Or.inr h1), Bool.and_true]
  · by_cases h3 : w 3 = 0
    · refine ⟨H, ?_, fun c h2 h4 => ?_⟩
      · simp (disch := first | omega | (unfold zt_in; omega)) only [↓zt_ckI, ↓if_pos, ↓if_neg, if_true, if_false, zt_letS, zt_ckI, if_pos, if_neg, up_s, up_o, up_2, F_Tr_allowed_12]
      · rw [hH c h2 h4]; unfold wMp; rw [if_pos (Or.inl h3), Bool.and_true]
    · have e1 := e.2.2 (by omega)
      obtain ⟨L, l1, l2⟩ := ec_cardsOf (u := wLd w) hs hw ⟨by omega, e.2.1⟩
      have l3 : ∀ {β : Type} (K : Int64 → zt_S → Option β), zt_bd (F_Su_cardsOf s (wLd w) σ) K = K L σ := fun K => by rw [l1]; rfl
      have f1 : ∀ c, 0 ≤ c → c < 64 → hb (H &&& L) c = decide (c < 4 * w 0 ∧ wHd w c = p ∧ wS w c = wLd w) := by
        intro c h5 h6
        rw [hb_and, hH c h5 h6, l2 c h5 h6]
        simp [e1, and_assoc, ← Bool.decide_and]
      have f2 : H &&& L = 0 ↔ ¬ 0 < wSc w p (wLd w) := by
        rw [hb_zero, wSc_pos hw ⟨e1, e.2.1⟩]
        constructor
        · rintro z ⟨c, c1, c2, c3, c4⟩
          have := z c c1 (by omega)
          rw [f1 c c1 (by omega)] at this
          exact absurd ⟨c2, c3, c4⟩ (of_decide_eq_false this)
        · intro z c c1 c2
          rw [f1 c c1 c2]
          exact decide_eq_false (fun ⟨z1, z2, z3⟩ => z ⟨c, c1, z1, z2, z3⟩)
      by_cases h4 : 0 < wSc w p (wLd w)
      · have f3 : ¬ zt_lc (H &&& L) 0 = 0 := by rw [zt_lc0, f2]; exact fun z => z h4
        by_cases h5 : w 3 = 2
        · obtain ⟨G, g1, g2⟩ := ec_higherOf (X := H &&& L) hk0 hs hw h1 (fun c c1 c2 c3 => by rw [f1 c c1 c2, decide_eq_true_eq] at c3; exact ⟨c3.1, c3.2.2⟩)
          have g3 : ∀ {β : Type} (K : Int64 → zt_S → Option β), zt_bd (F_Tr_higherOf k s (H &&& L) σ) K = K G σ := fun K => by rw [g1]; rfl
          have g4 : G = 0 ↔ ¬ wHB w p (wLd w) = true := by
            rw [hb_zero, wHB_iff hw ⟨e1, e.2.1⟩]
            constructor
            · rintro z ⟨c, c1, c2, c3, c4, c5⟩
              have := z c c1 (by omega)
              rw [g2 c c1 (by omega), f1 c c1 (by omega), c5, Bool.and_true] at this
              exact absurd ⟨c2, c3, c4⟩ (of_decide_eq_false this)
            · intro z c c1 c2
              rw [g2 c c1 c2, f1 c c1 c2]
              by_cases hz : c < 4 * w 0 ∧ wHd w c = p ∧ wS w c = wLd w
              · rw [decide_eq_true hz, Bool.true_and]
                exact Bool.eq_false_iff.mpr (fun y => z ⟨c, c1, hz.1, hz.2.1, hz.2.2, y⟩)
              · rw [decide_eq_false hz, Bool.false_and]
          by_cases h6 : wHB w p (wLd w) = true
          · have g5 : ¬ zt_lc G 0 = 0 := by rw [zt_lc0, g4]; exact fun z => z h6
            refine ⟨G, ?_, fun c c1 c2 => ?_⟩
            · simp (disch := first | omega | (unfold zt_in; omega)) only [↓zt_ckI, ↓if_pos, ↓if_neg, if_true, if_false, zt_letS, zt_ckI, if_pos, if_neg, up_s, up_o, up_2, k3, ↓l3, f3, ↓g3, F_Tr_allowed_50, g5, F_Tr_allowed_66]
            · rw [g2 c c1 c2, f1 c c1 c2]
              unfold wMp
              rw [if_neg (by omega), if_pos h4]
              by_cases y1 : c < 4 * w 0 <;> by_cases y2 : wHd w c = p <;> by_cases y3 : wS w c = wLd w <;> simp [y1, y2, y3, h5, h6]
          · have g5 : zt_lc G 0 = 0 := by rw [zt_lc0, g4]; exact h6
            refine ⟨H &&& L, ?_, fun c c1 c2 => ?_⟩
            · simp (disch := first | omega | (unfold zt_in; omega)) only [↓zt_ckI, ↓if_pos, ↓if_neg, if_true, if_false, zt_letS, zt_ckI, if_pos, if_neg, up_s, up_o, up_2, k3, ↓l3, f3, ↓g3, F_Tr_allowed_50, g5, F_Tr_allowed_66]
            · rw [f1 c c1 c2]
              unfold wMp
              rw [if_neg (by omega), if_pos h4]
              by_cases y1 : c < 4 * w 0 <;> by_cases y2 : wHd w c = p <;> by_cases y3 : wS w c = wLd w <;> simp [y1, y2, y3, h5, h6]
        · refine ⟨H &&& L, ?_, fun c c1 c2 => ?_⟩
          · have g5 : zt_lc (0 : Int64) 0 = 0 := by rw [zt_lc0]
            simp (disch := first | omega | (unfold zt_in; omega)) only [↓zt_ckI, ↓if_pos, ↓if_neg, if_true, if_false, zt_letS, zt_ckI, if_pos, if_neg, up_s, up_o, up_2, k3, ↓l3, f3, F_Tr_allowed_50, g5, F_Tr_allowed_66]
          · rw [f1 c c1 c2]
            unfold wMp
            rw [if_neg (by omega), if_pos h4]
            by_cases y1 : c < 4 * w 0 <;> by_cases y2 : wHd w c = p <;> by_cases y3 : wS w c = wLd w <;> simp [y1, y2, y3, h5]
      · have f3 : zt_lc (H &&& L) 0 = 0 := by rw [zt_lc0, f2]; exact h4
        by_cases h5 : w 3 = 3
        · obtain ⟨T, t1, t2⟩ := ec_cardsOf (u := w 10) hs hw ⟨by omega, by omega⟩
          have t3 : ∀ {β : Type} (K : Int64 → zt_S → Option β), zt_bd (F_Su_cardsOf s (w 10) σ) K = K T σ := fun K => by rw [t1]; rfl
          have u1 : ∀ c, 0 ≤ c → c < 64 → hb (H &&& T) c = decide (c < 4 * w 0 ∧ wHd w c = p ∧ 0 ≤ w 10 ∧ wS w c = w 10) := by
            intro c h5 h6
            rw [hb_and, hH c h5 h6, t2 c h5 h6]
            simp [and_assoc, ← Bool.decide_and]
          have u2 : H &&& T = 0 ↔ ¬ (0 ≤ w 10 ∧ 0 < wSc w p (w 10)) := by
            rw [hb_zero]
            constructor
            · rintro z ⟨z0, z1⟩
              obtain ⟨c, c1, c2, c3, c4⟩ := (wSc_pos hw ⟨z0, by omega⟩).mp z1
              have := z c c1 (by omega)
              rw [u1 c c1 (by omega)] at this
              exact absurd ⟨c2, c3, z0, c4⟩ (of_decide_eq_false this)
            · intro z c c1 c2
              rw [u1 c c1 c2]
              exact decide_eq_false (fun ⟨z1, z2, z3, z4⟩ => z ⟨z3, (wSc_pos hw ⟨z3, by omega⟩).mpr ⟨c, c1, z1, z2, z4⟩⟩)
          by_cases h6 : 0 ≤ w 10 ∧ 0 < wSc w p (w 10)
          · have g5 : ¬ zt_lc (H &&& T) 0 = 0 := by rw [zt_lc0, u2]; exact fun z => z h6
            refine ⟨H &&& T, ?_, fun c c1 c2 => ?_⟩
            · simp (disch := first | omega | (unfold zt_in; omega)) only [↓zt_ckI, ↓if_pos, ↓if_neg, if_true, if_false, zt_letS, zt_ckI, if_pos, if_neg, up_s, up_o, up_2, k3, k7, ↓l3, f3, ↓t3, F_Tr_allowed_87, g5, F_Tr_allowed_102]
            · rw [u1 c c1 c2]
              unfold wMp
              rw [if_neg (by omega), if_neg h4]
              have h7 : ¬ w 10 = -1 := by omega
              by_cases y1 : c < 4 * w 0 <;> by_cases y2 : wHd w c = p <;> by_cases y3 : wS w c = w 10 <;> simp [y1, y2, y3, h5, h6, h7]
          · have g5 : zt_lc (H &&& T) 0 = 0 := by rw [zt_lc0, u2]; exact h6
            refine ⟨H, ?_, fun c c1 c2 => ?_⟩
            · simp (disch := first | omega | (unfold zt_in; omega)) only [↓zt_ckI, ↓if_pos, ↓if_neg, if_true, if_false, zt_letS, zt_ckI, if_pos, if_neg, up_s, up_o, up_2, k3, k7, ↓l3, f3, ↓t3, F_Tr_allowed_87, g5, F_Tr_allowed_102]
            · rw [hH c c1 c2]
              unfold wMp
              rw [if_neg (by omega), if_neg h4]
              by_cases y0 : w 10 = -1
              · simp [y0]
              · have y4 : ¬ 0 < wSc w p (w 10) := fun z => h6 ⟨by omega, z⟩
                simp [y4]
        · refine ⟨H, ?_, fun c c1 c2 => ?_⟩
          · have g5 : zt_lc (0 : Int64) 0 = 0 := by rw [zt_lc0]
            simp (disch := first | omega | (unfold zt_in; omega)) only [↓zt_ckI, ↓if_pos, ↓if_neg, if_true, if_false, zt_letS, zt_ckI, if_pos, if_neg, up_s, up_o, up_2, k3, ↓l3, f3, F_Tr_allowed_87, g5, F_Tr_allowed_102]
          · rw [hH c c1 c2]
            unfold wMp
            rw [if_neg (by omega), if_neg h4]
            simp [h5]
end EC
