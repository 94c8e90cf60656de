/-! A TABLE of the class is copied; a row of the reference is copied -/
theorem cI_1 (σ : zt_S) (s d : Nat) (sp dp n : Int) (c : Nat) (j : Int) : (zt_cI σ s d sp dp n).1 c j = if c = d ∧ dp ≤ j ∧ j < dp + n then σ.1 s (sp + (j - dp)) else σ.1 c j := rfl
theorem cI_2 (σ : zt_S) (s d : Nat) (sp dp n : Int) : (zt_cI σ s d sp dp n).2 = σ.2 := rfl
theorem cI_o {σ : zt_S} {s d : Nat} {sp dp n : Int} {c : Nat} {j : Int} (h : c ≠ d) : (zt_cI σ s d sp dp n).1 c j = σ.1 c j := if_neg (fun z => h z.1)
theorem cI_u {σ : zt_S} {s d : Nat} {sp dp n : Int} {c : Nat} {j : Int} (h : c ≠ d ∨ j < dp ∨ dp + n ≤ j) : (zt_cI σ s d sp dp n).1 c j = σ.1 c j := if_neg (by omega)
theorem cI_s {σ : zt_S} {s d : Nat} {sp dp n : Int} {j : Int} (h : dp ≤ j ∧ j < dp + n) : (zt_cI σ s d sp dp n).1 d j = σ.1 s (sp + (j - dp)) := if_pos ⟨rfl, h.1, h.2⟩
theorem cL_1 (σ : zt_S) (s d : Nat) (sp dp n : Int) : (zt_cL σ s d sp dp n).1 = σ.1 := rfl
theorem cL_3 (σ : zt_S) (s d : Nat) (sp dp n : Int) : (zt_cL σ s d sp dp n).2.2 = σ.2.2 := rfl
theorem cL_o {σ : zt_S} {s d : Nat} {sp dp n : Int} {c : Nat} {j : Int} (h : c ≠ d) : (zt_cL σ s d sp dp n).2.1 c j = σ.2.1 c j := if_neg (fun z => h z.1)
theorem cL_s {σ : zt_S} {s d : Nat} {sp dp n : Int} {j : Int} (h : dp ≤ j ∧ j < dp + n) : (zt_cL σ s d sp dp n).2.1 d j = σ.2.1 s (sp + (j - dp)) := if_pos ⟨rfl, h.1, h.2⟩
theorem e_copy {c0 c1 n : Nat} {σ : zt_S} (hn : n ≤ 1000) : F_Rw_copy c0 n c1 n σ = some ((), zt_cI σ c0 c1 0 0 (n : Int)) := by
  unfold F_Rw_copy
  rw [if_neg (Int.lt_irrefl _), zt_ckI ⟨by unfold zt_in; omega, by unfold zt_in; omega⟩, zt_ckI ⟨by omega, by omega, by omega, by omega, by omega⟩]
  rfl
theorem e_copySets {c0 c1 n : Nat} {σ : zt_S} (hn : n ≤ 1000) : F_Rw_copySets c0 n c1 n σ = some ((), zt_cL σ c0 c1 0 0 (n : Int)) := by
  unfold F_Rw_copySets
  rw [if_neg (Int.lt_irrefl _), zt_ckI ⟨by unfold zt_in; omega, by unfold zt_in; omega⟩, zt_ckI ⟨by omega, by omega, by omega, by omega, by omega⟩]
  rfl
theorem be_copy {β : Type} {c0 c1 n : Nat} {σ : zt_S} (hn : n ≤ 1000) {K : Unit → zt_S → Option β} : zt_bd (F_Rw_copy c0 n c1 n σ) K = K () (zt_cI σ c0 c1 0 0 (n : Int)) := by rw [e_copy hn]; rfl
theorem be_copySets {β : Type} {c0 c1 n : Nat} {σ : zt_S} (hn : n ≤ 1000) {K : Unit → zt_S → Option β} : zt_bd (F_Rw_copySets c0 n c1 n σ) K = K () (zt_cL σ c0 c1 0 0 (n : Int)) := by rw [e_copySets hn]; rfl
section CP
variable {σ : zt_S}
theorem e_TrCopy {k0 k1 : Nat} (h : k0 ≠ k1) : ∃ σ', F_Tr_copyFrom k0 k1 σ = some ((), σ') ∧ σ'.2 = σ.2 ∧ (∀ c j, c ≠ k0 → σ'.1 c j = σ.1 c j) ∧ (∀ j, 0 ≤ j → j < 9 → σ'.1 k0 j = σ.1 k1 j) := by
  unfold F_Tr_copyFrom
  refine ⟨_, rfl, rfl, fun c j hc => ?_, fun j h0 h1 => ?_⟩
  · simp only [up_1, hc, false_and, if_false]
  · have hj : j = 0 ∨ j = 1 ∨ j = 2 ∨ j = 3 ∨ j = 4 ∨ j = 5 ∨ j = 6 ∨ j = 7 ∨ j = 8 := by omega
    rcases hj with rfl | rfl | rfl | rfl | rfl | rfl | rfl | rfl | rfl <;> simp (disch := omega) only [up_s, up_o]
/-- σ' is σ with the table t1 copied to t0 -/
def CPY (t0 t1 : Nat) (σ σ' : zt_S) : Prop := FT t0 σ σ' ∧ (∀ j, 0 ≤ j → j < 9 → σ'.1 (t0 + 1) j = σ.1 (t1 + 1) j) ∧ (∀ j, 0 ≤ j → j < 4 → σ'.2.1 (t0 + 2) j = σ.2.1 (t1 + 2) j ∧ σ'.1 (t0 + 3) j = σ.1 (t1 + 3) j ∧ σ'.1 (t0 + 4) j = σ.1 (t1 + 4) j ∧ σ'.1 (t0 + 5) j = σ.1 (t1 + 5) j ∧ σ'.1 (t0 + 6) j = σ.1 (t1 + 6) j) ∧ (∀ j, 0 ≤ j → j < 52 → σ'.1 (t0 + 7) j = σ.1 (t1 + 7) j ∧ σ'.1 (t0 + 8) j = σ.1 (t1 + 8) j) ∧ (∀ j, 0 ≤ j → j < 78 → σ'.1 (t0 + 9) j = σ.1 (t1 + 9) j) ∧ σ'.2.1 t0 10 = σ.2.1 t1 10 ∧ (∀ j, 11 ≤ j → j ≤ 18 → σ'.1 t0 j = σ.1 t1 j)
theorem ec_copyFrom {t0 t1 : Nat} (ho : t0 + 9 < t1 ∨ t1 + 9 < t0) (h13 : σ.1 t1 13 = 0 ∨ σ.1 t1 13 = 1) : ∃ σ', F_Tb_copyFrom t0 t1 σ = some ((), σ') ∧ CPY t0 t1 σ σ' := by
  obtain ⟨s, h1, h2, h3, h4⟩ := e_TrCopy (k0 := t0 + 1) (k1 := t1 + 1) (σ := σ) (by omega)
  unfold F_Tb_copyFrom
  rw [h1, zt_bdS, be_copySets (by decide), be_copy (by decide), be_copy (by decide), be_copy (by decide), be_copy (by decide), be_copy (by decide), be_copy (by decide), be_copy (by decide)]
  obtain ⟨u, hu⟩ : ∃ u, u = zt_cI (zt_cI (zt_cI (zt_cI (zt_cI (zt_cI (zt_cI (zt_cL s (t1 + 2) (t0 + 2) 0 0 ((4 : Nat) : Int)) (t1 + 3) (t0 + 3) 0 0 ((4 : Nat) : Int)) (t1 + 4) (t0 + 4) 0 0 ((4 : Nat) : Int)) (t1 + 5) (t0 + 5) 0 0 ((4 : Nat) : Int)) (t1 + 6) (t0 + 6) 0 0 ((4 : Nat) : Int)) (t1 + 7) (t0 + 7) 0 0 ((52 : Nat) : Int)) (t1 + 8) (t0 + 8) 0 0 ((52 : Nat) : Int)) (t1 + 9) (t0 + 9) 0 0 ((78 : Nat) : Int) := ⟨_, rfl⟩
  rw [← hu]
  have u1 : ∀ c j, (c < t0 + 1 ∨ t0 + 9 < c) → u.1 c j = σ.1 c j := fun c j hc => by
    rw [hu]
    simp (disch := omega) only [cI_o, cL_1, h3]
  have u2 : ∀ c j, c ≠ t0 + 2 → u.2.1 c j = σ.2.1 c j := fun c j hc => by
    rw [hu]
    simp (disch := omega) only [cI_2, cL_o, h2]
  have u3 : u.2.2 = σ.2.2 := by
    rw [hu]
    simp only [cI_2, cL_3, h2]
  have u4 : ∀ j, 0 ≤ j → j < 9 → u.1 (t0 + 1) j = σ.1 (t1 + 1) j := fun j h0 h9 => by
    rw [hu]
    simp (disch := omega) only [cI_o, cL_1, h4 j h0 h9]
  have u5 : ∀ j, 0 ≤ j → j < 4 → u.2.1 (t0 + 2) j = σ.2.1 (t1 + 2) j := fun j h0 h9 => by
    rw [hu]
    simp only [cI_2]
    rw [cL_s ⟨by omega, by omega⟩, h2, show 0 + (j - 0) = j by omega]
  have u6 : ∀ j, 0 ≤ j → j < 4 → u.1 (t0 + 3) j = σ.1 (t1 + 3) j ∧ u.1 (t0 + 4) j = σ.1 (t1 + 4) j ∧ u.1 (t0 + 5) j = σ.1 (t1 + 5) j ∧ u.1 (t0 + 6) j = σ.1 (t1 + 6) j := fun j h0 h9 => by
    rw [hu]
    refine ⟨?_, ?_, ?_, ?_⟩
    · simp (disch := omega) only [cI_o]
      rw [cI_s ⟨by omega, by omega⟩, cL_1, h3 _ _ (by omega), show 0 + (j - 0) = j by omega]
    · simp (disch := omega) only [cI_o]
      rw [cI_s ⟨by omega, by omega⟩, cI_o (by omega), cL_1, h3 _ _ (by omega), show 0 + (j - 0) = j by omega]
    · simp (disch := omega) only [cI_o]
      rw [cI_s ⟨by omega, by omega⟩, cI_o (by omega), cI_o (by omega), cL_1, h3 _ _ (by omega), show 0 + (j - 0) = j by omega]
    · simp (disch := omega) only [cI_o]
      rw [cI_s ⟨by omega, by omega⟩, cI_o (by omega), cI_o (by omega), cI_o (by omega), cL_1, h3 _ _ (by omega), show 0 + (j - 0) = j by omega]
  have u7 : ∀ j, 0 ≤ j → j < 52 → u.1 (t0 + 7) j = σ.1 (t1 + 7) j ∧ u.1 (t0 + 8) j = σ.1 (t1 + 8) j := fun j h0 h9 => by
    rw [hu]
    refine ⟨?_, ?_⟩
    · rw [cI_o (by omega), cI_o (by omega), cI_s ⟨by omega, by omega⟩, cI_o (by omega), cI_o (by omega), cI_o (by omega), cI_o (by omega), cL_1, h3 _ _ (by omega), show 0 + (j - 0) = j by omega]
    · rw [cI_o (by omega), cI_s ⟨by omega, by omega⟩, cI_o (by omega), cI_o (by omega), cI_o (by omega), cI_o (by omega), cI_o (by omega), cL_1, h3 _ _ (by omega), show 0 + (j - 0) = j by omega]
  have u8 : ∀ j, 0 ≤ j → j < 78 → u.1 (t0 + 9) j = σ.1 (t1 + 9) j := fun j h0 h9 => by
    rw [hu, cI_s ⟨by omega, by omega⟩, cI_o (by omega), cI_o (by omega), cI_o (by omega), cI_o (by omega), cI_o (by omega), cI_o (by omega), cL_1, h3 _ _ (by omega), show 0 + (j - 0) = j by omega]
  clear hu
  rw [zt_letS, zt_letS, zt_letS, zt_ckI (by rw [up_o (Or.inl (by omega)), up_o (Or.inl (by omega)), uL_1, u1 _ _ (by omega)]; exact h13)]
  refine ⟨_, rfl, ⟨fun c j hc => ⟨?_, ?_⟩, ?_⟩, fun j h0 h9 => ?_, fun j h0 h9 => ⟨?_, ?_, ?_, ?_, ?_⟩, fun j h0 h9 => ⟨?_, ?_⟩, fun j h0 h9 => ?_, ?_, fun j h0 h9 => ?_⟩
  · simp (disch := omega) only [up_o, uL_1, u1]
  · simp (disch := omega) only [up_2, uL_o, u2]
  · simp only [up_2, uL_3, u3]
  · simp (disch := omega) only [up_o, uL_1, u4]
  · simp (disch := omega) only [up_2, uL_o, u5]
  · simp (disch := omega) only [up_o, uL_1, u6]
  · simp (disch := omega) only [up_o, uL_1, u6]
  · simp (disch := omega) only [up_o, uL_1, u6]
  · simp (disch := omega) only [up_o, uL_1, u6]
  · simp (disch := omega) only [up_o, uL_1, u7]
  · simp (disch := omega) only [up_o, uL_1, u7]
  · simp (disch := omega) only [up_o, uL_1, u8]
  · simp (disch := omega) only [up_2, uL_s, u2]
  · have hj : j = 11 ∨ j = 12 ∨ j = 13 ∨ j = 14 ∨ j = 15 ∨ j = 16 ∨ j = 17 ∨ j = 18 := by omega
    rcases hj with rfl | rfl | rfl | rfl | rfl | rfl | rfl | rfl <;> simp (disch := omega) only [up_s, up_o, uL_1, u1]
theorem TB.cp {t0 t1 : Nat} {σ' : zt_S} {w : Int → Int} (c : CPY t0 t1 σ σ') (hw : RI w) (h : TB σ t1 w) : TB σ' t0 w := by
  have p12 := hw.p12
  have p13 := hw.p13
  have a := hw.n
  obtain ⟨-, c1, c2, c3, c4, c5, c6⟩ := c
  unfold TB TK at *
  rw [c1 0 (by omega) (by omega), c1 1 (by omega) (by omega), c1 2 (by omega) (by omega), c1 3 (by omega) (by omega), c1 4 (by omega) (by omega), c1 5 (by omega) (by omega), c1 6 (by omega) (by omega), c1 7 (by omega) (by omega), c1 8 (by omega) (by omega), c5, c6 11 (by omega) (by omega), c6 12 (by omega) (by omega), c6 13 (by omega) (by omega), c6 14 (by omega) (by omega), c6 15 (by omega) (by omega), c6 16 (by omega) (by omega), c6 17 (by omega) (by omega), c6 18 (by omega) (by omega)]
  refine ⟨h.1, fun p x h0 h1 h2 h3 => ?_, fun p h0 h1 => ?_, fun k h0 h1 => ?_, fun k h0 h1 => ?_, h.2.2.2.2.2.1, h.2.2.2.2.2.2⟩
  · rw [(c2 p h0 h1).1]
    exact h.2.1 p x h0 h1 h2 h3
  · rw [(c2 p h0 h1).2.1, (c2 p h0 h1).2.2.1, (c2 p h0 h1).2.2.2.1, (c2 p h0 h1).2.2.2.2]
    exact h.2.2.1 p h0 h1
  · rw [(c3 k h0 (by omega)).1, (c3 k h0 (by omega)).2]
    exact h.2.2.2.1 k h0 h1
  · rw [c4 k h0 (by omega)]
    exact h.2.2.2.2.1 k h0 h1
/-- a table stands as long as its cells stand -/
theorem TB.ag {t : Nat} {σ' : zt_S} {w : Int → Int} (e1 : ∀ c j, t ≤ c → c ≤ t + 9 → σ'.1 c j = σ.1 c j) (e2 : ∀ c j, t ≤ c → c ≤ t + 9 → σ'.2.1 c j = σ.2.1 c j) (h : TB σ t w) : TB σ' t w := by
  have f1 : ∀ c, t ≤ c → c ≤ t + 9 → σ'.1 c = σ.1 c := fun c h1 h2 => funext fun j => e1 c j h1 h2
  have f2 : ∀ c, t ≤ c → c ≤ t + 9 → σ'.2.1 c = σ.2.1 c := fun c h1 h2 => funext fun j => e2 c j h1 h2
  unfold TB TK at *
  rw [f1 t (by omega) (by omega), f1 (t + 1) (by omega) (by omega), f1 (t + 3) (by omega) (by omega), f1 (t + 4) (by omega) (by omega), f1 (t + 5) (by omega) (by omega), f1 (t + 6) (by omega) (by omega), f1 (t + 7) (by omega) (by omega), f1 (t + 8) (by omega) (by omega), f1 (t + 9) (by omega) (by omega), f2 t (by omega) (by omega), f2 (t + 2) (by omega) (by omega)]
  exact h
/-- the reference copies a row -/
theorem em_copies_3 {c0 n0 c2 n2 : Nat} {a0 a2 : Int} (h0 : 0 ≤ a0 ∧ a0 + 274 ≤ n0) (h2 : 0 ≤ a2 ∧ a2 + 274 ≤ n2) (hd : c0 ≠ c2 ∨ a2 + 274 ≤ a0) : ∀ (m n : Nat) (k : Int), k + m = 274 → m < n → 0 ≤ k → F_M_copies_3 c0 n0 c2 n2 n a0 a2 k (zt_cI σ c0 c2 a0 a2 k) = some ((), zt_cI σ c0 c2 a0 a2 274)
  | m, 0, _, _, h1, _ => absurd h1 (Nat.not_lt_zero m)
  | 0, n + 1, k, g0, g1, g2 => by
    rw [F_M_copies_3, zt_ckI (by unfold zt_in; omega), if_neg (by omega), show k = 274 by omega]
  | m + 1, n + 1, k, g0, g1, g2 => by
    have ih := em_copies_3 h0 h2 hd m n (k + 1) (by omega) (by omega) (by omega)
    rw [F_M_copies_3, zt_ckI (by unfold zt_in; omega), if_pos (by omega), zt_ckI (by omega), zt_ckI (by omega), zt_letS, cI_u (by omega)]
    rw [← ih]
    congr 1
    unfold zt_up zt_cI
    congr 1
    funext c j
    dsimp only
    by_cases hc : c = c2
    · subst hc
      by_cases hj : j = a2 + k
      · subst hj
        rw [if_pos ⟨rfl, rfl⟩, if_pos ⟨rfl, by omega, by omega⟩, show a0 + (a2 + k - a2) = a0 + k by omega]
      · rw [if_neg (fun z => hj z.2)]
        by_cases hl : a2 ≤ j ∧ j < a2 + k
        · rw [if_pos ⟨rfl, hl.1, hl.2⟩, if_pos ⟨rfl, hl.1, by omega⟩]
        · rw [if_neg (fun z => hl z.2), if_neg (fun z => by omega)]
    · rw [if_neg (fun z => hc z.1), if_neg (fun z => hc z.1), if_neg (fun z => hc z.1)]
theorem em_copies {c0 n0 c2 n2 : Nat} {a0 a2 : Int} (h0 : 0 ≤ a0 ∧ a0 + 274 ≤ n0) (h2 : 0 ≤ a2 ∧ a2 + 274 ≤ n2) (hd : c0 ≠ c2 ∨ a2 + 274 ≤ a0) : F_M_copies c0 n0 c2 n2 a0 a2 σ = some ((), zt_cI σ c0 c2 a0 a2 274) := by
  have h := em_copies_3 (σ := σ) h0 h2 hd 274 zt_N 0 (by omega) (zN (by omega)) (by omega)
  have e : zt_cI σ c0 c2 a0 a2 0 = σ := by
    unfold zt_cI
    have : (fun (c : Nat) (j : Int) => if c = c2 ∧ a2 ≤ j ∧ j < a2 + 0 then σ.1 c0 (a0 + (j - a2)) else σ.1 c j) = σ.1 := by
      funext c j
      exact if_neg (by omega)
    rw [this]
  rw [e] at h
  exact h
theorem eb_copies {β : Type} {c0 n0 c2 n2 : Nat} {a0 a2 : Int} (h0 : 0 ≤ a0 ∧ a0 + 274 ≤ n0) (h2 : 0 ≤ a2 ∧ a2 + 274 ≤ n2) (hd : c0 ≠ c2 ∨ a2 + 274 ≤ a0) {K : Unit → zt_S → Option β} : zt_bd (F_M_copies c0 n0 c2 n2 a0 a2 σ) K = K () (zt_cI σ c0 c2 a0 a2 274) := by rw [em_copies h0 h2 hd]; rfl
end CP
