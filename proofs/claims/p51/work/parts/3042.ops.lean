/-! OPERATIONS: both keep, both change, both answer -/
section OS
variable {σ τ : zt_S} {n : Int} {w' : Int → Int}
def OP (m : Int) (fl fm : zt_S → Option (Int × zt_S)) (σ : zt_S) : Prop := ∃ e v σ1 σ2, fl σ = some (e, σ1) ∧ fm σ1 = some (v, σ2) ∧ σ2.1 163 0 = e ∧ (0 ≤ e ∧ e ≤ 2) ∧ (e = 0 → σ2.2.1 184 0 = zt_l v) ∧ Inv m σ2
def OQ (m : Int) (fc fm : zt_S → Option (Int × zt_S)) (σ : zt_S) : Prop := ∃ v σ1 σ2, fc σ = some (v, σ1) ∧ fm σ1 = some (v, σ2) ∧ zt_in v ∧ Inv m σ2
theorem AK.op {fl fm : zt_S → Option (Int × zt_S)} (a : AK fl fm σ) (h : Inv n σ) : OP (n + 1) fl fm σ := by
  obtain ⟨e, v, σ1, σ2, h1, h2, h3, h4, h5, h6⟩ := a
  exact ⟨e, v, σ1, σ2, h1, h2, h3, by omega, h5, h.fr h6⟩
theorem op_no {fl fm : zt_S → Option (Int × zt_S)} {e u : Int} (h : Inv n σ) (he : e = 1 ∨ e = 2) (h1 : fl σ = some (e, zt_nx σ)) (h2 : fm (zt_nx σ) = some (u, zt_up (zt_nx σ) 163 0 e)) : OP (n + 1) fl fm σ :=
  ⟨e, u, _, _, h1, h2, up_s _ _ _ _, by omega, fun z => by omega, h.fr (fr_2 e)⟩
/-- the class behind an operation -/
def KD (σ σc : zt_S) (w' : Int → Int) : Prop := σc.1 16 1 = (σ.1 16 1 + 1) % 10 ∧ σc.1 16 2 = (if σ.1 163 5 < 10 then σ.1 163 5 + 1 else 10) ∧ TB σc (kT σ) (σ.1 164) ∧ TB σc 6 w' ∧ (∀ c j, (c < 5 ∨ 16 < c) → (c < kT σ ∨ kT σ + 9 < c) → σc.1 c j = σ.1 c j) ∧ (∀ c j, (c < 5 ∨ 16 < c) → (c < kT σ ∨ kT σ + 9 < c) → σc.2.1 c j = σ.2.1 c j) ∧ σc.2.2 = σ.2.2
theorem kT_lt (h : HI n σ) : 18 ≤ kT σ ∧ kT σ + 9 ≤ 117 := by
  have := h.2.2.1
  unfold kT
  omega
theorem KC.kd {s σc : zt_S} (k : KC σ s) (h : HI n σ) (f1 : ∀ c j, (c < 5 ∨ 15 < c) → σc.1 c j = s.1 c j) (f2 : ∀ c j, (c < 5 ∨ 15 < c) → σc.2.1 c j = s.2.1 c j) (f3 : σc.2.2 = s.2.2) (t : TB σc 6 w') : KD σ σc w' := by
  obtain ⟨k1, k2, k3, k4, k5, k6⟩ := k
  have kt := kT_lt h
  refine ⟨by rw [f1 _ _ (by omega)]; exact k1, by rw [f1 _ _ (by omega)]; exact k2, k3.ag (fun c j a b => f1 c j (by omega)) (fun c j a b => f2 c j (by omega)), t, fun c j a b => ?_, fun c j a b => ?_, by rw [f3, k6]⟩
  · rw [f1 c j (by omega), k4 c j (by omega) b]
  · rw [f2 c j (by omega), k5 c j b]
theorem KC.tb {s : zt_S} (k : KC σ s) (hc : CO σ) (h : HI n σ) : TB s 6 (σ.1 164) := by
  obtain ⟨k1, k2, k3, k4, k5, k6⟩ := k
  have kt := kT_lt h
  exact hc.2.1.ag (fun c j a b => k4 c j (by omega) (by omega)) (fun c j a b => k5 c j (by omega))
theorem KC.su {s : zt_S} (k : KC σ s) (hc : CO σ) (h : HI n σ) : SUw s 3 (σ.1 164) := by
  obtain ⟨k1, k2, k3, k4, k5, k6⟩ := k
  have kt := kT_lt h
  have g := hc.2.2
  unfold SUw at g ⊢
  rw [k4 3 0 (by omega) (by omega), k4 3 1 (by omega) (by omega), k4 3 2 (by omega) (by omega), k4 3 3 (by omega) (by omega)]
  exact g
/-- the reference behind keeping -/
def KS (τ s : zt_S) : Prop := s.2 = τ.2 ∧ s.1 163 0 = 0 ∧ (∀ c j, c ≠ 167 → (c ≠ 163 ∨ (j ≠ 0 ∧ j ≠ 5)) → s.1 c j = τ.1 c j) ∧ KR τ s
theorem em_kept (h : 0 ≤ τ.1 163 5 ∧ τ.1 163 5 ≤ 10) : ∃ s, F_M_keeps (zt_up τ 163 0 0) = some ((), s) ∧ KS τ s := by
  have e5 : (zt_up τ 163 0 0).1 163 5 = τ.1 163 5 := up_o (by omega)
  obtain ⟨s, g1, g2, g3, g4, g5, g6⟩ := em_keeps (σ := zt_up τ 163 0 0) (by rw [e5]; exact h)
  refine ⟨s, g1, by rw [g2, up_2], by rw [g3 163 0 (by decide) (by decide), up_s], fun c j a b => by rw [g3 c j a (by omega), up_o (by omega)], ?_, fun j a b => ?_, fun i a b j a1 b1 => ?_⟩
  · rw [g4, e5]
  · rw [g5 j a b, up_o (by omega)]
  · rw [g6 i a b j a1 b1, e5, up_o (by omega)]
theorem KS.row {s : zt_S} (k : KS τ s) : s.1 164 = τ.1 164 := funext fun j => k.2.2.1 164 j (by decide) (by omega)
/-- the reference behind an operation -/
def KE (τ τ' : zt_S) (w' : Int → Int) : Prop := τ'.2 = τ.2 ∧ τ'.1 164 = w' ∧ (∀ c j, c ≠ 164 → c ≠ 167 → c ≠ 168 → (c ≠ 163 ∨ (j ≠ 0 ∧ j ≠ 5)) → τ'.1 c j = τ.1 c j) ∧ τ'.1 163 0 = 0 ∧ KR τ τ'
theorem KS.ke {s τ' : zt_S} (k : KS τ s) (f1 : ∀ c j, c ≠ 164 → c ≠ 168 → τ'.1 c j = s.1 c j) (f2 : τ'.2 = s.2) (f3 : τ'.1 164 = w') : KE τ τ' w' := by
  obtain ⟨k1, k2, k3, k4, k5, k6⟩ := k
  refine ⟨by rw [f2, k1], f3, fun c j a b d e => by rw [f1 c j a d, k3 c j b e], by rw [f1 _ _ (by decide) (by decide), k2], ?_, fun j a b => ?_, fun i a b j a1 b1 => ?_⟩
  · rw [f1 163 5 (by decide) (by decide), k4]
  · rw [f1 163 5 (by decide) (by decide), f1 167 _ (by decide) (by decide), k5 j a b]
  · rw [f1 163 5 (by decide) (by decide)] at b
    rw [f1 167 _ (by decide) (by decide), k6 i a b j a1 b1]
theorem inv_done {σc τ' : zt_S} {x : Int64} (h : Inv n σ) (k : KD σ σc w') (g : KE (zt_uL σc 184 0 x) τ' w' ∨ KE σc τ' w') (hr : RI w') (hb : RB (n + 1) w') (e0 : ∀ j, (j = 0 ∨ j = 1 ∨ j = 2 ∨ j = 5) → w' j = σ.1 164 j) : Inv (n + 1) τ' := by
  obtain ⟨hc, h2, h3, h4, h5, h6, h7, h8, h9⟩ := h
  obtain ⟨k1, k2, k3, k4, k5, k6, k7⟩ := k
  have kt := kT_lt h3
  have q : τ'.2.2 = σc.2.2 ∧ (∀ c j, c ≠ 184 → τ'.2.1 c j = σc.2.1 c j) ∧ τ'.1 164 = w' ∧ (∀ c j, c ≠ 164 → c ≠ 167 → c ≠ 168 → (c ≠ 163 ∨ (j ≠ 0 ∧ j ≠ 5)) → τ'.1 c j = σc.1 c j) ∧ KR σc τ' := by
    rcases g with g | g
    · exact ⟨by rw [g.1]; rfl, fun c j hc => by rw [g.1, uL_o (Or.inl hc)], g.2.1, g.2.2.1, g.2.2.2.2⟩
    · exact ⟨by rw [g.1], fun c j hc => by rw [g.1], g.2.1, g.2.2.1, g.2.2.2.2⟩
  obtain ⟨q1, q2, q3, q4, q5⟩ := q
  have a1 : ∀ c j, (c < 5 ∨ 16 < c) → (c < kT σ ∨ kT σ + 9 < c) → c ≠ 164 → c ≠ 167 → c ≠ 168 → (c ≠ 163 ∨ (j ≠ 0 ∧ j ≠ 5)) → τ'.1 c j = σ.1 c j := fun c j b1 b2 b3 b4 b5 b6 => by rw [q4 c j b3 b4 b5 b6, k5 c j b1 b2]
  have a2 : ∀ c j, (c < 5 ∨ 16 < c) → (c < kT σ ∨ kT σ + 9 < c) → c ≠ 184 → τ'.2.1 c j = σ.2.1 c j := fun c j b1 b2 b3 => by rw [q2 c j b3, k6 c j b1 b2]
  have e1 : ∀ j, (j = 0 ∨ j = 1 ∨ j = 2 ∨ j = 5) → τ'.1 164 j = σ.1 164 j := fun j hj => by rw [q3, e0 j hj]
  have kr : KR σ τ' := by
    obtain ⟨r1, r2, r3⟩ := q5
    have s5 : σc.1 163 5 = σ.1 163 5 := k5 _ _ (by omega) (by omega)
    refine ⟨by rw [r1, s5], fun j b c => by rw [r2 j b c, k5 _ _ (by omega) (by omega)], fun i b c j b1 c1 => by rw [r3 i b c j b1 c1, s5, k5 _ _ (by omega) (by omega)]⟩
  refine ⟨⟨by rw [q3]; exact hr, by rw [q3]; exact k4.ag (fun c j a b => q4 c j (by omega) (by omega) (by omega) (by omega)) (fun c j a b => q2 c j (by omega)), ?_⟩, by rw [q3]; exact hb, h3.keep hc h2 (by rw [q4 _ _ (by decide) (by decide) (by decide) (by decide)]; exact k1) (by rw [q4 _ _ (by decide) (by decide) (by decide) (by decide)]; exact k2) (k3.ag (fun c j a b => q4 c j (by omega) (by omega) (by omega) (by omega)) (fun c j a b => q2 c j (by omega))) (fun c j a b d => a1 c j (by omega) d (by omega) (by omega) (by omega) (by omega)) (fun c j a b d => a2 c j (by omega) d (by omega)) kr e1, h4.ag (by omega) (fun c j a b => a1 c j (by omega) (by omega) (by omega) (by omega) (by omega) (by omega)) (fun c j a b => a2 c j (by omega) (by omega) (by omega)) (a1 _ _ (by omega) (by omega) (by omega) (by omega) (by omega) (by omega)) (a1 _ _ (by omega) (by omega) (by omega) (by omega) (by omega) (by omega)) (fun j => a1 _ _ (by omega) (by omega) (by omega) (by omega) (by omega) (by omega)) e1, h5.ag (a1 _ _ (by omega) (by omega) (by omega) (by omega) (by omega) (by omega)) (a1 _ _ (by omega) (by omega) (by omega) (by omega) (by omega) (by omega)) (fun j => a1 _ _ (by omega) (by omega) (by omega) (by omega) (by omega) (by omega)) (fun j => a1 _ _ (by omega) (by omega) (by omega) (by omega) (by omega) (by omega)), h6.ag (a1 _ _ (by omega) (by omega) (by omega) (by omega) (by omega) (by omega)) (a1 _ _ (by omega) (by omega) (by omega) (by omega) (by omega) (by omega)), h7.ag (fun c j a b => a1 _ _ (by omega) (by omega) (by omega) (by omega) (by omega) (by omega)) (a1 _ _ (by omega) (by omega) (by omega) (by omega) (by omega) (by omega)) (fun j => a1 _ _ (by omega) (by omega) (by omega) (by omega) (by omega) (by omega)), h8.ag (by omega) (fun c j a b => a2 c j (by omega) (by omega) (by omega)), by rw [q1, k7]; omega⟩
  have g := hc.2.2
  unfold SUw at g ⊢
  rw [q3, e0 0 (by omega), e0 1 (by omega), e0 2 (by omega), e0 5 (by omega), a1 3 0 (by omega) (by omega) (by omega) (by omega) (by omega) (by omega), a1 3 1 (by omega) (by omega) (by omega) (by omega) (by omega) (by omega), a1 3 2 (by omega) (by omega) (by omega) (by omega) (by omega) (by omega), a1 3 3 (by omega) (by omega) (by omega) (by omega) (by omega) (by omega)]
  exact g
theorem KD.hi {σc : zt_S} (h : Inv n σ) (k : KD σ σc w') {c : Nat} {j : Int} (hc : 163 ≤ c) : σc.1 c j = σ.1 c j := by
  have kt := kT_lt h.2.2.1
  exact k.2.2.2.2.1 c j (by omega) (by omega)
theorem op_done {fl fm : zt_S → Option (Int × zt_S)} {σc : zt_S} {v : Int} (h : Inv n σ) (h1 : fl σ = some (0, zt_uL σc 184 0 (zt_l v))) (k : KD σ σc w') (h2 : ∀ τ : zt_S, (∀ c j, 163 ≤ c → τ.1 c j = σ.1 c j) → ∃ τ', fm τ = some (v, τ') ∧ KE τ τ' w') (hr : RI w') (hb : RB (n + 1) w') (e0 : ∀ j, (j = 0 ∨ j = 1 ∨ j = 2 ∨ j = 5) → w' j = σ.1 164 j) : OP (n + 1) fl fm σ := by
  obtain ⟨τ', g1, g2⟩ := h2 (zt_uL σc 184 0 (zt_l v)) (fun c j hc => k.hi h hc)
  exact ⟨0, v, _, τ', h1, g1, g2.2.2.2.1, by omega, fun _ => by rw [g2.1]; exact uL_s _ _ _ _, inv_done h k (Or.inl g2) hr hb e0⟩
theorem oq_done {fc fm : zt_S → Option (Int × zt_S)} {σc : zt_S} {v : Int} (h : Inv n σ) (h1 : fc σ = some (v, σc)) (k : KD σ σc w') (h2 : ∀ τ : zt_S, (∀ c j, 163 ≤ c → τ.1 c j = σ.1 c j) → ∃ τ', fm τ = some (v, τ') ∧ KE τ τ' w') (hv : zt_in v) (hr : RI w') (hb : RB (n + 1) w') (e0 : ∀ j, (j = 0 ∨ j = 1 ∨ j = 2 ∨ j = 5) → w' j = σ.1 164 j) : OQ (n + 1) fc fm σ := by
  obtain ⟨τ', g1, g2⟩ := h2 σc (fun c j hc => k.hi h hc)
  exact ⟨v, _, τ', h1, g1, hv, inv_done (x := 0) h k (Or.inr g2) hr hb e0⟩
theorem ec_needRange {v a b : Int} (hv : zt_in v) (ha : zt_in a) (hb : zt_in b) : F_C_needRange v a b σ = if a ≤ v ∧ v ≤ b then some (.inl (), σ) else some (.inr 1, zt_nx σ) := by
  unfold F_C_needRange F_C_needRange_10
  by_cases h1 : v < a
  · rw [zt_ckI ⟨hv, ha⟩, if_pos h1, if_neg (by omega)]
  · by_cases h2 : b < v
    · rw [zt_ckI ⟨hv, ha⟩, if_neg h1, zt_ckI ⟨hv, hb⟩, if_pos h2, if_neg (by omega)]
    · rw [zt_ckI ⟨hv, ha⟩, if_neg h1, zt_ckI ⟨hv, hb⟩, if_neg h2, if_pos (by omega)]
theorem eb_inI {β : Type} {a b c : Int} {B C : Int64} (hB : B = zt_l b) (hC : C = zt_l c) (ha : zt_in a) (hb : zt_in b) (hc : zt_in c) (h : b ≤ a ∧ a ≤ c) {K : Int → zt_S → Option β} : zt_bd (F_M_in (zt_l a) B C σ) K = K 1 σ := by
  rw [hB, hC, em_in ha hb hc, if_pos h]; rfl
theorem eb_inO {β : Type} {a b c : Int} {B C : Int64} (hB : B = zt_l b) (hC : C = zt_l c) (ha : zt_in a) (hb : zt_in b) (hc : zt_in c) (h : ¬ (b ≤ a ∧ a ≤ c)) {K : Int → zt_S → Option β} : zt_bd (F_M_in (zt_l a) B C σ) K = K 0 σ := by
  rw [hB, hC, em_in ha hb hc, if_neg h]; rfl
theorem zl_9 : (9 : Int64) = zt_l 9 := by decide
theorem zl_m1 : (-1 : Int64) = zt_l (-1) := by decide
theorem zl_52 : (52 : Int64) = zt_l 52 := by decide
theorem zl_99999 : (99999 : Int64) = zt_l 99999 := by decide
theorem row_up {s : zt_S} {j v : Int} : (zt_up s 164 j v).1 164 = ru (s.1 164) j v := by rw [up_rs, rs_r]
theorem em_sets {j v : Int} (h : 0 ≤ τ.1 163 5 ∧ τ.1 163 5 ≤ 10) (hj : 0 ≤ j ∧ j < 274) : ∃ τ', F_M_sets j v (zt_up τ 163 0 0) = some (τ.1 164 j, τ') ∧ KE τ τ' (ru (τ.1 164) j v) := by
  obtain ⟨s, g1, g2⟩ := em_kept h
  unfold F_M_sets
  rw [g1, zt_bdS, zt_ckI (by omega), zt_ckI (by omega), zt_letS, g2.row]
  exact ⟨_, rfl, g2.ke (fun c j' a _ => up_o (Or.inl a)) rfl (by rw [row_up, g2.row])⟩
theorem ru_ex {w : Int → Int} {j v : Int} (h : ¬ ((0 ≤ j ∧ j ≤ 2) ∨ (9 ≤ j ∧ j ≤ 13) ∨ (40 ≤ j ∧ j < 274))) : EX w (ru w j v) := fun i hi => ru_o (by omega)
end OS
