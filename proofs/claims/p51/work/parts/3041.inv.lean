/-! WHAT HOLDS BETWEEN CALLS -/
section IV
variable {σ τ : zt_S} {n m : Int}
/-- the table t of the class stands for the row w of this game -/
def RW (n : Int) (σ : zt_S) (t : Nat) (w : Int → Int) : Prop := RI w ∧ RB n w ∧ TB σ t w ∧ w 0 = σ.1 164 0 ∧ w 1 = σ.1 164 1 ∧ w 2 = σ.1 164 2 ∧ w 5 = σ.1 164 5
/-- the table of the operation that is i operations old -/
def hT (σ : zt_S) (i : Int) : Nat := 18 + 10 * ((σ.1 16 1 + 9 - i) % 10).toNat
def HI (n : Int) (σ : zt_S) : Prop := (0 ≤ σ.1 163 5 ∧ σ.1 163 5 ≤ 10) ∧ σ.1 16 2 = σ.1 163 5 ∧ (0 ≤ σ.1 16 1 ∧ σ.1 16 1 < 10) ∧ ∀ i, 0 ≤ i → i < σ.1 163 5 → RW n σ (hT σ i) (fun j => σ.1 167 (274 * (σ.1 163 5 - 1 - i) + j))
def SN (n : Int) (σ : zt_S) : Prop := σ.1 0 8 = σ.1 163 6 ∧ (σ.1 163 6 = 0 ∨ (σ.1 163 6 = 1 ∧ RW n σ 118 (σ.1 166)))
def BF (σ : zt_S) : Prop := σ.1 0 1 = σ.1 163 9 ∧ (0 ≤ σ.1 163 9 ∧ σ.1 163 9 ≤ 500) ∧ ∀ j, 0 ≤ j → j < σ.1 163 9 → (0 ≤ σ.1 169 j ∧ σ.1 169 j ≤ 255) ∧ σ.1 1 j = (if σ.1 169 j < 128 then σ.1 169 j else σ.1 169 j - 256)
def ER (σ : zt_S) : Prop := σ.1 2 7 = σ.1 163 17 ∧ zt_in (σ.1 163 17)
def HX (σ : zt_S) : Prop := σ.1 161 1 = σ.1 163 31 ∧ (0 ≤ σ.1 163 31 ∧ σ.1 163 31 ≤ 51) ∧ ∀ j, 0 ≤ j → j < σ.1 163 31 → σ.1 162 j = σ.1 180 j ∧ (0 ≤ σ.1 180 j ∧ σ.1 180 j < 128)
def SX (n : Int) (σ : zt_S) : Prop := (0 ≤ (σ.2.1 144 5).toInt ∧ (σ.2.1 144 5).toInt ≤ n) ∧ ∀ p, 0 ≤ p → p < 16384 → (zt_rs (σ.2.1 147 p) 20).toInt ≤ (σ.2.1 144 5).toInt
def Inv (n : Int) (σ : zt_S) : Prop := CO σ ∧ RB n (σ.1 164) ∧ HI n σ ∧ SN n σ ∧ BF σ ∧ ER σ ∧ HX σ ∧ SX n σ ∧ (σ.2.2.2 : Int) ≤ n
theorem RW.eq {t : Nat} {w w' : Int → Int} (h : RW n σ t w) (e : EQ w w') : RW n σ t w' := by
  obtain ⟨h1, h2, h3, h4⟩ := h
  refine ⟨e.i h1, e.rb h2, e.tb h1 h3, ?_⟩
  rw [e 0 (by omega) (by omega), e 1 (by omega) (by omega), e 2 (by omega) (by omega), e 5 (by omega) (by omega)]
  exact h4
theorem RW.ag {t : Nat} {w : Int → Int} (h : RW n σ t w) (hm : n ≤ m) (e1 : ∀ c j, t ≤ c → c ≤ t + 9 → τ.1 c j = σ.1 c j) (e2 : ∀ c j, t ≤ c → c ≤ t + 9 → τ.2.1 c j = σ.2.1 c j) (e0 : ∀ j, (j = 0 ∨ j = 1 ∨ j = 2 ∨ j = 5) → τ.1 164 j = σ.1 164 j) : RW m τ t w := by
  obtain ⟨h1, h2, h3, h4⟩ := h
  refine ⟨h1, h2.up hm, h3.ag e1 e2, ?_⟩
  rw [e0 0 (by omega), e0 1 (by omega), e0 2 (by omega), e0 5 (by omega)]
  exact h4
theorem hT_lt {i : Int} : 18 ≤ hT σ i ∧ hT σ i + 9 ≤ 117 := by
  unfold hT
  omega
theorem HI.ag (h : HI n σ) (hm : n ≤ m) (e1 : ∀ c j, 16 ≤ c → c ≤ 117 → τ.1 c j = σ.1 c j) (e2 : ∀ c j, 18 ≤ c → c ≤ 117 → τ.2.1 c j = σ.2.1 c j) (e3 : τ.1 163 5 = σ.1 163 5) (e4 : ∀ j, τ.1 167 j = σ.1 167 j) (e0 : ∀ j, (j = 0 ∨ j = 1 ∨ j = 2 ∨ j = 5) → τ.1 164 j = σ.1 164 j) : HI m τ := by
  obtain ⟨h1, h2, h3, h4⟩ := h
  have et : ∀ i, hT τ i = hT σ i := fun i => by unfold hT; rw [e1 16 1 (by omega) (by omega)]
  have e5 : τ.1 167 = σ.1 167 := funext e4
  refine ⟨by rw [e3]; exact h1, by rw [e3, e1 16 2 (by omega) (by omega)]; exact h2, by rw [e1 16 1 (by omega) (by omega)]; exact h3, fun i h0 hi => ?_⟩
  rw [e3] at hi ⊢
  rw [et, e5]
  have t := hT_lt (σ := σ) (i := i)
  exact (h4 i h0 hi).ag hm (fun c j g0 g1 => e1 c j (by omega) (by omega)) (fun c j g0 g1 => e2 c j (by omega) (by omega)) e0
theorem SN.ag (h : SN n σ) (hm : n ≤ m) (e1 : ∀ c j, 118 ≤ c → c ≤ 127 → τ.1 c j = σ.1 c j) (e2 : ∀ c j, 118 ≤ c → c ≤ 127 → τ.2.1 c j = σ.2.1 c j) (e3 : τ.1 163 6 = σ.1 163 6) (e4 : τ.1 0 8 = σ.1 0 8) (e5 : ∀ j, τ.1 166 j = σ.1 166 j) (e0 : ∀ j, (j = 0 ∨ j = 1 ∨ j = 2 ∨ j = 5) → τ.1 164 j = σ.1 164 j) : SN m τ := by
  obtain ⟨h1, h2⟩ := h
  have e6 : τ.1 166 = σ.1 166 := funext e5
  refine ⟨by rw [e3, e4]; exact h1, ?_⟩
  rw [e3, e6]
  rcases h2 with h2 | ⟨h2, h3⟩
  · exact Or.inl h2
  · exact Or.inr ⟨h2, h3.ag hm e1 e2 e0⟩
theorem BF.ag (h : BF σ) (e1 : τ.1 0 1 = σ.1 0 1) (e2 : τ.1 163 9 = σ.1 163 9) (e3 : ∀ j, τ.1 169 j = σ.1 169 j) (e4 : ∀ j, τ.1 1 j = σ.1 1 j) : BF τ := by
  have e5 : τ.1 169 = σ.1 169 := funext e3
  have e6 : τ.1 1 = σ.1 1 := funext e4
  unfold BF
  rw [e1, e2, e5, e6]
  exact h
theorem ER.ag (h : ER σ) (e1 : τ.1 2 7 = σ.1 2 7) (e2 : τ.1 163 17 = σ.1 163 17) : ER τ := by
  unfold ER
  rw [e1, e2]
  exact h
theorem HX.ag (h : HX σ) (e1 : ∀ c j, 161 ≤ c → c ≤ 162 → τ.1 c j = σ.1 c j) (e2 : τ.1 163 31 = σ.1 163 31) (e3 : ∀ j, τ.1 180 j = σ.1 180 j) : HX τ := by
  have e5 : τ.1 180 = σ.1 180 := funext e3
  have e6 : τ.1 162 = σ.1 162 := funext fun j => e1 162 j (by omega) (by omega)
  unfold HX
  rw [e1 161 1 (by omega) (by omega), e2, e5, e6]
  exact h
theorem SX.ag (h : SX n σ) (hm : n ≤ m) (e1 : ∀ c j, 144 ≤ c → c ≤ 147 → τ.2.1 c j = σ.2.1 c j) : SX m τ := by
  have e6 : τ.2.1 147 = σ.2.1 147 := funext fun j => e1 147 j (by omega) (by omega)
  unfold SX
  rw [e1 144 5 (by omega) (by omega), e6]
  exact ⟨⟨h.1.1, by have := h.1.2; omega⟩, h.2⟩
/-- a question keeps all -/
theorem Inv.q (h : Inv n σ) (e1 : ∀ c j, (c ≠ 163 ∨ j ≠ 0) → τ.1 c j = σ.1 c j) (e2 : ∀ c j, c ≠ 184 → τ.2.1 c j = σ.2.1 c j) (e3 : τ.2.2.2 ≤ σ.2.2.2 + 1) : Inv (n + 1) τ := by
  obtain ⟨h1, h2, h3, h4, h5, h6, h7, h8, h9⟩ := h
  have f : ∀ {c : Nat}, c ≠ 163 → τ.1 c = σ.1 c := fun hc => funext fun j => e1 _ j (Or.inl hc)
  have g : ∀ {c : Nat}, c ≠ 184 → τ.2.1 c = σ.2.1 c := fun hc => funext fun j => e2 _ j hc
  have h10 : CO τ := by
    unfold CO TB TK SUw at *
    rw [f (show 164 ≠ 163 by decide), f (show 6 ≠ 163 by decide), f (show 3 ≠ 163 by decide), f (show 6 + 1 ≠ 163 by decide), f (show 6 + 3 ≠ 163 by decide), f (show 6 + 4 ≠ 163 by decide), f (show 6 + 5 ≠ 163 by decide), f (show 6 + 6 ≠ 163 by decide), f (show 6 + 7 ≠ 163 by decide), f (show 6 + 8 ≠ 163 by decide), f (show 6 + 9 ≠ 163 by decide), g (show 6 ≠ 184 by decide), g (show 6 + 2 ≠ 184 by decide)]
    exact h1
  refine ⟨h10, by rw [f (show 164 ≠ 163 by decide)]; exact h2.up (by omega), h3.ag (by omega) (fun c j a b => e1 c j (by omega)) (fun c j a b => e2 c j (by omega)) (e1 _ _ (by omega)) (fun j => e1 _ _ (by omega)) (fun j _ => e1 _ _ (by omega)), h4.ag (by omega) (fun c j a b => e1 c j (by omega)) (fun c j a b => e2 c j (by omega)) (e1 _ _ (by omega)) (e1 _ _ (by omega)) (fun j => e1 _ _ (by omega)) (fun j _ => e1 _ _ (by omega)), h5.ag (e1 _ _ (by omega)) (e1 _ _ (by omega)) (fun j => e1 _ _ (by omega)) (fun j => e1 _ _ (by omega)), h6.ag (e1 _ _ (by omega)) (e1 _ _ (by omega)), h7.ag (fun c j a b => e1 c j (by omega)) (e1 _ _ (by omega)) (fun j => e1 _ _ (by omega)), h8.ag (by omega) (fun c j a b => e2 c j (by omega)), by omega⟩
theorem Inv.fr (h : Inv n σ) (f : FR σ τ) : Inv (n + 1) τ := h.q f.1 f.2.1 f.2.2.2.2
/-! an operation is kept -/
/-- the reference kept its row -/
def KR (σ τ : zt_S) : Prop := τ.1 163 5 = (if σ.1 163 5 < 10 then σ.1 163 5 + 1 else 10) ∧ (∀ j, 0 ≤ j → j < 274 → τ.1 167 (274 * (τ.1 163 5 - 1) + j) = σ.1 164 j) ∧ (∀ i, 0 ≤ i → i < τ.1 163 5 - 1 → ∀ j, 0 ≤ j → j < 274 → τ.1 167 (274 * i + j) = σ.1 167 (274 * (i + (if σ.1 163 5 < 10 then 0 else 1)) + j))
theorem em_keeps_21 : ∀ (m n : Nat) (v : Int) (s : zt_S), v + m = 9 → m < n → 0 ≤ v → s.1 163 5 = 9 → ∃ τ, F_M_keeps_21 n v s = F_M_keeps_58 τ ∧ τ.2 = s.2 ∧ (∀ c j, c ≠ 167 → τ.1 c j = s.1 c j) ∧ (∀ j, 274 * v ≤ j → j < 2466 → τ.1 167 j = s.1 167 (j + 274)) ∧ (∀ j, j < 274 * v → τ.1 167 j = s.1 167 j)
  | m, 0, _, _, _, h1, _, _ => absurd h1 (Nat.not_lt_zero m)
  | 0, n + 1, v, s, h0, h1, h2, h3 => by
    refine ⟨s, ?_, rfl, fun _ _ _ => rfl, fun j a b => by omega, fun _ _ => rfl⟩
    rw [F_M_keeps_21, h3, zt_ckI ⟨by unfold zt_in; omega, by decide⟩, if_neg (by omega)]
  | m + 1, n + 1, v, s, h0, h1, h2, h3 => by
    obtain ⟨τ, g1, g2, g3, g4, g5⟩ := em_keeps_21 m n (v + 1) (zt_cI s 167 167 (274 * (v + 1)) (274 * v) 274) (by omega) (by omega) (by omega) (by rw [cI_o (by decide)]; exact h3)
    refine ⟨τ, ?_, by rw [g2, cI_2], fun c j hc => by rw [g3 c j hc, cI_o hc], fun j a b => ?_, fun j a => ?_⟩
    · rw [← g1, F_M_keeps_21, h3, zt_ckI ⟨by unfold zt_in; omega, by decide⟩, if_pos (by omega), eb_copies ⟨by omega, by omega⟩ ⟨by omega, by omega⟩ (Or.inr (by omega))]
    · by_cases hj : 274 * (v + 1) ≤ j
      · rw [g4 j hj b, cI_u (by omega)]
      · rw [g5 j (by omega), cI_s ⟨by omega, by omega⟩, show 274 * (v + 1) + (j - 274 * v) = j + 274 by omega]
    · rw [g5 j (by omega), cI_u (by omega)]
theorem em_keeps (h : 0 ≤ σ.1 163 5 ∧ σ.1 163 5 ≤ 10) : ∃ τ, F_M_keeps σ = some ((), τ) ∧ τ.2 = σ.2 ∧ (∀ c j, c ≠ 167 → (c ≠ 163 ∨ j ≠ 5) → τ.1 c j = σ.1 c j) ∧ KR σ τ := by
  have key : ∀ s : zt_S, 0 ≤ s.1 163 5 → s.1 163 5 < 10 → F_M_keeps_58 s = some ((), zt_up (zt_cI s 164 167 0 (274 * s.1 163 5) 274) 163 5 (s.1 163 5 + 1)) := fun s h0 h1 => by
    unfold F_M_keeps_58
    rw [eb_copies ⟨by omega, by omega⟩ ⟨by omega, by omega⟩ (Or.inl (by decide)), zt_letS, cI_o (by decide)]
  unfold F_M_keeps
  by_cases hu : σ.1 163 5 = 10
  · rw [zt_ckI (by unfold zt_in; omega), if_pos hu, zt_letS, hu]
    obtain ⟨s, g1, g2, g3, g4, g5⟩ := em_keeps_21 9 zt_N 0 (zt_up σ 163 5 (10 - 1)) (by omega) (zN (by omega)) (by omega) (by rw [up_s]; rfl)
    have s5 : s.1 163 5 = 9 := by rw [g3 163 5 (by decide), up_s]; rfl
    rw [g1, key s (by omega) (by omega), s5]
    refine ⟨_, rfl, by rw [up_2, cI_2, g2, up_2], fun c j hc hj => by rw [up_o hj, cI_o hc, g3 c j hc, up_o hj], ?_, fun j h0 h1 => ?_, fun i h0 h1 j h2 h3 => ?_⟩
    · rw [up_s, if_neg (by omega)]; rfl
    · rw [up_s, up_o (by omega), show (274 : Int) * (9 + 1 - 1) + j = 274 * 9 + j by omega, cI_s ⟨by omega, by omega⟩, show 0 + (274 * 9 + j - 274 * 9) = j by omega, g3 164 j (by decide), up_o (by omega)]
    · rw [up_s] at h1
      rw [up_o (by omega), cI_u (by omega), g4 _ (by omega) (by omega), up_o (by omega), if_neg (by omega), show 274 * i + j + 274 = 274 * (i + 1) + j by omega]
  · rw [zt_ckI (by unfold zt_in; omega), if_neg hu, key σ (by omega) (by omega)]
    refine ⟨_, rfl, by rw [up_2, cI_2], fun c j hc hj => by rw [up_o hj, cI_o hc], ?_, fun j h0 h1 => ?_, fun i h0 h1 j h2 h3 => ?_⟩
    · rw [up_s, if_pos (by omega)]
    · rw [up_s, up_o (by omega), show 274 * (σ.1 163 5 + 1 - 1) + j = 274 * σ.1 163 5 + j by omega, cI_s ⟨by omega, by omega⟩, show 0 + (274 * σ.1 163 5 + j - 274 * σ.1 163 5) = j by omega]
    · rw [up_s] at h1
      rw [up_o (by omega), cI_u (by omega), if_pos (by omega), Int.add_zero]
/-- the row of the ring that is written next -/
def kT (σ : zt_S) : Nat := 18 + 10 * (σ.1 16 1).toNat
theorem kT_tabs : ∀ k : Nat, k < 10 → 18 + 10 * k ∈ zt_tabs := by decide +kernel
/-- the class kept its table -/
def KC (σ τ : zt_S) : Prop := τ.1 16 1 = (σ.1 16 1 + 1) % 10 ∧ τ.1 16 2 = (if σ.1 163 5 < 10 then σ.1 163 5 + 1 else 10) ∧ TB τ (kT σ) (σ.1 164) ∧ (∀ c j, c ≠ 16 → (c < kT σ ∨ kT σ + 9 < c) → τ.1 c j = σ.1 c j) ∧ (∀ c j, (c < kT σ ∨ kT σ + 9 < c) → τ.2.1 c j = σ.2.1 c j) ∧ τ.2.2 = σ.2.2
theorem ec_keep (hc : CO σ) (h : HI n σ) : ∃ τ, F_Hi_keep 6 σ = some ((), τ) ∧ KC σ τ := by
  obtain ⟨h1, h2, h3, -⟩ := h
  have a := hc.1.n
  have e13 : σ.1 6 13 = 0 ∨ σ.1 6 13 = 1 := by
    have := hc.2.1.2.2.2.2.2.2.2.2.1
    omega
  obtain ⟨s, c1, c2⟩ := ec_copyFrom (σ := σ) (t0 := kT σ) (t1 := 6) (by unfold kT; omega) e13
  have ct := c2.1
  have s1 : s.1 16 1 = σ.1 16 1 := (ct.1 16 1 (by unfold kT; omega)).1
  have s2 : s.1 16 2 = σ.1 16 2 := (ct.1 16 2 (by unfold kT; omega)).1
  have hr : F_Hi_rowAt (σ.1 16 1) σ = some (kT σ, σ) := by
    unfold F_Hi_rowAt
    rw [zt_ckI (by unfold zt_in; omega), if_neg (by omega), zt_ckI (by unfold zt_in; omega), if_pos (by omega), zt_ckI (by omega)]
    rfl
  have hm : kT σ ∈ zt_tabs := kT_tabs _ (by omega)
  have kt : 18 ≤ kT σ := by unfold kT; omega
  refine ⟨zt_up (zt_up s 16 1 ((σ.1 16 1 + 1) % 10)) 16 2 (if σ.1 163 5 < 10 then σ.1 163 5 + 1 else 10), ?_, ?_, ?_, ?_, ?_, ?_, ?_⟩
  · unfold F_Hi_keep F_Hi_keep_40
    rw [hr, zt_bdS, zt_ckI hm, c1, zt_bdS, s1, zt_ckI (by unfold zt_in; omega)]
    have e2 : ∀ x : Int, (zt_up s 16 1 x).1 16 2 = σ.1 163 5 := fun x => by rw [up_o (Or.inr (by decide)), s2, h2]
    have e3 : (if σ.1 163 5 + 1 < 10 then σ.1 163 5 + 1 else 10) = (if σ.1 163 5 < 10 then σ.1 163 5 + 1 else 10) := by
      split <;> split <;> omega
    by_cases hn : σ.1 16 1 + 1 < 10
    · rw [if_pos hn, zt_letS, e2, zt_ckI (by unfold zt_in; omega), zt_letS, e3, Int.emod_eq_of_lt (by omega) hn]
    · rw [if_neg hn, zt_letS, e2, zt_ckI (by unfold zt_in; omega), zt_letS, e3, show (σ.1 16 1 + 1) % 10 = 0 by omega]
  · rw [up_o (Or.inr (by decide)), up_s]
  · rw [up_s]
  · exact TB.ag (σ := s) (fun c j g0 g1 => by rw [up_o (Or.inl (by omega)), up_o (Or.inl (by omega))]) (fun c j _ _ => rfl) (hc.2.1.cp c2 hc.1)
  · intro c j g0 g1
    rw [up_o (Or.inl g0), up_o (Or.inl g0)]
    exact (ct.1 c j g1).1
  · intro c j g1
    exact (ct.1 c j g1).2
  · exact ct.2
/-- behind an operation that both kept -/
theorem HI.keep (h : HI n σ) (hc : CO σ) (hb : RB n (σ.1 164)) (k1 : τ.1 16 1 = (σ.1 16 1 + 1) % 10) (k2 : τ.1 16 2 = (if σ.1 163 5 < 10 then σ.1 163 5 + 1 else 10)) (k4 : TB τ (kT σ) (σ.1 164)) (k5 : ∀ c j, 18 ≤ c → c ≤ 117 → (c < kT σ ∨ kT σ + 9 < c) → τ.1 c j = σ.1 c j) (k6 : ∀ c j, 18 ≤ c → c ≤ 117 → (c < kT σ ∨ kT σ + 9 < c) → τ.2.1 c j = σ.2.1 c j) (kr : KR σ τ) (e0 : ∀ j, (j = 0 ∨ j = 1 ∨ j = 2 ∨ j = 5) → τ.1 164 j = σ.1 164 j) : HI (n + 1) τ := by
  obtain ⟨h1, h2, h3, h4⟩ := h
  obtain ⟨r1, r2, r3⟩ := kr
  have u : τ.1 163 5 = σ.1 163 5 + 1 ∧ σ.1 163 5 < 10 ∨ τ.1 163 5 = 10 ∧ σ.1 163 5 = 10 := by
    rw [r1]
    split
    · exact Or.inl ⟨rfl, by omega⟩
    · exact Or.inr ⟨rfl, by omega⟩
  refine ⟨by omega, by rw [k2, r1], by rw [k1]; omega, fun i g0 g1 => ?_⟩
  by_cases hi : i = 0
  · subst hi
    have et : hT τ 0 = kT σ := by
      unfold hT kT
      rw [k1]
      omega
    rw [et]
    refine RW.eq (w := σ.1 164) ⟨hc.1, hb.up (by omega), k4, (e0 0 (by omega)).symm, (e0 1 (by omega)).symm, (e0 2 (by omega)).symm, (e0 5 (by omega)).symm⟩ (fun j j0 j1 => ?_)
    show τ.1 167 (274 * (τ.1 163 5 - 1 - 0) + j) = σ.1 164 j
    rw [Int.sub_zero]
    exact r2 j j0 j1
  · have et : hT τ i = hT σ (i - 1) := by
      unfold hT
      rw [k1]
      omega
    have en : hT σ (i - 1) + 9 < kT σ ∨ kT σ + 9 < hT σ (i - 1) := by
      unfold hT kT
      omega
    have tl := hT_lt (σ := σ) (i := i - 1)
    rw [et]
    refine RW.eq ((h4 (i - 1) (by omega) (by omega)).ag (m := n + 1) (by omega) (fun c j a b => k5 c j (by omega) (by omega) (by omega)) (fun c j a b => k6 c j (by omega) (by omega) (by omega)) e0) (fun j j0 j1 => ?_)
    show τ.1 167 (274 * (τ.1 163 5 - 1 - i) + j) = σ.1 167 (274 * (σ.1 163 5 - 1 - (i - 1)) + j)
    rw [r3 (τ.1 163 5 - 1 - i) (by omega) (by omega) j j0 j1]
    rcases u with ⟨u1, u2⟩ | ⟨u1, u2⟩
    · rw [if_pos u2, u1, show σ.1 163 5 + 1 - 1 - i + 0 = σ.1 163 5 - 1 - (i - 1) by omega]
    · rw [if_neg (by omega), u1, u2, show (10 : Int) - 1 - i + 1 = 10 - 1 - (i - 1) by omega]
end IV
