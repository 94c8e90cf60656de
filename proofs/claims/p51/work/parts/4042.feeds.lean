/-! THE LAW FEEDS its text -/
/-- how many rows there are, how long in all -/
def TI (T : zt_T) : Prop := 2 ≤ T.1 ∧ T.2.1 1 = 600 ∧ zt_sm T.2.1 T.1 ≤ 498 + 52 * T.1
theorem sm_cg {f g : Nat → Nat} : ∀ n : Nat, (∀ i, i < n → f i = g i) → zt_sm f n = zt_sm g n
  | 0, _ => rfl
  | n + 1, h => by rw [zt_sm, zt_sm, sm_cg n (fun i hi => h i (by omega)), h n (by omega)]
section TF0
variable {T : zt_T} {l : List Int} {σ : zt_S} {c v : Int}
theorem TI.tn {m : Nat} (h : TI T) (hm : m ≤ 52) : TI (zt_tn T m) := by
  obtain ⟨h1, h2, h3⟩ := h
  refine ⟨?_, ?_, ?_⟩
  · show 2 ≤ T.1 + 1
    omega
  · show (if (1 : Nat) = T.1 then m else T.2.1 1) = 600
    rw [if_neg (by omega), h2]
  · show zt_sm (fun i => if i = T.1 then m else T.2.1 i) T.1 + (if T.1 = T.1 then m else T.2.1 T.1) ≤ 498 + 52 * (T.1 + 1)
    rw [sm_cg (g := T.2.1) T.1 (fun i hi => if_neg (by omega)), if_pos rfl]
    omega
theorem TI.tu {k : Nat} {j v : Int} (h : TI T) : TI (zt_tu T k j v) := h
theorem TF.ti {T' : zt_T} (f : TF T T') (h : TI T) : TI T' := by
  unfold TI
  rw [f.1, f.2]
  exact h
theorem tn_1 {m : Nat} : (zt_tn T m).1 = T.1 + 1 := rfl
theorem tn_s {m : Nat} : (zt_tn T m).2.1 T.1 = m := if_pos rfl
theorem tn_z {m : Nat} {j : Int} : (zt_tn T m).2.2 T.1 j = 0 := if_pos rfl
theorem tn_o {m k : Nat} {j : Int} (h : k ≠ T.1) : (zt_tn T m).2.2 k j = T.2.2 k j := if_neg h
theorem tn_l {m k : Nat} (h : k ≠ T.1) : (zt_tn T m).2.1 k = T.2.1 k := if_neg h
theorem tu_l {k i : Nat} {j v : Int} : (zt_tu T k j v).2.1 i = T.2.1 i := rfl
theorem tu_tu {k : Nat} {j v v' : Int} : zt_tu (zt_tu T k j v) k j v' = zt_tu T k j v' := by
  unfold zt_tu
  refine congrArg (fun z => (T.1, T.2.1, z)) (funext fun i => funext fun j' => ?_)
  by_cases h : i = k ∧ j' = j
  · rw [if_pos h, if_pos h]
  · rw [if_neg h, if_neg h]
    exact if_neg h
/-- the byte that is fed -/
def bx (T : zt_T) (j : Int) : Int := if j < T.2.2 0 1 then T.2.2 1 j else 32
theorem bx_tu {k : Nat} {i j v : Int} (hk : 2 ≤ k) : bx (zt_tu T k i v) j = bx T j := by
  unfold bx
  rw [tu_o (Or.inl (by omega)), tu_o (Or.inl (by omega))]
/-- the guards of the loop -/
def FG (T : zt_T) (k : Nat) : Prop := (2 ≤ k ∧ k < T.1 ∧ T.1 < 100000) ∧ T.2.1 k = 5 ∧ T.2.1 1 = 600 ∧ (0 ≤ T.2.2 0 1 ∧ T.2.2 0 1 ≤ 100)
theorem FG.tu {k : Nat} {i v : Int} (h : FG T k) : FG (zt_tu T k i v) k := by
  unfold FG
  rw [tu_1, tu_l, tu_l, tu_o (Or.inl (by have := h.1; omega))]
  exact h
theorem p_17 {r2 : Int → zt_S → zt_T → Option (Int × zt_S × zt_T)} {n k : Nat} {v2 i : Int} (h : FG T k) (h2 : 0 ≤ v2 ∧ v2 ≤ 100) (hi : 0 ≤ i ∧ i < 20) : F_P_feeds_17 r2 (n + 1) v2 k i σ T = F_P_feeds_17 r2 n v2 k (i + 1) σ (zt_tu T k (i / 4) (zt_or (zt_shl (T.2.2 k (i / 4)) 8) (bx T (v2 + i)))) := by
  obtain ⟨a, b, c, d⟩ := h
  unfold bx
  rw [F_P_feeds_17, zt_ckI (by unfold zt_in; omega), if_pos hi.2, zt_ckI ⟨by omega, by omega⟩, zt_ckI ⟨by omega, by omega⟩, zt_ckI ⟨⟨by omega, by omega, by omega⟩, by omega, by omega, by omega⟩, zt_ckI (by omega), zt_ckI ⟨by unfold zt_in; omega, by unfold zt_in; omega⟩]
  unfold F_P_feeds_63
  by_cases hz : v2 + i < T.2.2 0 1
  · rw [if_pos hz, if_pos hz, zt_ckI (by omega), zt_ckI ⟨⟨by omega, by omega, by omega⟩, by omega, by omega, by omega⟩, zt_ckI ⟨⟨by omega, by omega, by omega⟩, by omega, by omega, by omega⟩, zt_letS]
  · rw [if_neg hz, if_neg hz, zt_ckI ⟨⟨by omega, by omega, by omega⟩, by omega, by omega, by omega⟩, zt_letS]
/-- a word -/
theorem p_17w {r2 : Int → zt_S → zt_T → Option (Int × zt_S × zt_T)} {n k : Nat} {v2 q : Int} (h : FG T k) (h2 : 0 ≤ v2 ∧ v2 ≤ 100) (hq : 0 ≤ q ∧ q < 5) (hz : T.2.2 k q = 0) : F_P_feeds_17 r2 (n + 1 + 1 + 1 + 1) v2 k (4 * q) σ T = F_P_feeds_17 r2 n v2 k (4 * (q + 1)) σ (zt_tu T k q (wd4 (bx T (v2 + 4 * q)) (bx T (v2 + 4 * q + 1)) (bx T (v2 + 4 * q + 2)) (bx T (v2 + 4 * q + 3)))) := by
  have k2 := h.1.1
  rw [p_17 h h2 (by omega), show 4 * q / 4 = q by omega, p_17 h.tu h2 (by omega), show (4 * q + 1) / 4 = q by omega, tu_s, tu_tu, bx_tu k2, p_17 h.tu h2 (by omega), show (4 * q + 1 + 1) / 4 = q by omega, tu_s, tu_tu, bx_tu k2, p_17 h.tu h2 (by omega), show (4 * q + 1 + 1 + 1) / 4 = q by omega, tu_s, tu_tu, bx_tu k2, hz]
  unfold wd4
  rw [show 4 * q + 1 + 1 + 1 + 1 = 4 * (q + 1) by omega, show v2 + (4 * q + 1) = v2 + 4 * q + 1 by omega, show v2 + (4 * q + 1 + 1) = v2 + 4 * q + 2 by omega, show v2 + (4 * q + 1 + 1 + 1) = v2 + 4 * q + 3 by omega]
/-- the class' buffer holds the bytes B -/
def CBF (σ : zt_S) (n : Int) (B : Int → Int) : Prop := σ.1 0 1 = n ∧ ∀ j, 0 ≤ j → j < n → σ.1 1 j = B j
theorem fdC_w {n v k : Int} {B : Int → Int} (h : CBF σ n B) (hb : zt_b (zt_shr v k) = B n) : CBF (fdC σ v k) (n + 1) B := by
  refine ⟨?_, fun j j0 j1 => ?_⟩
  · unfold fdC
    rw [up_s, h.1]
  · unfold fdC
    rw [up_o (Or.inl (by decide)), h.1]
    by_cases hj : j = n
    · rw [hj, up_s, hb]
    · rw [up_o (Or.inr hj)]
      exact h.2 j j0 (by omega)
theorem pc_append {n v : Int} {B : Int → Int} (h : CBF σ n B) (hn : 0 ≤ n ∧ n + 4 ≤ 500) (hb : zt_b (zt_shr v 24) = B n ∧ zt_b (zt_shr v 16) = B (n + 1) ∧ zt_b (zt_shr v 8) = B (n + 1 + 1) ∧ zt_b (zt_shr v 0) = B (n + 1 + 1 + 1)) : ∃ σ', F_C_append v σ = some ((), σ') ∧ CBF σ' (n + 4) B := by
  have c1 := fdC_w h hb.1
  have c2 := fdC_w c1 hb.2.1
  have c3 := fdC_w c2 hb.2.2.1
  have c4 := fdC_w c3 hb.2.2.2
  have e0 := h.1
  have e1 := c1.1
  have e2 := c2.1
  have e3 := c3.1
  obtain ⟨m, hm⟩ := zN5
  refine ⟨_, ?_, by rw [show n + 4 = n + 1 + 1 + 1 + 1 by omega]; exact c4⟩
  unfold F_C_append
  rw [hm, ec_ap_st (by omega) (by omega), show (24 : Int) + -8 = 16 from rfl, ec_ap_st (by omega) (by omega), show (16 : Int) + -8 = 8 from rfl, ec_ap_st (by omega) (by omega), show (8 : Int) + -8 = 0 from rfl, ec_ap_st (by omega) (by omega), ec_ap_end (by omega)]
/-- a block of twenty -/
theorem pc_feed {n : Int} {B : Int → Int} (h : CBF σ n B) (hn : 0 ≤ n ∧ n + 20 ≤ 500) (hB : ∀ j, 0 ≤ j → 0 ≤ B j ∧ B j < 128) : ∃ σ', F_C_feed (wd4 (B n) (B (n + 1)) (B (n + 2)) (B (n + 3))) (wd4 (B (n + 4)) (B (n + 4 + 1)) (B (n + 4 + 2)) (B (n + 4 + 3))) (wd4 (B (n + 8)) (B (n + 8 + 1)) (B (n + 8 + 2)) (B (n + 8 + 3))) (wd4 (B (n + 12)) (B (n + 12 + 1)) (B (n + 12 + 2)) (B (n + 12 + 3))) (wd4 (B (n + 16)) (B (n + 16 + 1)) (B (n + 16 + 2)) (B (n + 16 + 3))) σ = some (n + 20, σ') ∧ CBF σ' (n + 20) B := by
  have st : ∀ {σ : zt_S} {n : Int}, CBF σ n B → 0 ≤ n ∧ n + 4 ≤ 500 → ∃ σ', F_C_append (wd4 (B n) (B (n + 1)) (B (n + 2)) (B (n + 3))) σ = some ((), σ') ∧ CBF σ' (n + 4) B := fun {σ n} h hn => by
    have v := wd4_v (hB n (by omega)) (hB (n + 1) (by omega)) (hB (n + 2) (by omega)) (hB (n + 3) (by omega))
    exact pc_append h hn ⟨v.1, v.2.1, by rw [show n + 1 + 1 = n + 2 by omega]; exact v.2.2.1, by rw [show n + 1 + 1 + 1 = n + 3 by omega]; exact v.2.2.2⟩
  obtain ⟨σ1, a1, b1⟩ := st h (by omega)
  obtain ⟨σ2, a2, b2⟩ := st b1 (by omega)
  rw [show n + 4 + 4 = n + 8 by omega] at b2
  obtain ⟨σ3, a3, b3⟩ := st b2 (by omega)
  rw [show n + 8 + 4 = n + 12 by omega] at b3
  obtain ⟨σ4, a4, b4⟩ := st b3 (by omega)
  rw [show n + 12 + 4 = n + 16 by omega] at b4
  obtain ⟨σ5, a5, b5⟩ := st b4 (by omega)
  rw [show n + 16 + 4 = n + 20 by omega] at b5
  refine ⟨σ5, ?_, b5⟩
  have e := h.1
  have e5 := b5.1
  unfold F_C_feed
  rw [e, zt_ckI (by unfold zt_in; omega), if_neg (by omega), a1, zt_bdS, a2, zt_bdS, a3, zt_bdS, a4, zt_bdS, a5, zt_bdS, e5]
theorem zN21 : ∃ n, zt_N = n + 1 + 1 + 1 + 1 + 1 + 1 + 1 + 1 + 1 + 1 + 1 + 1 + 1 + 1 + 1 + 1 + 1 + 1 + 1 + 1 + 1 := ⟨zt_N - 21, by have := zN (m := 21) (by omega); omega⟩
/-- the row of a block -/
theorem p_row {r2 : Int → zt_S → zt_T → Option (Int × zt_S × zt_T)} {v2 : Int} (h : TI T) (h1 : T.1 < 99999) (hs : 0 ≤ T.2.2 0 1 ∧ T.2.2 0 1 ≤ 100) (h2 : 0 ≤ v2 ∧ v2 ≤ 100) (hB : ∀ j, 0 ≤ j → 0 ≤ bx T j ∧ bx T j < 128) (hc : CBF σ v2 (bx T)) : ∃ σ' T', F_P_feeds_17 r2 zt_N v2 T.1 0 σ (zt_tn T 5) = r2 (v2 + 20) σ' T' ∧ CBF σ' (v2 + 20) (bx T) ∧ TI T' ∧ T'.1 = T.1 + 1 ∧ (∀ k j, k < T.1 → T'.2.2 k j = T.2.2 k j) := by
  obtain ⟨n, hn⟩ := zN21
  have t2 := h.1
  have fg : FG (zt_tn T 5) T.1 := ⟨⟨by omega, by rw [tn_1]; omega, by rw [tn_1]; omega⟩, tn_s, by rw [tn_l (by omega)]; exact h.2.1, by rw [tn_o (by omega)]; exact hs⟩
  have bt : ∀ j, bx (zt_tn T 5) j = bx T j := fun j => by
    unfold bx
    rw [tn_o (by omega), tn_o (by omega)]
  obtain ⟨T0, hT0⟩ : ∃ x, x = zt_tn T 5 := ⟨_, rfl⟩
  rw [← hT0] at fg bt ⊢
  have z0 : ∀ j, T0.2.2 T.1 j = 0 := fun j => by rw [hT0]; exact tn_z
  obtain ⟨W, hW⟩ : ∃ W : Int → Int, W = fun q => wd4 (bx T (v2 + 4 * q)) (bx T (v2 + 4 * q + 1)) (bx T (v2 + 4 * q + 2)) (bx T (v2 + 4 * q + 3)) := ⟨_, rfl⟩
  have w1 := p_17w (r2 := r2) (n := n + 1 + 1 + 1 + 1 + 1 + 1 + 1 + 1 + 1 + 1 + 1 + 1 + 1 + 1 + 1 + 1 + 1) (q := 0) (σ := σ) fg h2 (by omega) (z0 0)
  obtain ⟨T1, hT1⟩ : ∃ x, x = zt_tu T0 T.1 0 (W 0) := ⟨_, rfl⟩
  have f1 : FG T1 T.1 := by rw [hT1]; exact fg.tu
  have b1 : ∀ j, bx T1 j = bx T j := fun j => by rw [hT1, bx_tu t2, bt]
  have w2 := p_17w (r2 := r2) (n := n + 1 + 1 + 1 + 1 + 1 + 1 + 1 + 1 + 1 + 1 + 1 + 1 + 1) (q := 1) (σ := σ) f1 h2 (by omega) (by rw [hT1, tu_o (Or.inr (by omega)), z0])
  obtain ⟨T2, hT2⟩ : ∃ x, x = zt_tu T1 T.1 1 (W 1) := ⟨_, rfl⟩
  have f2 : FG T2 T.1 := by rw [hT2]; exact f1.tu
  have b2 : ∀ j, bx T2 j = bx T j := fun j => by rw [hT2, bx_tu t2, b1]
  have w3 := p_17w (r2 := r2) (n := n + 1 + 1 + 1 + 1 + 1 + 1 + 1 + 1 + 1) (q := 2) (σ := σ) f2 h2 (by omega) (by rw [hT2, hT1, tu_o (Or.inr (by omega)), tu_o (Or.inr (by omega)), z0])
  obtain ⟨T3, hT3⟩ : ∃ x, x = zt_tu T2 T.1 2 (W 2) := ⟨_, rfl⟩
  have f3 : FG T3 T.1 := by rw [hT3]; exact f2.tu
  have b3 : ∀ j, bx T3 j = bx T j := fun j => by rw [hT3, bx_tu t2, b2]
  have w4 := p_17w (r2 := r2) (n := n + 1 + 1 + 1 + 1 + 1) (q := 3) (σ := σ) f3 h2 (by omega) (by rw [hT3, hT2, hT1, tu_o (Or.inr (by omega)), tu_o (Or.inr (by omega)), tu_o (Or.inr (by omega)), z0])
  obtain ⟨T4, hT4⟩ : ∃ x, x = zt_tu T3 T.1 3 (W 3) := ⟨_, rfl⟩
  have f4 : FG T4 T.1 := by rw [hT4]; exact f3.tu
  have b4 : ∀ j, bx T4 j = bx T j := fun j => by rw [hT4, bx_tu t2, b3]
  have w5 := p_17w (r2 := r2) (n := n + 1) (q := 4) (σ := σ) f4 h2 (by omega) (by rw [hT4, hT3, hT2, hT1, tu_o (Or.inr (by omega)), tu_o (Or.inr (by omega)), tu_o (Or.inr (by omega)), tu_o (Or.inr (by omega)), z0])
  obtain ⟨T5, hT5⟩ : ∃ x, x = zt_tu T4 T.1 4 (W 4) := ⟨_, rfl⟩
  have f5 : FG T5 T.1 := by rw [hT5]; exact f4.tu
  rw [bt, bt, bt, bt, show wd4 (bx T (v2 + 4 * 0)) (bx T (v2 + 4 * 0 + 1)) (bx T (v2 + 4 * 0 + 2)) (bx T (v2 + 4 * 0 + 3)) = W 0 by rw [hW], ← hT1] at w1
  rw [b1, b1, b1, b1, show wd4 (bx T (v2 + 4 * 1)) (bx T (v2 + 4 * 1 + 1)) (bx T (v2 + 4 * 1 + 2)) (bx T (v2 + 4 * 1 + 3)) = W 1 by rw [hW], ← hT2] at w2
  rw [b2, b2, b2, b2, show wd4 (bx T (v2 + 4 * 2)) (bx T (v2 + 4 * 2 + 1)) (bx T (v2 + 4 * 2 + 2)) (bx T (v2 + 4 * 2 + 3)) = W 2 by rw [hW], ← hT3] at w3
  rw [b3, b3, b3, b3, show wd4 (bx T (v2 + 4 * 3)) (bx T (v2 + 4 * 3 + 1)) (bx T (v2 + 4 * 3 + 2)) (bx T (v2 + 4 * 3 + 3)) = W 3 by rw [hW], ← hT4] at w4
  rw [b4, b4, b4, b4, show wd4 (bx T (v2 + 4 * 4)) (bx T (v2 + 4 * 4 + 1)) (bx T (v2 + 4 * 4 + 2)) (bx T (v2 + 4 * 4 + 3)) = W 4 by rw [hW], ← hT5] at w5
  obtain ⟨σ', c1, c2⟩ := pc_feed hc (by omega) hB
  have v0 : T5.2.2 T.1 0 = W 0 := by rw [hT5, hT4, hT3, hT2, hT1, tu_o (Or.inr (by omega)), tu_o (Or.inr (by omega)), tu_o (Or.inr (by omega)), tu_o (Or.inr (by omega)), tu_s]
  have v1 : T5.2.2 T.1 1 = W 1 := by rw [hT5, hT4, hT3, hT2, tu_o (Or.inr (by omega)), tu_o (Or.inr (by omega)), tu_o (Or.inr (by omega)), tu_s]
  have v2' : T5.2.2 T.1 2 = W 2 := by rw [hT5, hT4, hT3, tu_o (Or.inr (by omega)), tu_o (Or.inr (by omega)), tu_s]
  have v3 : T5.2.2 T.1 3 = W 3 := by rw [hT5, hT4, tu_o (Or.inr (by omega)), tu_s]
  have v4 : T5.2.2 T.1 4 = W 4 := by rw [hT5, tu_s]
  have e5 : T5.1 = T.1 + 1 := by rw [hT5, hT4, hT3, hT2, hT1, hT0]; rfl
  obtain ⟨g1, g2, g3, g4⟩ := f5
  refine ⟨σ', T5, ?_, c2, ?_, e5, fun k j hk => ?_⟩
  · rw [hn, show (0 : Int) = 4 * 0 from rfl, w1, show (4 : Int) * (0 + 1) = 4 * 1 from rfl, w2, show (4 : Int) * (1 + 1) = 4 * 2 from rfl, w3, show (4 : Int) * (2 + 1) = 4 * 3 from rfl, w4, show (4 : Int) * (3 + 1) = 4 * 4 from rfl, w5, F_P_feeds_17, zt_ckI (by decide), if_neg (by decide)]
    unfold F_P_feeds_71
    have tk : ∀ j : Int, 0 ≤ j ∧ j < 5 → zt_tk T5 T.1 j := fun j hj => ⟨⟨by omega, by omega, by omega⟩, by omega, by omega, by omega⟩
    rw [zt_ckI (tk 0 (by omega)), zt_ckI (tk 1 (by omega)), zt_ckI (tk 2 (by omega)), zt_ckI (tk 3 (by omega)), zt_ckI (tk 4 (by omega)), v0, v1, v2', v3, v4]
    have c1' : F_C_feed (W 0) (W 1) (W 2) (W 3) (W 4) σ = some (v2 + 20, σ') := by
      rw [hW]
      show F_C_feed (wd4 (bx T (v2 + 4 * 0)) (bx T (v2 + 4 * 0 + 1)) (bx T (v2 + 4 * 0 + 2)) (bx T (v2 + 4 * 0 + 3))) (wd4 (bx T (v2 + 4)) (bx T (v2 + 4 + 1)) (bx T (v2 + 4 + 2)) (bx T (v2 + 4 + 3))) (wd4 (bx T (v2 + 8)) (bx T (v2 + 8 + 1)) (bx T (v2 + 8 + 2)) (bx T (v2 + 8 + 3))) (wd4 (bx T (v2 + 12)) (bx T (v2 + 12 + 1)) (bx T (v2 + 12 + 2)) (bx T (v2 + 12 + 3))) (wd4 (bx T (v2 + 16)) (bx T (v2 + 16 + 1)) (bx T (v2 + 16 + 2)) (bx T (v2 + 16 + 3))) σ = _
      rw [show v2 + 4 * 0 = v2 by omega]
      exact c1
    rw [c1', zt_bdS]
  · rw [hT5, hT4, hT3, hT2, hT1, hT0]
    exact (h.tn (by decide)).tu.tu.tu.tu.tu
  · rw [hT5, hT4, hT3, hT2, hT1, tu_o (Or.inl (by omega)), tu_o (Or.inl (by omega)), tu_o (Or.inl (by omega)), tu_o (Or.inl (by omega)), tu_o (Or.inl (by omega)), hT0, tn_o (by omega)]
theorem p_feeds_2 : ∀ (m n : Nat) (v2 : Int) (σ : zt_S) (T : zt_T), T.2.2 0 1 ≤ v2 + 20 * m → m < n → TI T → T.1 + m < 99999 → 0 ≤ T.2.2 0 1 ∧ T.2.2 0 1 ≤ 100 → 0 ≤ v2 ∧ v2 ≤ 200 → (∀ j, 0 ≤ j → 0 ≤ bx T j ∧ bx T j < 128) → CBF σ v2 (bx T) → ∃ σ' T' n', F_P_feeds_2 n v2 σ T = some (T.2.2 0 1, σ', T') ∧ CBF σ' n' (bx T) ∧ (T.2.2 0 1 ≤ n' ∧ (n' = v2 ∨ n' < T.2.2 0 1 + 20)) ∧ TI T' ∧ T.1 ≤ T'.1 ∧ T'.1 ≤ T.1 + m ∧ (∀ k j, k < T.1 → (k ≠ 0 ∨ j ≠ 1) → T'.2.2 k j = T.2.2 k j)
  | m, 0, _, _, _, _, h, _, _, _, _, _, _ => absurd h (Nat.not_lt_zero m)
  | m, n + 1, v2, σ, T, h0, h1, h2, h3, h4, h5, h6, h7 => by
    have t2 := h2.1
    by_cases hz : v2 < T.2.2 0 1
    · cases m with
      | zero => omega
      | succ m =>
        obtain ⟨σ1, T1, a1, a2, a3, a4, a5⟩ := p_row (r2 := F_P_feeds_2 n) h2 (by omega) h4 ⟨h5.1, by omega⟩ h6 h7
        have eb : bx T1 = bx T := funext fun j => by
          unfold bx
          rw [a5 0 1 (by omega), a5 1 j (by omega)]
        have es := a5 0 1 (by omega)
        obtain ⟨σ', T', n', b1, b2, b3, b4, b5, b6, b7⟩ := p_feeds_2 m n (v2 + 20) σ1 T1 (by omega) (by omega) a3 (by omega) (by omega) (by omega) (by rw [eb]; exact h6) (by rw [eb]; exact a2)
        rw [es, eb] at *
        refine ⟨σ', T', n', ?_, b2, ⟨b3.1, Or.inr (by omega)⟩, b4, by omega, by omega, fun k j hk hj => by rw [b7 k j (by omega) hj, a5 k j hk]⟩
        rw [F_P_feeds_2, zt_ckI (by omega), zt_ckI ⟨by unfold zt_in; omega, by unfold zt_in; omega⟩, if_pos hz, zt_ckI ⟨by omega, by omega⟩]
        show F_P_feeds_17 (F_P_feeds_2 n) zt_N v2 T.1 0 σ (zt_tn T 5) = _
        rw [a1, b1]
    · refine ⟨σ, zt_tu T 0 1 0, v2, ?_, h7, ⟨by omega, Or.inl rfl⟩, h2.tu, Nat.le_refl _, by rw [tu_1]; omega, fun k j hk hj => tu_o (by omega)⟩
      rw [F_P_feeds_2, zt_ckI (by omega), zt_ckI ⟨by unfold zt_in; omega, by unfold zt_in; omega⟩, if_neg hz]
      unfold F_P_feeds_97
      rw [zt_ckI (by omega), zt_ckI (by omega), zt_letS]
end TF0
