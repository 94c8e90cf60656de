/-! areDealt: the law's own shuffle -/
section TD
variable {T : zt_T} {σ : zt_S} {w : Int → Int}
theorem and30 {x : Int} (hx : zt_in x) : 0 ≤ zt_and x 1073741823 ∧ zt_and x 1073741823 < 1073741824 := by
  have e : ((Int32.ofInt x) &&& (Int32.ofInt 1073741823)).toBitVec.toNat = (Int32.ofInt x).toBitVec.toNat % 1073741824 := by
    have e1 : ((Int32.ofInt x) &&& (Int32.ofInt 1073741823)).toBitVec = (Int32.ofInt x).toBitVec &&& (Int32.ofInt 1073741823).toBitVec := rfl
    rw [e1, BitVec.toNat_and]
    exact Nat.and_two_pow_sub_one_eq_mod _ 30
  unfold zt_and
  rw [i32i (by rw [e]; omega), e]
  omega
theorem p_cell {X : q_X} (hX : X.1 ≤ 1000000) {v : Int} (hv : 0 ≤ v ∧ v < 100) : ∃ c, F_P_cell X v σ T = some (c, σ, T) ∧ 0 ≤ c ∧ c < 1073741824 := by
  unfold F_P_cell F_P_cell_16
  rw [zt_ckI ⟨by unfold zt_in; omega, by unfold zt_in; omega⟩]
  by_cases h : v < (X.1 : Int)
  · have i : zt_in (zt_x X v) := by
      unfold zt_x zt_in
      have a := (X.2 v.toNat).le_toInt
      have b := (X.2 v.toNat).toInt_lt
      omega
    rw [if_pos h, zt_ckI ⟨hv.1, h⟩]
    exact ⟨_, rfl, and30 i⟩
  · rw [if_neg h]
    exact ⟨0, rfl, by omega, by omega⟩
theorem tu_r {k : Nat} {j v : Int} : (zt_tu T k j v).2.2 k = ru (T.2.2 k) j v := funext fun i => by
  unfold ru
  by_cases h : i = j
  · rw [h, tu_s, if_pos rfl]
  · rw [tu_o (Or.inr h), if_neg h]
theorem tu_f {k i : Nat} {j v : Int} (h : i ≠ k) : (zt_tu T k j v).2.2 i = T.2.2 i := funext fun j' => tu_o (Or.inl h)
/-- the row k of 52 may be used -/
def G52 (T : zt_T) (k : Nat) : Prop := (1 ≤ k ∧ k < T.1 ∧ k < 100000) ∧ T.2.1 k = 52
theorem G52.tk {k : Nat} {j : Int} (h : G52 T k) (hj : 0 ≤ j ∧ j < 52) : zt_tk T k j := ⟨h.1, by rw [h.2]; decide, hj.1, by rw [h.2]; omega⟩
theorem G52.tu {k i : Nat} {j v : Int} (h : G52 T k) : G52 (zt_tu T i j v) k := h
/-- other rows, the lengths -/
def KP (k : Nat) (T T' : zt_T) : Prop := TF T T' ∧ ∀ i, i ≠ k → T'.2.2 i = T.2.2 i
theorem KP.rf {k : Nat} : KP k T T := ⟨TF.rf, fun _ _ => rfl⟩
theorem KP.tr {k : Nat} {a b c : zt_T} (h : KP k a b) (g : KP k b c) : KP k a c := ⟨h.1.tr g.1, fun i hi => by rw [g.2 i hi, h.2 i hi]⟩
theorem KP.tu {k : Nat} {j v : Int} : KP k T (zt_tu T k j v) := ⟨⟨rfl, rfl⟩, fun _ hi => tu_f hi⟩
theorem p_40 {k : Nat} {v1 v2 v3 : Int} : ∀ (m n : Nat) (x : Int) (T : zt_T), m < n → m < 52 → G52 T k → (0 ≤ x ∧ x < 100003) → ∃ T', F_P_areDealt_40 n v1 v2 v3 k x (m : Int) σ T = F_P_areDealt_103 zt_N v1 v2 v3 k 0 σ T' ∧ T'.2.2 k = mx m x (T.2.2 k) ∧ KP k T T'
  | m, 0, _, _, h, _, _, _ => absurd h (Nat.not_lt_zero _)
  | 0, n + 1, x, T, h0, h1, h2, h3 => by
    refine ⟨T, ?_, rfl, KP.rf⟩
    rw [F_P_areDealt_40, zt_ckI (by decide), if_neg (by decide)]
  | m + 1, n + 1, x, T, h0, h1, h2, h3 => by
    have mm := mxX_lt x
    have m0 := Int.emod_nonneg (mxX x) (show (m : Int) + 2 ≠ 0 by omega)
    have m1 := Int.emod_lt_of_pos (mxX x) (show 0 < (m : Int) + 2 by omega)
    have e1 : (((m + 1 : Nat) : Int) + 1) = (m : Int) + 2 := by omega
    have e2 : (((m + 1 : Nat) : Int) + -1) = (m : Int) := by omega
    have e3 : ((m + 1 : Nat) : Int) = (m : Int) + 1 := by omega
    obtain ⟨T', q1, q2, q3⟩ := p_40 (v1 := v1) (v2 := v2) (v3 := v3) m n (mxX x) (zt_tu (zt_tu T k ((m : Int) + 1) (T.2.2 k (mxX x % ((m : Int) + 2)))) k (mxX x % ((m : Int) + 2)) (T.2.2 k ((m : Int) + 1))) (by omega) (by omega) h2.tu.tu mm
    refine ⟨T', ?_, ?_, KP.tr (KP.tr KP.tu KP.tu) q3⟩
    · rw [← q1, F_P_areDealt_40, zt_ckI (by unfold zt_in; omega), if_pos (by omega), zt_ckI (by omega), show ((x * 1103 + 12345) % 100003) = mxX x from rfl, e1, e2, e3, zt_ckI (h2.tk (by omega)), zt_ckI ⟨⟨by omega, by omega⟩, by omega, by omega⟩, zt_ckI (h2.tk ⟨m0, by omega⟩), zt_ckI (h2.tk (by omega)), zt_letS, zt_ckI ⟨⟨by omega, by omega⟩, by omega, by omega⟩, zt_ckI ((G52.tu h2).tk ⟨m0, by omega⟩), zt_letS]
    · rw [q2, tu_r, tu_r, mx]
      rfl
theorem p_9 {k : Nat} {v1 v2 v3 v4 : Int} : ∀ (m n : Nat) (v6 : Int) (T : zt_T), v6 + m = 52 → m < n → 0 ≤ v6 → G52 T k → ∃ T', F_P_areDealt_9 n v1 v2 v3 v4 k v6 σ T = F_P_areDealt_40 zt_N v1 v2 v3 k v4 (4 * v1 - 1) σ T' ∧ (∀ c, v6 ≤ c → c < 52 → T'.2.2 k c = c) ∧ (∀ c, c < v6 → T'.2.2 k c = T.2.2 k c) ∧ KP k T T'
  | m, 0, _, _, _, h, _, _ => absurd h (Nat.not_lt_zero _)
  | 0, n + 1, v6, T, h0, h1, h2, h3 => by
    refine ⟨T, ?_, fun c a b => by omega, fun _ _ => rfl, KP.rf⟩
    rw [F_P_areDealt_9, zt_ckI (by unfold zt_in; omega), if_neg (by omega)]
  | m + 1, n + 1, v6, T, h0, h1, h2, h3 => by
    obtain ⟨T', q1, q2, q3, q4⟩ := p_9 (v1 := v1) (v2 := v2) (v3 := v3) (v4 := v4) m n (v6 + 1) (zt_tu T k v6 v6) (by omega) (by omega) (by omega) h3.tu
    refine ⟨T', ?_, fun c a b => ?_, fun c a => ?_, KP.tr KP.tu q4⟩
    · rw [F_P_areDealt_9, zt_ckI (by unfold zt_in; omega), if_pos (by omega), zt_ckI (h3.tk ⟨h2, by omega⟩), zt_letS, q1]
    · by_cases hc : c = v6
      · rw [hc, q3 _ (by omega), tu_s]
      · exact q2 c (by omega) b
    · rw [q3 c (by omega), tu_o (Or.inr (by omega))]
theorem p_103 {k : Nat} {R P H : Int} {Q : Int → Int} (hw : CW σ w) (hR : w 0 = R) (hP : 2 ≤ P ∧ P ≤ 4) (hPH : 0 ≤ P * H ∧ P * H ≤ 52) (hQ : ∀ c, 0 ≤ c → c < 4 * R → T.2.2 k c = Q c) (hM : PM (4 * R) Q) (hD : ∀ c, 0 ≤ c → c < 4 * R → w (40 + Q c) = if c < P * H then c % P else -1) (hT : G52 T k) : ∀ (m n : Nat) (v7 : Int), v7 + m = 4 * R → m < n → 0 ≤ v7 → F_P_areDealt_103 n R P H k v7 σ T = some (1, σ, T)
  | m, 0, _, _, h, _ => absurd h (Nat.not_lt_zero _)
  | 0, n + 1, v7, h0, h1, h2 => by
    have a := hw.1.n
    rw [F_P_areDealt_103, zt_ckI ⟨by unfold zt_in; omega, by unfold zt_in; omega⟩, if_neg (by omega)]
  | m + 1, n + 1, v7, h0, h1, h2 => by
    have a := hw.1.n
    have q := hM.1 v7 h2 (by omega)
    have d := hD v7 h2 (by omega)
    have e : wHd w (Q v7) = if v7 < P * H then v7 % P else -1 := d
    have ih := p_103 hw hR hP hPH hQ hM hD hT m n (v7 + 1) (by omega) (by omega) (by omega)
    have m0 := Int.emod_nonneg v7 (show P ≠ 0 by omega)
    have m1 := Int.emod_lt_of_pos v7 (show 0 < P by omega)
    rw [F_P_areDealt_103, zt_ckI ⟨by unfold zt_in; omega, by unfold zt_in; omega⟩, if_pos (by omega), zt_ckI (hT.tk ⟨h2, by omega⟩), hQ v7 h2 (by omega), px_holder hw (by omega), zt_byI, zt_ckI ⟨by unfold zt_in; omega, by unfold zt_in; omega⟩, e]
    unfold F_P_areDealt_136
    by_cases hz : v7 < P * H
    · rw [if_pos hz, if_pos hz, zt_ckI ⟨⟨by omega, by omega⟩, by omega, by omega⟩, zt_ckI ⟨by unfold zt_in; omega, by unfold zt_in; omega⟩, if_pos rfl, ih]
    · rw [if_neg hz, if_neg hz, zt_ckI ⟨by decide, by decide⟩, if_pos rfl, ih]
theorem dlr_at {P : Int → Int} {pl n : Int} {r : Int → Int} (hP : PM n P) {k : Int} (hk : 0 ≤ k ∧ k < n) : ∀ m : Nat, (m : Int) ≤ n → dlr P pl m r (40 + P k) = if k < m then k % pl else r (40 + P k)
  | 0, _ => by rw [dlr, if_neg (by omega)]
  | m + 1, h => by
    rw [dlr]
    by_cases e : k = m
    · rw [e, ru_s, if_pos (by omega)]
    · rw [ru_o (fun z => e (hP.2 k m hk.1 hk.2 (by omega) (by omega) (by omega))), dlr_at hP hk m (by omega)]
      by_cases l : k < m
      · rw [if_pos l, if_pos (by omega)]
      · rw [if_neg l, if_neg (by omega)]
theorem p_dealt {R P H S : Int} (hw : CW σ w) (hR : w 0 = R) (hP : 2 ≤ P ∧ P ≤ 4) (hPH : 0 ≤ P * H ∧ P * H ≤ 52) (hS : 0 ≤ S ∧ S < 100000) (hD : ∀ c, 0 ≤ c → c < 4 * R → w (40 + wMx (4 * R) S c) = if c < P * H then c % P else -1) (hT : TI T) (h1 : T.1 < 90000) : ∃ T', F_P_areDealt R P H S σ T = some (1, σ, T') ∧ TI T' ∧ T.1 ≤ T'.1 ∧ T'.1 ≤ T.1 + 1 := by
  have a := hw.1.n
  have t2 := hT.1
  have g : G52 (zt_tn T 52) T.1 := ⟨⟨by omega, by rw [tn_1]; omega, by omega⟩, tn_s⟩
  obtain ⟨T1, a1, a2, a3, a4⟩ := p_9 (σ := σ) (v1 := R) (v2 := P) (v3 := H) (v4 := S) 52 zt_N 0 (zt_tn T 52) (by omega) (zN (by omega)) (by omega) g
  have g1 : G52 T1 T.1 := by
    unfold G52
    rw [a4.1.1, a4.1.2]
    exact g
  obtain ⟨T2, b1, b2, b3⟩ := p_40 (σ := σ) (v1 := R) (v2 := P) (v3 := H) (4 * R - 1).toNat zt_N S T1 (zN (by omega)) (by omega) g1 (by omega)
  rw [show (((4 * R - 1).toNat : Nat) : Int) = 4 * R - 1 by omega] at b1
  have g2 : G52 T2 T.1 := by
    unfold G52
    rw [b3.1.1, b3.1.2]
    exact g1
  have eq : ∀ c, 0 ≤ c → c < 4 * R → T2.2.2 T.1 c = wMx (4 * R) S c := fun c c0 c1 => by
    rw [b2]
    exact mx_cg (n := 52) _ _ _ _ (by omega) (fun d d0 d1 => a2 d d0 d1) c c0 (by omega)
  have r := p_103 hw hR hP hPH eq (wMx_pm (by omega)) hD g2 (4 * R).toNat zt_N 0 (by omega) (zN (by omega)) (by omega)
  refine ⟨T2, ?_, (a4.1.tr b3.1).ti (hT.tn (by decide)), ?_, ?_⟩
  · unfold F_P_areDealt
    rw [zt_ckI ⟨by omega, by omega⟩]
    show F_P_areDealt_9 zt_N R P H S T.1 0 σ (zt_tn T 52) = _
    rw [a1, b1, r]
  · rw [(a4.1.tr b3.1).1, tn_1]; omega
  · rw [(a4.1.tr b3.1).1, tn_1]; omega
end TD
