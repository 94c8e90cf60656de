/-! THE PACK: both exchange alike -/
/-- the state with the row of a cell changed -/
def rz (d : Nat) (σ : zt_S) (r : Int → Int) : zt_S := (fun c j => if c = d then r j else σ.1 c j, σ.2)
theorem rz_r (d : Nat) (σ : zt_S) (r : Int → Int) : (rz d σ r).1 d = r := funext fun j => if_pos rfl
theorem rz_o {d : Nat} {σ : zt_S} {r : Int → Int} {c : Nat} {j : Int} (h : c ≠ d) : (rz d σ r).1 c j = σ.1 c j := if_neg h
theorem rz_2 (d : Nat) (σ : zt_S) (r : Int → Int) : (rz d σ r).2 = σ.2 := rfl
theorem rz_id (d : Nat) (σ : zt_S) : rz d σ (σ.1 d) = σ := by
  unfold rz
  have : (fun (c : Nat) (j : Int) => if c = d then σ.1 d j else σ.1 c j) = σ.1 := by
    funext c j
    by_cases h : c = d
    · rw [if_pos h, h]
    · rw [if_neg h]
  rw [this]
theorem rz_rz (d : Nat) (σ : zt_S) (r r' : Int → Int) : rz d (rz d σ r) r' = rz d σ r' := by
  unfold rz
  congr 1
  funext c j
  by_cases h : c = d
  · rw [if_pos h, if_pos h]
  · rw [if_neg h, if_neg h]; exact if_neg h
theorem rz_up (d : Nat) (σ : zt_S) (r : Int → Int) (j v : Int) : zt_up (rz d σ r) d j v = rz d σ (ru r j v) := by
  unfold zt_up rz ru
  congr 1
  funext c i
  by_cases h : c = d
  · simp [h]
  · simp [h]
theorem up_rz (d : Nat) (σ : zt_S) (j v : Int) : zt_up σ d j v = rz d σ (ru (σ.1 d) j v) := by
  have := rz_up d σ (σ.1 d) j v
  rwa [rz_id] at this
/-- two places are exchanged -/
def mxS (P : Int → Int) (i j : Int) : Int → Int := ru (ru P i (P j)) j (P i)
def mxX (x : Int) : Int := (x * 1103 + 12345) % 100003
def mx : Nat → Int → (Int → Int) → (Int → Int)
  | 0, _, P => P
  | k + 1, x, P => mx k (mxX x) (mxS P ((k : Int) + 1) (mxX x % ((k : Int) + 2)))
/-- each number below n once -/
def PM (n : Int) (P : Int → Int) : Prop := (∀ c, 0 ≤ c → c < n → 0 ≤ P c ∧ P c < n) ∧ ∀ c d, 0 ≤ c → c < n → 0 ≤ d → d < n → P c = P d → c = d
theorem mxX_lt (x : Int) : 0 ≤ mxX x ∧ mxX x < 100003 := by
  unfold mxX
  omega
theorem mxS_v {P : Int → Int} {i j c : Int} : mxS P i j c = if c = j then P i else if c = i then P j else P c := rfl
theorem PM.sw {n : Int} {P : Int → Int} (h : PM n P) {i j : Int} (hi : 0 ≤ i ∧ i < n) (hj : 0 ≤ j ∧ j < n) : PM n (mxS P i j) := by
  obtain ⟨h1, h2⟩ := h
  have pi := h1 i hi.1 hi.2
  have pj := h1 j hj.1 hj.2
  refine ⟨fun c c0 c1 => ?_, fun c d c0 c1 d0 d1 e => ?_⟩
  · rw [mxS_v]
    have := h1 c c0 c1
    split
    · exact pi
    · split
      · exact pj
      · exact this
  · rw [mxS_v, mxS_v] at e
    by_cases a1 : c = j
    · rw [if_pos a1] at e
      by_cases b1 : d = j
      · omega
      · rw [if_neg b1] at e
        by_cases b2 : d = i
        · rw [if_pos b2] at e
          have := h2 i j hi.1 hi.2 hj.1 hj.2 e
          omega
        · rw [if_neg b2] at e
          have := h2 i d hi.1 hi.2 d0 d1 e
          omega
    · rw [if_neg a1] at e
      by_cases a2 : c = i
      · rw [if_pos a2] at e
        by_cases b1 : d = j
        · rw [if_pos b1] at e
          have := h2 j i hj.1 hj.2 hi.1 hi.2 e
          omega
        · rw [if_neg b1] at e
          by_cases b2 : d = i
          · omega
          · rw [if_neg b2] at e
            have := h2 j d hj.1 hj.2 d0 d1 e
            omega
      · rw [if_neg a2] at e
        by_cases b1 : d = j
        · rw [if_pos b1] at e
          have := h2 c i c0 c1 hi.1 hi.2 e
          omega
        · rw [if_neg b1] at e
          by_cases b2 : d = i
          · rw [if_pos b2] at e
            have := h2 c j c0 c1 hj.1 hj.2 e
            omega
          · rw [if_neg b2] at e
            exact h2 c d c0 c1 d0 d1 e
theorem mx_pm {n : Int} : ∀ (k : Nat) (x : Int) (P : Int → Int), (k : Int) < n → PM n P → PM n (mx k x P)
  | 0, _, _, _, h => h
  | k + 1, x, P, hk, h => by
    rw [mx]
    have := mxX_lt x
    have m0 := Int.emod_nonneg (mxX x) (show (k : Int) + 2 ≠ 0 by omega)
    have m1 := Int.emod_lt_of_pos (mxX x) (show 0 < (k : Int) + 2 by omega)
    exact mx_pm k _ _ (by omega) (h.sw ⟨by omega, by omega⟩ ⟨by omega, by omega⟩)
theorem mx_cg {n : Int} : ∀ (k : Nat) (x : Int) (P Q : Int → Int), (k : Int) < n → (∀ c, 0 ≤ c → c < n → P c = Q c) → ∀ c, 0 ≤ c → c < n → mx k x P c = mx k x Q c
  | 0, _, _, _, _, h => h
  | k + 1, x, P, Q, hk, h => by
    rw [mx, mx]
    have m0 := Int.emod_nonneg (mxX x) (show (k : Int) + 2 ≠ 0 by omega)
    have m1 := Int.emod_lt_of_pos (mxX x) (show 0 < (k : Int) + 2 by omega)
    refine mx_cg k _ _ _ (by omega) (fun c c0 c1 => ?_)
    rw [mxS_v, mxS_v, h _ (by omega) (by omega), h _ m0 (by omega), h c c0 c1]
/-- the cards behind the exchanges of a seed -/
def wMx (n seed : Int) : Int → Int := mx (n - 1).toNat seed (fun c => c)
theorem wMx_pm {n seed : Int} (h : 1 ≤ n) : PM n (wMx n seed) := by
  unfold wMx
  exact mx_pm _ _ _ (by omega) ⟨fun c h0 h1 => ⟨h0, h1⟩, fun c d _ _ _ _ e => e⟩
section MX
variable {σ : zt_S}
theorem e_exchange {i j : Int} (hi : 0 ≤ i ∧ i < 52) (hj : 0 ≤ j ∧ j < 52) : F_Pk_exchange i j σ = some ((), rz 5 σ (mxS (σ.1 5) i j)) := by
  unfold F_Pk_exchange F_Pk_cardAt
  rw [be_at ⟨hi.1, by omega⟩ (by decide), zt_bdS, be_at ⟨hj.1, by omega⟩ (by decide), zt_bdS, be_set ⟨hi.1, by omega⟩ (by decide), be_set ⟨hj.1, by omega⟩ (by decide), up_rz 5 σ, rz_up]
  rfl
theorem e_mix_29 : ∀ (k n : Nat) (x : Int) (σ : zt_S), k < n → k < 52 → (0 ≤ x ∧ x < 100003) → F_Pk_mix_29 n x (k : Int) σ = some ((), rz 5 σ (mx k x (σ.1 5)))
  | k, 0, _, _, h1, _, _ => absurd h1 (Nat.not_lt_zero k)
  | 0, n + 1, x, σ, h1, h2, h3 => by
    rw [F_Pk_mix_29, zt_ckI (by decide), if_pos (by decide), mx, rz_id]
  | k + 1, n + 1, x, σ, h1, h2, h3 => by
    have mm := mxX_lt x
    have m0 := Int.emod_nonneg (mxX x) (show (k : Int) + 2 ≠ 0 by omega)
    have m1 := Int.emod_lt_of_pos (mxX x) (show 0 < (k : Int) + 2 by omega)
    have e1 : (((k + 1 : Nat) : Int) + 1) = (k : Int) + 2 := by omega
    have e2 : (((k + 1 : Nat) : Int) + -1) = (k : Int) := by omega
    have e3 : ((k + 1 : Nat) : Int) = (k : Int) + 1 := by omega
    rw [F_Pk_mix_29, zt_ckI (by unfold zt_in; omega), if_neg (by omega), zt_ckI (by omega), show ((x * 1103 + 12345) % 100003) = mxX x from rfl, e1, zt_ckI ⟨⟨by omega, by omega⟩, by omega, by omega⟩, e2, e3, e_exchange ⟨by omega, by omega⟩ ⟨m0, by omega⟩, zt_bdS, e_mix_29 k n (mxX x) _ (by omega) (by omega) mm, rz_r, rz_rz, mx]
theorem e_mix_2 {v : Int} (hv : 0 ≤ v ∧ v < 100003) {n : Int} (hn : 1 ≤ n ∧ n ≤ 52) : ∀ (m f : Nat) (k : Int) (σ : zt_S), k + m = n → m < f → 0 ≤ k → (∀ c, 0 ≤ c → c < k → σ.1 5 c = c) → ∃ r, F_Pk_mix_2 f v n k σ = some ((), rz 5 σ r) ∧ ∀ c, 0 ≤ c → c < n → r c = wMx n v c
  | m, 0, _, _, _, h1, _, _ => absurd h1 (Nat.not_lt_zero m)
  | 0, f + 1, k, σ, h0, h1, h2, h3 => by
    refine ⟨mx (n - 1).toNat v (σ.1 5), ?_, fun c c0 c1 => ?_⟩
    · have e := e_mix_29 (n - 1).toNat zt_N v σ (zN (by omega)) (by omega) hv
      rw [show (((n - 1).toNat : Nat) : Int) = n - 1 by omega] at e
      rw [F_Pk_mix_2, zt_ckI ⟨by unfold zt_in; omega, by unfold zt_in; omega⟩, if_neg (by omega), e]
    · exact mx_cg (n := n) _ _ _ _ (by omega) (fun c c0 c1 => h3 c c0 (by omega)) c c0 c1
  | m + 1, f + 1, k, σ, h0, h1, h2, h3 => by
    obtain ⟨r, g1, g2⟩ := e_mix_2 hv hn m f (k + 1) (zt_up σ 5 k k) (by omega) (by omega) (by omega) (fun c c0 c1 => by
      by_cases hk : c = k
      · rw [hk, up_s]
      · rw [up_o (Or.inr hk)]; exact h3 c c0 (by omega))
    refine ⟨r, ?_, g2⟩
    rw [F_Pk_mix_2, zt_ckI ⟨by unfold zt_in; omega, by unfold zt_in; omega⟩, if_pos (by omega), be_set ⟨h2, by omega⟩ (by decide), g1, up_rz, rz_rz]
theorem e_mix {v n : Int} (hv : 0 ≤ v ∧ v < 100003) (hn : 1 ≤ n ∧ n ≤ 52) : ∃ r, F_Pk_mix v n σ = some ((), rz 5 σ r) ∧ ∀ c, 0 ≤ c → c < n → r c = wMx n v c := by
  unfold F_Pk_mix
  exact e_mix_2 hv hn n.toNat zt_N 0 σ (by omega) (zN (by omega)) (by omega) (fun c c0 c1 => by omega)
theorem em_piles_27 : ∀ (k n : Nat) (x : Int) (σ : zt_S), k < n → k < 52 → (0 ≤ x ∧ x < 100003) → F_M_piles_27 n x (k : Int) σ = some ((), rz 168 σ (mx k x (σ.1 168)))
  | k, 0, _, _, h1, _, _ => absurd h1 (Nat.not_lt_zero k)
  | 0, n + 1, x, σ, h1, h2, h3 => by
    rw [F_M_piles_27, zt_ckI (by decide), if_neg (by decide), mx, rz_id]
  | k + 1, n + 1, x, σ, h1, h2, h3 => by
    have mm := mxX_lt x
    have m0 := Int.emod_nonneg (mxX x) (show (k : Int) + 2 ≠ 0 by omega)
    have m1 := Int.emod_lt_of_pos (mxX x) (show 0 < (k : Int) + 2 by omega)
    have e1 : (((k + 1 : Nat) : Int) + 1) = (k : Int) + 2 := by omega
    have e2 : (((k + 1 : Nat) : Int) + -1) = (k : Int) := by omega
    have e3 : ((k + 1 : Nat) : Int) = (k : Int) + 1 := by omega
    rw [F_M_piles_27, zt_ckI (by unfold zt_in; omega), if_pos (by omega), zt_ckI (by omega), show ((x * 1103 + 12345) % 100003) = mxX x from rfl, e1, zt_ckI ⟨⟨by omega, by omega⟩, by omega, by omega⟩, e2, e3]
    have ih := em_piles_27 k n (mxX x) (rz 168 σ (mxS (σ.1 168) ((k : Int) + 1) (mxX x % ((k : Int) + 2)))) (by omega) (by omega) mm
    rw [rz_r, rz_rz] at ih
    rw [mx, ← ih]
    simp (disch := omega) only [zt_ckI, zt_letS, up_rz, rz_rz, rz_r, mxS]
theorem em_piles_2 {v : Int} (hv : 0 ≤ v ∧ v < 100003) {n : Int} (hn : 1 ≤ n ∧ n ≤ 52) : ∀ (m f : Nat) (k : Int) (σ : zt_S), k + m = n → m < f → 0 ≤ k → (∀ c, 0 ≤ c → c < k → σ.1 168 c = c) → ∃ r, F_M_piles_2 f n v k σ = some ((), rz 168 σ r) ∧ ∀ c, 0 ≤ c → c < n → r c = wMx n v c
  | m, 0, _, _, _, h1, _, _ => absurd h1 (Nat.not_lt_zero m)
  | 0, f + 1, k, σ, h0, h1, h2, h3 => by
    refine ⟨mx (n - 1).toNat v (σ.1 168), ?_, fun c c0 c1 => ?_⟩
    · have e := em_piles_27 (n - 1).toNat zt_N v σ (zN (by omega)) (by omega) hv
      rw [show (((n - 1).toNat : Nat) : Int) = n - 1 by omega] at e
      rw [F_M_piles_2, zt_ckI ⟨by unfold zt_in; omega, by unfold zt_in; omega⟩, if_neg (by omega), e]
    · exact mx_cg (n := n) _ _ _ _ (by omega) (fun c c0 c1 => h3 c c0 (by omega)) c c0 c1
  | m + 1, f + 1, k, σ, h0, h1, h2, h3 => by
    obtain ⟨r, g1, g2⟩ := em_piles_2 hv hn m f (k + 1) (zt_up σ 168 k k) (by omega) (by omega) (by omega) (fun c c0 c1 => by
      by_cases hk : c = k
      · rw [hk, up_s]
      · rw [up_o (Or.inr hk)]; exact h3 c c0 (by omega))
    refine ⟨r, ?_, g2⟩
    rw [F_M_piles_2, zt_ckI ⟨by unfold zt_in; omega, by unfold zt_in; omega⟩, if_pos (by omega), zt_ckI (by omega), zt_letS, g1, up_rz, rz_rz]
theorem em_piles {v n : Int} (hv : 0 ≤ v ∧ v < 100003) (hn : 1 ≤ n ∧ n ≤ 52) : ∃ r, F_M_piles n v σ = some ((), rz 168 σ r) ∧ ∀ c, 0 ≤ c → c < n → r c = wMx n v c := by
  unfold F_M_piles
  exact em_piles_2 hv hn n.toNat zt_N 0 σ (by omega) (zN (by omega)) (by omega) (fun c c0 c1 => by omega)
end MX
