/-! RULES of the small methods: rows, sets, setups -/
theorem zt_bdS {α β : Type} {r : α} {s : zt_S} {k : α → zt_S → Option β} : zt_bd (some (r, s)) k = k r s := rfl
theorem zt_bxS {α β : Type} {r : α} {s : zt_S} {k : α → zt_S → Option β} {e : Nat → zt_S → Option β} : zt_bx (some (.inl r, s)) k e = k r s := rfl
theorem zt_bxR {α β : Type} {E : Nat} {s : zt_S} {k : α → zt_S → Option β} {e : Nat → zt_S → Option β} : zt_bx (some (.inr E, s)) k e = e E s := rfl
theorem zt_letS {α β : Type} {e : α} {k : α → Option β} : zt_let e k = k e := rfl
theorem up_1 (σ : zt_S) (c : Nat) (b v : Int) (c' : Nat) (j : Int) : (zt_up σ c b v).1 c' j = if c' = c ∧ j = b then v else σ.1 c' j := rfl
theorem up_2 (σ : zt_S) (c : Nat) (b v : Int) : (zt_up σ c b v).2 = σ.2 := rfl
theorem uL_1 (σ : zt_S) (c : Nat) (b : Int) (v : Int64) : (zt_uL σ c b v).1 = σ.1 := rfl
theorem uL_2 (σ : zt_S) (c : Nat) (b : Int) (v : Int64) (c' : Nat) (j : Int) : (zt_uL σ c b v).2.1 c' j = if c' = c ∧ j = b then v else σ.2.1 c' j := rfl
theorem uL_3 (σ : zt_S) (c : Nat) (b : Int) (v : Int64) : (zt_uL σ c b v).2.2 = σ.2.2 := rfl
theorem up_s (σ : zt_S) (c : Nat) (b v : Int) : (zt_up σ c b v).1 c b = v := if_pos ⟨rfl, rfl⟩
theorem up_o {σ : zt_S} {c c' : Nat} {b v j : Int} (h : c' ≠ c ∨ j ≠ b) : (zt_up σ c b v).1 c' j = σ.1 c' j := if_neg (by omega)
theorem uL_s (σ : zt_S) (c : Nat) (b : Int) (v : Int64) : (zt_uL σ c b v).2.1 c b = v := if_pos ⟨rfl, rfl⟩
theorem uL_o {σ : zt_S} {c c' : Nat} {b j : Int} {v : Int64} (h : c' ≠ c ∨ j ≠ b) : (zt_uL σ c b v).2.1 c' j = σ.2.1 c' j := if_neg (by omega)
theorem up_f {σ : zt_S} {c c' : Nat} {b v : Int} (h : c' ≠ c) : (zt_up σ c b v).1 c' = σ.1 c' := funext fun j => if_neg (by omega)
/-- the numbers of a setup -/
def SU (σ : zt_S) (s : Nat) : Prop := (4 ≤ σ.1 s 0 ∧ σ.1 s 0 ≤ 13) ∧ (2 ≤ σ.1 s 1 ∧ σ.1 s 1 ≤ 4) ∧ (1 ≤ σ.1 s 2 ∧ σ.1 s 2 ≤ 13) ∧ (0 ≤ σ.1 s 3 ∧ σ.1 s 3 ≤ 30)
theorem e_at {c n : Nat} {j : Int} {σ : zt_S} (hj : 0 ≤ j ∧ j < (n : Int)) (hn : n ≤ 100000) : F_Rw_at c n j σ = some (σ.1 c j, σ) := by
  unfold F_Rw_at
  simp (disch := omega) only [zt_ck, zt_in, if_pos, if_neg, F_Rw_at_17]
theorem e_set {c n : Nat} {j v : Int} {σ : zt_S} (hj : 0 ≤ j ∧ j < (n : Int)) (hn : n ≤ 100000) : F_Rw_set c n j v σ = some ((), zt_up σ c j v) := by
  unfold F_Rw_set
  simp (disch := omega) only [zt_ck, zt_in, if_pos, if_neg, F_Rw_set_14, zt_letS]
theorem e_has {v : Int64} {c : Int} {σ : zt_S} (hc : 0 ≤ c ∧ c < 64) : F_Rw_has v c σ = some (if hb v c = true then 1 else 0, σ) := by
  unfold F_Rw_has F_Rw_has_15
  have h : zt_lc (zt_rs v c &&& 1) 0 = 0 ↔ ¬ hb v c = true := by
    rw [zt_lc0, hb_and1, hb_rs hc (by decide) (by omega), Int.add_zero]
    simp
  by_cases hh : hb v c = true
  · rw [if_neg (by rw [h]; exact fun z => z hh), if_pos hh]
    rfl
  · rw [if_pos (h.mpr hh), if_neg hh]
    rfl
theorem e_with {v : Int64} {c : Int} {σ : zt_S} : F_Rw_with v c σ = some (v ||| zt_ls 1 c, σ) := rfl
theorem e_without {v : Int64} {c : Int} {σ : zt_S} : F_Rw_without v c σ = some (v &&& (zt_ls 1 c ^^^ -1), σ) := rfl
theorem hb_with {v : Int64} {k c : Int} (hk : 0 ≤ k ∧ k < 64) (hc : 0 ≤ c ∧ c < 64) : hb (v ||| zt_ls 1 k) c = (hb v c || decide (c = k)) := by
  rw [hb_or, hb_one hk hc]
theorem hb_without {v : Int64} {k c : Int} (hk : 0 ≤ k ∧ k < 64) (hc : 0 ≤ c ∧ c < 64) : hb (v &&& (zt_ls 1 k ^^^ -1)) c = (hb v c && !decide (c = k)) := by
  rw [hb_and, hb_xor, hb_one hk hc, hb_m1 hc.1 hc.2]
  simp
theorem e_cardCount {s : Nat} {σ : zt_S} : F_Su_cardCount s σ = some (4 * σ.1 s 0, σ) := rfl
theorem e_cardsOfHands {s : Nat} {σ : zt_S} : F_Su_cardsOfHands s σ = some (σ.1 s 1 * σ.1 s 2, σ) := rfl
theorem e_suitOf {s : Nat} {σ : zt_S} {c : Int} (h : SU σ s) (hc : 0 ≤ c ∧ c < 100000) : F_Su_suitOf s c σ = some (c / σ.1 s 0, σ) := by
  obtain ⟨h1, h2, h3, h4⟩ := h
  unfold F_Su_suitOf
  simp (disch := omega) only [zt_ck, zt_in, if_pos, if_neg, F_Su_suitOf_17]
theorem e_rankOf {s : Nat} {σ : zt_S} {c : Int} (h : SU σ s) (hc : 0 ≤ c ∧ c < 100000) : F_Su_rankOf s c σ = some (c % σ.1 s 0 + 1, σ) := by
  obtain ⟨h1, h2, h3, h4⟩ := h
  unfold F_Su_rankOf
  simp (disch := omega) only [zt_ck, zt_in, if_pos, if_neg, F_Su_rankOf_19]
theorem e_trickOf {s : Nat} {σ : zt_S} {c : Int} (h : SU σ s) (hc : 0 ≤ c ∧ c < 100000) : F_Su_trickOf s c σ = some (c / σ.1 s 1, σ) := by
  obtain ⟨h1, h2, h3, h4⟩ := h
  unfold F_Su_trickOf
  simp (disch := omega) only [zt_ck, zt_in, if_pos, if_neg, F_Su_trickOf_17]
theorem e_behind {s : Nat} {σ : zt_S} {c : Int} (h : SU σ s) (hc : 0 ≤ c ∧ c < σ.1 s 1) : F_Su_behind s c σ = some ((c + 1) % σ.1 s 1, σ) := by
  obtain ⟨h1, h2, h3, h4⟩ := h
  unfold F_Su_behind F_Su_behind_17
  by_cases h5 : c + 1 < σ.1 s 1
  · simp (disch := omega) only [zt_ck, zt_in, if_pos, if_neg]
    rw [Int.emod_eq_of_lt (by omega) h5]
  · simp (disch := omega) only [zt_ck, zt_in, if_pos, if_neg]
    rw [show c + 1 = σ.1 s 1 by omega, Int.emod_self]
theorem zt_lt1 : (zt_ls 1 0) = 1 := by decide
theorem ls_pow (r : Int) (h : 4 ≤ r ∧ r ≤ 13) : (zt_ls 1 r - 1) = Int64.ofNat (2 ^ r.toNat - 1) := by
  have h2 : ∀ n : Nat, n < 14 → (zt_ls 1 (n : Int) - 1) = Int64.ofNat (2 ^ n - 1) := by decide +kernel
  obtain ⟨n, rfl⟩ := Int.eq_ofNat_of_zero_le (show 0 ≤ r by omega)
  rw [h2 n (by omega), Int.toNat_natCast]
theorem hb_low {r c : Int} (h : 4 ≤ r ∧ r ≤ 13) (hc : 0 ≤ c ∧ c < 64) : hb (zt_ls 1 r - 1) c = decide (c < r) := by
  rw [ls_pow r h]
  obtain ⟨n, rfl⟩ := Int.eq_ofNat_of_zero_le (show 0 ≤ r by omega)
  obtain ⟨m, rfl⟩ := Int.eq_ofNat_of_zero_le hc.1
  have h2 : ∀ n : Nat, n < 14 → ∀ m : Nat, m < 64 → hb (Int64.ofNat (2 ^ n - 1)) (m : Int) = decide (m < n) := by decide +kernel
  rw [Int.toNat_natCast, h2 n (by omega) m (by omega)]
  simp
theorem e_cardsOf {s : Nat} {σ : zt_S} {u : Int} (h : SU σ s) (hu : -1 ≤ u ∧ u < 4) : ∃ v, F_Su_cardsOf s u σ = some (v, σ) ∧ ∀ c, 0 ≤ c → c < 64 → hb v c = decide (0 ≤ u ∧ c / σ.1 s 0 = u) := by
  obtain ⟨h1, h2, h3, h4⟩ := h
  unfold F_Su_cardsOf F_Su_cardsOf_24
  by_cases hm : u = -1
  · refine ⟨0, ?_, fun c _ _ => ?_⟩
    · simp (disch := omega) only [zt_ck, zt_in, if_pos]
    · rw [hb_0]; simp; omega
  · refine ⟨zt_ls (zt_ls 1 (σ.1 s 0) - 1) (u * σ.1 s 0), by simp (disch := omega) only [zt_ck, zt_in, if_pos, if_neg], fun c k0 k1 => ?_⟩
    have e0 : 0 ≤ u * σ.1 s 0 := Int.mul_nonneg (by omega) (by omega)
    have e1 : u * σ.1 s 0 ≤ 3 * 13 := Int.mul_le_mul (by omega) h1.2 (by omega) (by decide)
    rw [hb_ls ⟨e0, by omega⟩ ⟨k0, k1⟩]
    by_cases h5 : u * σ.1 s 0 ≤ c
    · rw [hb_low h1 ⟨by omega, by omega⟩]
      have e2 : c - u * σ.1 s 0 < σ.1 s 0 ↔ c / σ.1 s 0 = u := by
        constructor
        · intro z
          have a1 : u ≤ c / σ.1 s 0 := (Int.le_ediv_iff_mul_le (by omega)).mpr h5
          have a2 : c / σ.1 s 0 < u + 1 := (Int.ediv_lt_iff_lt_mul (by omega)).mpr (by rw [Int.add_mul]; omega)
          omega
        · intro z
          have a2 : c < (u + 1) * σ.1 s 0 := (Int.ediv_lt_iff_lt_mul (by omega)).mp (by omega)
          rw [Int.add_mul] at a2
          omega
      simp [h5, e2]
      omega
    · have e2 : ¬ c / σ.1 s 0 = u := fun z => h5 ((Int.le_ediv_iff_mul_le (by omega)).mp (by omega))
      simp [h5, e2]
theorem be_at {β : Type} {c n : Nat} {j : Int} {σ : zt_S} (hj : 0 ≤ j ∧ j < (n : Int)) (hn : n ≤ 100000) {K : _ → zt_S → Option β} : zt_bd (F_Rw_at c n j σ) K = K (σ.1 c j) σ := by rw [e_at hj hn]; rfl
theorem be_set {β : Type} {c n : Nat} {j v : Int} {σ : zt_S} (hj : 0 ≤ j ∧ j < (n : Int)) (hn : n ≤ 100000) {K : Unit → zt_S → Option β} : zt_bd (F_Rw_set c n j v σ) K = K () (zt_up σ c j v) := by rw [e_set hj hn]; rfl
theorem be_has_t {β : Type} {v : Int64} {c : Int} {σ : zt_S} (hc : 0 ≤ c ∧ c < 64) (hB : hb v c = true) {K : Int → zt_S → Option β} : zt_bd (F_Rw_has v c σ) K = K 1 σ := by rw [e_has hc]; rw [if_pos hB]; rfl
theorem be_has_f {β : Type} {v : Int64} {c : Int} {σ : zt_S} (hc : 0 ≤ c ∧ c < 64) (hB : ¬ hb v c = true) {K : Int → zt_S → Option β} : zt_bd (F_Rw_has v c σ) K = K 0 σ := by rw [e_has hc]; rw [if_neg hB]; rfl
theorem be_with {β : Type} {v : Int64} {c : Int} {σ : zt_S} {K : _ → zt_S → Option β} : zt_bd (F_Rw_with v c σ) K = K (v ||| zt_ls 1 c) σ := by rw [e_with ]; rfl
theorem be_without {β : Type} {v : Int64} {c : Int} {σ : zt_S} {K : _ → zt_S → Option β} : zt_bd (F_Rw_without v c σ) K = K (v &&& (zt_ls 1 c ^^^ -1)) σ := by rw [e_without ]; rfl
theorem be_cardCount {β : Type} {s : Nat} {σ : zt_S} {K : _ → zt_S → Option β} : zt_bd (F_Su_cardCount s σ) K = K (4 * σ.1 s 0) σ := by rw [e_cardCount ]; rfl
theorem be_cardsOfHands {β : Type} {s : Nat} {σ : zt_S} {K : _ → zt_S → Option β} : zt_bd (F_Su_cardsOfHands s σ) K = K (σ.1 s 1 * σ.1 s 2) σ := by rw [e_cardsOfHands ]; rfl
theorem be_suitOf {β : Type} {s : Nat} {σ : zt_S} {c : Int} (h : SU σ s) (hc : 0 ≤ c ∧ c < 100000) {K : _ → zt_S → Option β} : zt_bd (F_Su_suitOf s c σ) K = K (c / σ.1 s 0) σ := by rw [e_suitOf h hc]; rfl
theorem be_rankOf {β : Type} {s : Nat} {σ : zt_S} {c : Int} (h : SU σ s) (hc : 0 ≤ c ∧ c < 100000) {K : _ → zt_S → Option β} : zt_bd (F_Su_rankOf s c σ) K = K (c % σ.1 s 0 + 1) σ := by rw [e_rankOf h hc]; rfl
theorem be_trickOf {β : Type} {s : Nat} {σ : zt_S} {c : Int} (h : SU σ s) (hc : 0 ≤ c ∧ c < 100000) {K : _ → zt_S → Option β} : zt_bd (F_Su_trickOf s c σ) K = K (c / σ.1 s 1) σ := by rw [e_trickOf h hc]; rfl
theorem be_behind {β : Type} {s : Nat} {σ : zt_S} {c : Int} (h : SU σ s) (hc : 0 ≤ c ∧ c < σ.1 s 1) {K : _ → zt_S → Option β} : zt_bd (F_Su_behind s c σ) K = K ((c + 1) % σ.1 s 1) σ := by rw [e_behind h hc]; rfl
