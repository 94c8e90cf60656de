/-! THE SEARCH'S MEMORY: four bits for each trump -/
theorem hb_rsx {v : Int64} {k c : Int} (hk : 0 ≤ k ∧ k < 64) (hc : 0 ≤ c ∧ c < 64) : hb (zt_rs v k) c = hb v (if c + k < 64 then c + k else 63) := by
  obtain ⟨y, rfl⟩ := Int.eq_ofNat_of_zero_le hk.1
  obtain ⟨x, rfl⟩ := Int.eq_ofNat_of_zero_le hc.1
  unfold zt_rs hb
  show (v.toBitVec.sshiftRight' (((Int32.ofInt (y : Int)).toInt64 &&& 63).toBitVec.smod 64)).getLsbD _ = _
  rw [hb_sh y (by omega), BitVec.sshiftRight_eq', BitVec.getLsbD_sshiftRight]
  have e : (BitVec.ofNat 64 y).toNat = y := by rw [BitVec.toNat_ofNat]; omega
  rw [e]
  have hx : ¬ (64 ≤ ((x : Nat) : Int).toNat) := by omega
  by_cases h : (x : Int) + (y : Int) < 64
  · rw [if_pos h, if_pos (by omega)]
    simp only [hx, decide_false, Bool.not_false, Bool.true_and]
    congr 1
    omega
  · rw [if_neg h, if_neg (by omega)]
    simp only [hx, decide_false, Bool.not_false, Bool.true_and]
    rw [BitVec.msb_eq_getLsbD_last]
    rfl
theorem hb_small {v : Int64} {k : Nat} (h : 0 ≤ v.toInt ∧ v.toInt < 2 ^ k) {c : Int} (hc : (k : Int) ≤ c) : hb v c = false := by
  unfold hb BitVec.getLsbD
  have e : (v.toBitVec.toNat : Int) = v.toInt := by
    have q : v.toInt = v.toBitVec.toInt := rfl
    rw [q] at h ⊢
    rw [BitVec.toInt_eq_toNat_cond] at h ⊢
    have := v.toBitVec.isLt
    split at h
    · rw [if_pos (by assumption)]
    · omega
  refine Nat.testBit_lt_two_pow ?_
  have p : (2 : Nat) ^ k ≤ 2 ^ c.toNat := Nat.pow_le_pow_right (by decide) (by omega)
  have q : ((v.toBitVec.toNat : Nat) : Int) < ((2 ^ k : Nat) : Int) := by
    rw [e, Int.natCast_pow]
    exact h.2
  omega
theorem zl_sm {v : Int} (h : 0 ≤ v ∧ v < 16) {c : Int} (hc : 4 ≤ c) : hb (zt_l v) c = false := hb_small (k := 4) (by rw [zl_i (by unfold zt_in; omega)]; exact ⟨h.1, by omega⟩) hc
def nib (k : Int64) (s : Int) : Int := zt_i (zt_rs k s &&& 15)
theorem n15 (a : Int64) : ∃ n : Int, (0 ≤ n ∧ n < 16) ∧ a &&& 15 = zt_l n := by
  have e : (a &&& 15).toBitVec.toNat = a.toBitVec.toNat % 16 := by
    show (a.toBitVec &&& (15 : Int64).toBitVec).toNat = _
    rw [BitVec.toNat_and, show (15 : Int64).toBitVec.toNat = 2 ^ 4 - 1 from rfl, Nat.and_two_pow_sub_one_eq_mod]
  refine ⟨((a.toBitVec.toNat % 16 : Nat) : Int), by omega, ?_⟩
  refine hb_ext (fun c h0 h1 => ?_)
  have l : (zt_l ((a.toBitVec.toNat % 16 : Nat) : Int)).toBitVec.toNat = a.toBitVec.toNat % 16 := by
    have t := zl_i (a := ((a.toBitVec.toNat % 16 : Nat) : Int)) (by unfold zt_in; omega)
    have q : ∀ v : Int64, v.toInt = v.toBitVec.toInt := fun _ => rfl
    rw [q, BitVec.toInt_eq_toNat_cond] at t
    have := (zt_l ((a.toBitVec.toNat % 16 : Nat) : Int)).toBitVec.isLt
    split at t <;> omega
  unfold hb BitVec.getLsbD
  rw [e, l]
theorem zi_l {n : Int} (h : 0 ≤ n ∧ n < 16) : zt_i (zt_l n) = n := by
  have q : n = 0 ∨ n = 1 ∨ n = 2 ∨ n = 3 ∨ n = 4 ∨ n = 5 ∨ n = 6 ∨ n = 7 ∨ n = 8 ∨ n = 9 ∨ n = 10 ∨ n = 11 ∨ n = 12 ∨ n = 13 ∨ n = 14 ∨ n = 15 := by omega
  rcases q with q | q | q | q | q | q | q | q | q | q | q | q | q | q | q | q <;> subst q <;> decide
theorem nib_in (k : Int64) (s : Int) : 0 ≤ nib k s ∧ nib k s < 16 ∧ zt_rs k s &&& 15 = zt_l (nib k s) := by
  obtain ⟨n, h, e⟩ := n15 (zt_rs k s)
  unfold nib
  rw [e, zi_l h]
  exact ⟨h.1, h.2, rfl⟩
theorem hb_15 {c : Int} (h : 0 ≤ c ∧ c < 64) : hb 15 c = decide (c < 4) := by
  obtain ⟨x, rfl⟩ := Int.eq_ofNat_of_zero_le h.1
  have : ∀ x : Nat, x < 64 → hb 15 (x : Int) = decide ((x : Int) < 4) := by decide
  exact this x (by omega)
theorem hb_nib {k : Int64} {s c : Int} (hs : 0 ≤ s ∧ s ≤ 16) (hc : 0 ≤ c ∧ c < 64) : hb (zt_rs k s &&& 15) c = (decide (c < 4) && hb k (c + s)) := by
  rw [hb_and, hb_15 hc, hb_rsx ⟨hs.1, by omega⟩ hc]
  by_cases h : c < 4
  · rw [if_pos (by omega)]
    simp [h]
  · simp [h]
theorem nib_eq {k k' : Int64} {s : Int} (hs : 0 ≤ s ∧ s ≤ 16) (h : ∀ c, 0 ≤ c → c < 4 → hb k' (c + s) = hb k (c + s)) : nib k' s = nib k s := by
  have e : zt_rs k' s &&& 15 = zt_rs k s &&& 15 := hb_ext (fun c c0 c1 => by
    rw [hb_nib hs ⟨c0, c1⟩, hb_nib hs ⟨c0, c1⟩]
    by_cases z : c < 4
    · rw [h c c0 z]
    · simp [z])
  unfold nib
  rw [e]
/-- a value put in -/
theorem nib_put {k : Int64} {s v : Int} (hs : 0 ≤ s ∧ s ≤ 16) (hv : 0 ≤ v ∧ v < 16) (h : nib k s = 0 ∨ nib k s = v) : nib (k ||| zt_ls (zt_l v) s) s = v := by
  have e : zt_rs (k ||| zt_ls (zt_l v) s) s &&& 15 = (zt_rs k s &&& 15) ||| zt_l v := hb_ext (fun c c0 c1 => by
    rw [hb_nib hs ⟨c0, c1⟩, hb_or, hb_or, hb_nib hs ⟨c0, c1⟩]
    by_cases z : c < 4
    · rw [hb_ls ⟨hs.1, by omega⟩ ⟨by omega, by omega⟩, show c + s - s = c by omega]
      have : s ≤ c + s := by omega
      simp [z, this]
    · rw [zl_sm hv (by omega)]
      simp [z])
  have n := nib_in k s
  have o0 : ∀ x : Int64, 0 ||| x = x := fun x => hb_ext (fun c c0 c1 => by rw [hb_or, hb_0, Bool.false_or])
  have oo : ∀ x : Int64, x ||| x = x := fun x => hb_ext (fun c c0 c1 => by rw [hb_or, Bool.or_self])
  unfold nib at h ⊢
  rw [e, n.2.2]
  rcases h with h | h
  · rw [show nib k s = 0 from h, show zt_l 0 = 0 from rfl, o0, zi_l hv]
  · rw [show nib k s = v from h, oo, zi_l hv]
theorem nib_oth {k : Int64} {s t v : Int} (hs : 0 ≤ s ∧ s ≤ 16) (ht : 0 ≤ t ∧ t ≤ 16) (hv : 0 ≤ v ∧ v < 16) (h : t + 4 ≤ s ∨ s + 4 ≤ t) : nib (k ||| zt_ls (zt_l v) s) t = nib k t := by
  refine nib_eq ht (fun c c0 c1 => ?_)
  rw [hb_or, hb_ls ⟨hs.1, by omega⟩ ⟨by omega, by omega⟩]
  rcases h with h | h
  · have : ¬ s ≤ c + t := by omega
    simp [this]
  · rw [zl_sm hv (by omega)]
    simp
theorem rs20_put {k : Int64} {s v : Int} (hs : 0 ≤ s ∧ s ≤ 16) (hv : 0 ≤ v ∧ v < 16) : zt_rs (k ||| zt_ls (zt_l v) s) 20 = zt_rs k 20 := hb_ext (fun c c0 c1 => by
  rw [hb_rsx ⟨by omega, by omega⟩ ⟨c0, c1⟩, hb_rsx ⟨by omega, by omega⟩ ⟨c0, c1⟩, hb_or]
  have b : 20 ≤ (if c + 20 < 64 then c + 20 else 63) ∧ (if c + 20 < 64 then c + 20 else 63) < 64 := by split <;> omega
  generalize (if c + 20 < 64 then c + 20 else 63) = i at b ⊢
  rw [hb_ls ⟨hs.1, by omega⟩ ⟨by omega, b.2⟩, zl_sm hv (by omega)]
  simp)
theorem rs20_new {S : Int64} (h : 0 ≤ S.toInt ∧ S.toInt < 2 ^ 40) : zt_rs (zt_ls S 20) 20 = S := hb_ext (fun c c0 c1 => by
  rw [hb_rsx ⟨by omega, by omega⟩ ⟨c0, c1⟩]
  by_cases z : c + 20 < 64
  · rw [if_pos z, hb_ls ⟨by omega, by omega⟩ ⟨by omega, by omega⟩, show c + 20 - 20 = c by omega]
    have : (20 : Int) ≤ c + 20 := by omega
    simp [this]
  · rw [if_neg z, hb_ls ⟨by omega, by omega⟩ ⟨by omega, by omega⟩, hb_small (k := 40) h (by omega), hb_small (k := 40) h (by omega)]
    simp)
theorem nib_new {S : Int64} {s : Int} (hs : 0 ≤ s ∧ s ≤ 16) : nib (zt_ls S 20) s = 0 := by
  have e : zt_rs (zt_ls S 20) s &&& 15 = 0 := hb_ext (fun c c0 c1 => by
    rw [hb_nib hs ⟨c0, c1⟩, hb_0]
    by_cases z : c < 4
    · rw [hb_ls ⟨by omega, by omega⟩ ⟨by omega, by omega⟩]
      have : ¬ (20 : Int) ≤ c + s := by omega
      simp [this]
    · simp [z])
  unfold nib
  rw [e]
  rfl
