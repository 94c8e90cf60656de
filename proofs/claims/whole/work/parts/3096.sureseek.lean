section SS
variable {q : Int}
theorem nod (hqi : 0 ≤ q ∧ q < 4) (k : Nat) : NOD q k := by
  induction k using Nat.strongRecOn with
  | ind k ih => exact nod_step hqi k ih
theorem TT_13 : 52 * (TT 12 + 3) + 2 ≤ zt_N := by unfold zt_N; decide
theorem TT_mono : ∀ (k j : Nat), j ≤ k → TT j ≤ TT k
  | 0, j, h => by rw [show j = 0 by omega]; exact Nat.le_refl _
  | k + 1, j, h => by
    by_cases e : j = k + 1
    · rw [e]; exact Nat.le_refl _
    · have := TT_mono k j (by omega)
      rw [TT]; omega
end SS
