/-! A question keeps what both sides stand for -/
section FRK
variable {σ τ : zt_S}
theorem FR.i (f : FR σ τ) {c : Nat} (h : c ≠ 163) : τ.1 c = σ.1 c := funext fun j => f.1 c j (Or.inl h)
theorem FR.l (f : FR σ τ) {c : Nat} (h : c ≠ 184) : τ.2.1 c = σ.2.1 c := funext fun j => f.2.1 c j h
theorem CO.fr (h : CO σ) (f : FR σ τ) : CO τ := by
  unfold CO TB TK SUw at *
  rw [f.i (show 164 ≠ 163 by decide), f.i (show 6 ≠ 163 by decide), f.i (show 3 ≠ 163 by decide), f.i (show 6 + 1 ≠ 163 by decide), f.i (show 6 + 3 ≠ 163 by decide), f.i (show 6 + 4 ≠ 163 by decide), f.i (show 6 + 5 ≠ 163 by decide), f.i (show 6 + 6 ≠ 163 by decide), f.i (show 6 + 7 ≠ 163 by decide), f.i (show 6 + 8 ≠ 163 by decide), f.i (show 6 + 9 ≠ 163 by decide), f.l (show 6 ≠ 184 by decide), f.l (show 6 + 2 ≠ 184 by decide)]
  exact h
theorem FR.trans {ρ : zt_S} (f : FR σ τ) (g : FR τ ρ) : (∀ c j, (c ≠ 163 ∨ j ≠ 0) → ρ.1 c j = σ.1 c j) ∧ (∀ c j, c ≠ 184 → ρ.2.1 c j = σ.2.1 c j) ∧ ρ.2.2.1 = σ.2.2.1 :=
  ⟨fun c j h => (g.1 c j h).trans (f.1 c j h), fun c j h => (g.2.1 c j h).trans (f.2.1 c j h), g.2.2.1.trans f.2.2.1⟩
end FRK
