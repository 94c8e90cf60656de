/-! THE LAW, whole: it answers 1, and both stand alike at its end -/
section LY
variable {X : q_X} {σ : zt_S} {v n : Int}
theorem law_28i (hX : (X.1 : Int) ≤ 6000) : ∀ (m f : Nat) (v n : Int) (σ : zt_S), (X.1 : Int) - v < 6 * (m : Int) → m < f → 0 ≤ v → 0 ≤ n → 6 * n ≤ v → v ≤ 6006 → Inv n σ → ∃ τ k, Inv k τ ∧ k ≤ 1001 ∧ F_L_law_28 X f v σ = some (1, τ)
  | m, 0, _, _, _, _, h1, _, _, _, _, _ => absurd h1 (Nat.not_lt_zero m)
  | m, f + 1, v, n, σ, h0, h1, h2, h3, h4, h4', h5 => by
    have xl : (0 : Int) ≤ (X.1 : Int) := Int.natCast_nonneg _
    rw [F_L_law_28, zt_ckI ⟨by unfold zt_in; omega, by unfold zt_in; omega⟩]
    by_cases he : (X.1 : Int) - 6 < v
    · rw [if_pos he]
      exact ⟨σ, n, h5, by omega, rfl⟩
    · rw [if_neg he, zt_ckI (by omega)]
      have hv : 0 ≤ v ∧ v + 6 ≤ (X.1 : Int) := by omega
      have hn : 0 ≤ n ∧ n ≤ 1000 := by omega
      have go : ∀ x : Option (Int × zt_S), (∃ τ, Inv (n + 1) τ ∧ x = F_L_law_28 X f (v + 6) τ) → ∃ τ k, Inv k τ ∧ k ≤ 1001 ∧ x = some (1, τ) := by
        rintro x ⟨τ, g1, g2⟩
        rw [g2]
        cases m with
        | zero => omega
        | succ m => exact law_28i hX m f (v + 6) (n + 1) τ (by omega) (by omega) (by omega) (by omega) (by omega) (by omega) g1
      by_cases c0 : zt_and (zt_x X v) 63 = 0
      · rw [if_pos c0]
        exact go _ (lx_252 h5 hn _ hv)
      rw [if_neg c0]
      by_cases c1 : zt_and (zt_x X v) 63 = 1
      · rw [if_pos c1]
        exact go _ (lx_325 h5 hn _ hv)
      rw [if_neg c1]
      by_cases c2 : zt_and (zt_x X v) 63 = 2
      · rw [if_pos c2]
        exact go _ (lx_381 h5 hn _ hv)
      rw [if_neg c2]
      by_cases c3 : zt_and (zt_x X v) 63 = 3
      · rw [if_pos c3]
        exact go _ (lx_394 h5 hn _ hv)
      rw [if_neg c3]
      by_cases c4 : zt_and (zt_x X v) 63 = 4
      · rw [if_pos c4]
        exact go _ (lx_450 h5 hn _ hv)
      rw [if_neg c4]
      by_cases c5 : zt_and (zt_x X v) 63 = 5
      · rw [if_pos c5]
        exact go _ (lx_506 h5 hn _ hv)
      rw [if_neg c5]
      by_cases c6 : zt_and (zt_x X v) 63 = 6
      · rw [if_pos c6]
        exact go _ (lx_562 h5 hn _ hv)
      rw [if_neg c6]
      by_cases c7 : zt_and (zt_x X v) 63 = 7
      · rw [if_pos c7]
        exact go _ (lx_618 h5 hn _ hv)
      rw [if_neg c7]
      by_cases c8 : zt_and (zt_x X v) 63 = 8
      · rw [if_pos c8]
        exact go _ (lx_674 h5 hn _ hv)
      rw [if_neg c8]
      by_cases c9 : zt_and (zt_x X v) 63 = 9
      · rw [if_pos c9]
        exact go _ (lx_742 h5 hn _ hv)
      rw [if_neg c9]
      by_cases c10 : zt_and (zt_x X v) 63 = 10
      · rw [if_pos c10]
        exact go _ (lx_810 h5 hn _ hv)
      rw [if_neg c10]
      by_cases c11 : zt_and (zt_x X v) 63 = 11
      · rw [if_pos c11]
        exact go _ (lx_873 h5 hn _ hv)
      rw [if_neg c11]
      by_cases c12 : zt_and (zt_x X v) 63 = 12
      · rw [if_pos c12]
        exact go _ (lx_886 h5 hn _ hv)
      rw [if_neg c12]
      by_cases c13 : zt_and (zt_x X v) 63 = 13
      · rw [if_pos c13]
        exact go _ (lx_942 h5 hn _ hv)
      rw [if_neg c13]
      by_cases c14 : zt_and (zt_x X v) 63 = 14
      · rw [if_pos c14]
        exact go _ (lx_955 h5 hn _ hv)
      rw [if_neg c14]
      by_cases c15 : zt_and (zt_x X v) 63 = 15
      · rw [if_pos c15]
        exact go _ (lx_968 h5 hn _ hv)
      rw [if_neg c15]
      by_cases c16 : zt_and (zt_x X v) 63 = 16
      · rw [if_pos c16]
        exact go _ (lx_1031 h5 hn _ hv)
      rw [if_neg c16]
      by_cases c17 : zt_and (zt_x X v) 63 = 17
      · rw [if_pos c17]
        exact go _ (lx_1099 h5 hn _ hv)
      rw [if_neg c17]
      by_cases c18 : zt_and (zt_x X v) 63 = 18
      · rw [if_pos c18]
        exact go _ (lx_1167 h5 hn _ hv)
      rw [if_neg c18]
      by_cases c19 : zt_and (zt_x X v) 63 = 19
      · rw [if_pos c19]
        exact go _ (lx_1223 h5 hn _ hv)
      rw [if_neg c19]
      by_cases c20 : zt_and (zt_x X v) 63 = 20
      · rw [if_pos c20]
        exact go _ (lx_1279 h5 hn _ hv)
      rw [if_neg c20]
      by_cases c21 : zt_and (zt_x X v) 63 = 21
      · rw [if_pos c21]
        exact go _ (lx_1335 h5 hn _ hv)
      rw [if_neg c21]
      by_cases c22 : zt_and (zt_x X v) 63 = 22
      · rw [if_pos c22]
        exact go _ (lx_1391 h5 hn _ hv)
      rw [if_neg c22]
      by_cases c23 : zt_and (zt_x X v) 63 = 23
      · rw [if_pos c23]
        exact go _ (lx_1447 h5 hn _ hv)
      rw [if_neg c23]
      by_cases c24 : zt_and (zt_x X v) 63 = 24
      · rw [if_pos c24]
        exact go _ (lx_1522 h5 hn _ hv)
      rw [if_neg c24]
      by_cases c25 : zt_and (zt_x X v) 63 = 25
      · rw [if_pos c25]
        exact go _ (lx_1597 h5 hn _ hv)
      rw [if_neg c25]
      by_cases c26 : zt_and (zt_x X v) 63 = 26
      · rw [if_pos c26]
        exact go _ (lx_1653 h5 hn _ hv)
      rw [if_neg c26]
      by_cases c27 : zt_and (zt_x X v) 63 = 27
      · rw [if_pos c27]
        exact go _ (lx_1716 h5 hn _ hv)
      rw [if_neg c27]
      by_cases c28 : zt_and (zt_x X v) 63 = 28
      · rw [if_pos c28]
        exact go _ (lx_1772 h5 hn _ hv)
      rw [if_neg c28]
      by_cases c29 : zt_and (zt_x X v) 63 = 29
      · rw [if_pos c29]
        exact go _ (lx_1785 (owe_sure n σ h5 hn.1 hn.2) _)
      rw [if_neg c29]
      by_cases c30 : zt_and (zt_x X v) 63 = 30
      · rw [if_pos c30]
        exact go _ (lx_1798 (owe_sureCard n σ h5 hn.1 hn.2) _)
      rw [if_neg c30]
      by_cases c31 : zt_and (zt_x X v) 63 = 31
      · rw [if_pos c31]
        exact go _ (lx_1811 h5 hn _ hv)
      rw [if_neg c31]
      by_cases c32 : zt_and (zt_x X v) 63 = 32
      · rw [if_pos c32]
        exact go _ (lx_1888 h5 hn _ hv)
      rw [if_neg c32]
      by_cases c33 : zt_and (zt_x X v) 63 = 33
      · rw [if_pos c33]
        exact go _ (lx_1966 h5 hn _ hv)
      rw [if_neg c33]
      by_cases c34 : zt_and (zt_x X v) 63 = 34
      · rw [if_pos c34]
        exact go _ (lx_2022 h5 hn _ hv)
      rw [if_neg c34]
      by_cases c35 : zt_and (zt_x X v) 63 = 35
      · rw [if_pos c35]
        exact go _ (lx_2078 h5 hn _ hv)
      rw [if_neg c35]
      by_cases c36 : zt_and (zt_x X v) 63 = 36
      · rw [if_pos c36]
        exact go _ (lx_2146 h5 hn _ hv)
      rw [if_neg c36]
      by_cases c37 : zt_and (zt_x X v) 63 = 37
      · rw [if_pos c37]
        exact go _ (lx_2202 h5 hn _ hv)
      rw [if_neg c37]
      by_cases c38 : zt_and (zt_x X v) 63 = 38
      · rw [if_pos c38]
        exact go _ (lx_2258 h5 hn _ hv)
      rw [if_neg c38]
      by_cases c39 : zt_and (zt_x X v) 63 = 39
      · rw [if_pos c39]
        exact go _ (lx_2314 h5 hn _ hv)
      rw [if_neg c39]
      by_cases c40 : zt_and (zt_x X v) 63 = 40
      · rw [if_pos c40]
        exact go _ (lx_2370 h5 hn _ hv)
      rw [if_neg c40]
      by_cases c41 : zt_and (zt_x X v) 63 = 41
      · rw [if_pos c41]
        exact go _ (lx_2411 h5 hn _ hv)
      rw [if_neg c41]
      by_cases c42 : zt_and (zt_x X v) 63 = 42
      · rw [if_pos c42]
        exact go _ (lx_2467 h5 hn _ hv)
      rw [if_neg c42]
      by_cases c43 : zt_and (zt_x X v) 63 = 43
      · rw [if_pos c43]
        exact go _ (lx_2492 h5 hn _ hv)
      rw [if_neg c43]
      by_cases c44 : zt_and (zt_x X v) 63 = 44
      · rw [if_pos c44]
        exact go _ (lx_2505 h5 hn _ hv)
      rw [if_neg c44]
      by_cases c45 : zt_and (zt_x X v) 63 = 45
      · rw [if_pos c45]
        exact go _ (lx_2518 h5 hn _ hv)
      rw [if_neg c45]
      by_cases c46 : zt_and (zt_x X v) 63 = 46
      · rw [if_pos c46]
        exact go _ (lx_2529 h5 hn _ hv)
      rw [if_neg c46]
      by_cases c47 : zt_and (zt_x X v) 63 = 47
      · rw [if_pos c47]
        exact go _ (lx_2542 h5 hn _ hv)
      rw [if_neg c47]
      exact go _ ⟨σ, h5.q (fun _ _ _ => rfl) (fun _ _ _ => rfl) (Nat.le_succ _), rfl⟩
end LY
