/-! the class' constructor from the law's own depth -/
theorem oq_up (k : Nat) : ∀ (f d d' y pc : Nat) (lv : q_L) (st : List Value) (M : q_M) (o : Option Value × q_M), d ≤ d' → oq_ex k f d y pc lv st M = some o → oq_ex k f d' y pc lv st M = some o := by
  intro f
  induction f with
  | zero => intro d d' y pc lv st M o _ h; simp [oq_ex] at h
  | succ f ih =>
    intro d d' y pc lv st M o hd h
    rw [oq_ex] at h ⊢
    split at h
    · cases h
    · rename_i i a b hins
      try rw [hins]
      try dsimp only
      split at h
      · rename_i v hend
        try rw [hend]
        exact h
      · rename_i hend
        try rw [hend]
        try dsimp only
        split at h
        · rename_i pc' lv' st' M' hstp
          try rw [hstp]
          exact ih _ _ _ _ _ _ _ _ hd h
        · rename_i hstp
          try rw [hstp]
          try dsimp only
          split at h
          · cases h
          · rename_i x hinv
            try rw [hinv]
            try dsimp only
            split at h
            · rename_i h914
              try rw [if_pos h914]
              split at h
              · rename_i r hpop
                try rw [hpop]
                try dsimp only
                split at h
                · rename_i hc
                  try rw [if_pos hc]
                  exact ih _ _ _ _ _ _ _ _ hd h
                · cases h
              · cases h
            · rename_i h914
              try rw [if_neg h914]
              split at h
              · cases h
              · rename_i h9
                try rw [if_neg h9]
                split at h
                · rename_i d1 as rest hargs
                  obtain ⟨d2, rfl⟩ : ∃ d2, d' = d2 + 1 := ⟨d' - 1, by omega⟩
                  try rw [hargs]
                  try dsimp only
                  split at h
                  · rename_i hc
                    try rw [if_pos hc]
                    split at h
                    · rename_i v1 M' hcall
                      rw [ih _ _ _ _ _ _ _ _ (by omega) hcall]
                      exact ih _ _ _ _ _ _ _ _ hd h
                    · cases h
                  · cases h
                · cases h
def bt_e9 : Option (Option Value × q_M) := oq_ex 2 zt_fu 9 116 0 [(0, .ref 2)] [] ([zt_ob 10], 3, 615)
set_option maxRecDepth 100000 in
theorem bt_s9 : bt_e9.isSome = true := by decide +kernel
theorem bt_B (X : q_X) : q_ex X zt_fu 9 116 0 [(0, .ref 2)] [] (zt_A2 ++ [zt_ob 10], 3, 615) = some (.inl none, zt_M1) := by
  obtain ⟨N1, n1, he, h1, h2, h3, h4⟩ := bt_A1
  obtain ⟨o, ho⟩ := Option.isSome_iff_exists.mp bt_s9
  have u : bt_e1 = some o := oq_up 2 zt_fu 9 100 116 0 [(0, .ref 2)] [] ([zt_ob 10], 3, 615) o (by decide) ho
  rw [he] at u
  rw [bt_A5 he]
  refine oq_ok (X := X) (k := 2) (A := zt_A2) rfl zt_fu 9 116 0 [(0, .ref 2)] [] [zt_ob 10] (3, 615) none N1 n1 ?_
  rw [← Option.some.inj u] at ho
  exact ho
