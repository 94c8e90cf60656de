/-! cells made are cells told, where nothing is thrown -/
theorem q_stp_n {X : q_X} {o nL : Nat} {init : Bool} {i : Instr} {a b pc pc' : Nat} {lv lv' : q_L} {st st' : List Value} {M M' : q_M} (h : q_stp X o init nL i a b pc lv st M = some (pc', lv', st', M')) (hV : q_V lv st M) : M'.2.1 + M.1.length = M.2.1 + M'.1.length := by
  obtain ⟨hl, hs, hM⟩ := hV
  unfold q_stp at h
  split at h
  · cases h; rfl
  · split at h
    · cases h; rfl
    · split at h
      · cases h; rfl
      · split at h
        · rename_i hq
          cases h
          dsimp only
          rw [(q_p3_v hq hM hs).2.1]
        · split at h
          · split at h
            · cases h
              dsimp only
              rw [List.length_append, List.length_singleton]
              omega
            · cases h
          · cases h
theorem q_ex_n (X : q_X) : ∀ (f d y pc : Nat) (lv : q_L) (st : List Value) (M : q_M) (v : Option Value) (Me : q_M), q_ex X f d y pc lv st M = some (.inl v, Me) → q_V lv st M → Me.2.1 + M.1.length = M.2.1 + Me.1.length := by
  intro f
  induction f with
  | zero => intro d y pc lv st M v Me h; simp [q_ex] at h
  | succ f ih =>
    intro d y pc lv st M v Me h hV
    rw [q_ex] at h
    split at h
    · cases h
    · rename_i i a b hins
      split at h
      · cases h; rfl
      · split at h
        · rename_i pc' lv' st' M' hstp
          obtain ⟨h1, h2⟩ := q_stp_v hstp hV
          have n := q_stp_n hstp hV
          have g := ih _ _ _ _ _ _ _ _ h h1
          omega
        · split at h
          · split at h
            · obtain ⟨E, -, hz⟩ := Option.map_eq_some_iff.mp h
              cases hz
            · cases h
          · split at h
            · cases h
            · split at h
              · split at h
                · rename_i st' M' hj
                  split at h
                  · obtain ⟨h1, h2, h3⟩ := q_jdk_v hj hV.2.2 hV.2.1
                    have g := ih _ _ _ _ _ _ _ _ h ⟨fun q hq => by dsimp only; rw [h2]; exact hV.1 q hq, fun v hv => by dsimp only; rw [h2]; exact h3 v hv, h1⟩
                    dsimp only at g
                    rw [h2] at g
                    exact g
                  · cases h
                · cases h
              · split at h
                · rename_i d' as rest hargs
                  split at h
                  · obtain ⟨v1, v2⟩ := q_args_v hargs hV.2.1
                    split at h
                    · rename_i w M' hcall
                      obtain ⟨g1, g2, g3⟩ := q_ex_v X f d' a 0 _ _ _ _ _ hcall ⟨q_lva_v as 0 v1, q_vs_nil, hV.2.2⟩
                      have n := ih _ _ _ _ _ _ _ _ hcall ⟨q_lva_v as 0 v1, q_vs_nil, hV.2.2⟩
                      have hvv : q_vs M'.1.length w.toList := by
                        cases w with
                        | none => exact q_vs_nil
                        | some w => exact q_vs_c.mpr ⟨g3 w rfl, q_vs_nil⟩
                      have g := ih _ _ _ _ _ _ _ _ h ⟨hV.1.mono g2.1, q_vs_app hvv (v2.mono g2.1), g1⟩
                      omega
                    · rw [q_hh (q_ins_lt hins)] at h
                      simp only [q_hd] at h
                      rw [if_pos trivial] at h
                      cases h
                    · cases h
                  · cases h
                · cases h
