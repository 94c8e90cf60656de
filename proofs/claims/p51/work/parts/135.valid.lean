/-! places stay places -/
theorem q_vs_nil {n : Nat} : q_vs n [] := fun _ h => absurd h List.not_mem_nil
theorem q_vs_c {n : Nat} {v : Value} {r : List Value} : q_vs n (v :: r) ↔ q_vv n v ∧ q_vs n r := by
  unfold q_vs
  exact List.forall_mem_cons
theorem q_vv_i {n : Nat} {x : Int32} : q_vv n (.int x) := fun i h => by cases h
theorem q_vv_l {n : Nat} {x : Int64} : q_vv n (.long x) := fun i h => by cases h
theorem q_vv_f {n : Nat} {x : UInt32} : q_vv n (.float x) := fun i h => by cases h
theorem q_vv_d {n : Nat} {x : UInt64} : q_vv n (.double x) := fun i h => by cases h
theorem q_vv_n {n : Nat} : q_vv n .null := fun i h => by cases h
theorem q_vl_ld {n : Nat} {lv : q_L} {i : Nat} {v : Value} (hl : q_vl n lv) (h : q_ld lv i = some v) : q_vv n v := hl (i, v) (q_ld_mem h)
theorem q_vl_s1 {n : Nat} {lv : q_L} {i : Nat} {v : Value} (hl : q_vl n lv) (hv : q_vv n v) : q_vl n (q_s1 lv i v) := by
  intro q hq
  rcases List.mem_cons.mp hq with rfl | hq
  · exact hv
  · exact hl q (List.mem_filter.mp hq).1
theorem q_vl_s2 {n : Nat} {lv : q_L} {i : Nat} {v : Value} (hl : q_vl n lv) (hv : q_vv n v) : q_vl n (q_s2 lv i v) := by
  intro q hq
  rcases List.mem_cons.mp hq with rfl | hq
  · exact hv
  · exact hl q (List.mem_filter.mp hq).1
set_option maxHeartbeats 4000000 in
theorem q_p1_v {n : Nat} {i : Instr} {a pc nL pc' : Nat} {lv lv' : q_L} {st st' : List Value} (h : q_p1 i a pc nL lv st = some (pc', lv', st')) (hl : q_vl n lv) (hs : q_vs n st) : q_vl n lv' ∧ q_vs n st' := by
  unfold q_p1 at h
  (repeat' split at h) <;> first
    | (cases h; done)
    | (rename_i hq; cases h; exact ⟨hl, q_vs_c.mpr ⟨q_vl_ld hl hq, hs⟩⟩)
    | (cases h; exact ⟨hl, hs⟩)
    | (cases h; exact ⟨q_vl_s1 hl q_vv_i, hs⟩)
    | (cases h; simp only [q_vs_c] at hs ⊢; first
        | exact ⟨hl, q_vv_i, hs⟩
        | exact ⟨hl, q_vv_l, hs⟩
        | exact ⟨hl, q_vv_f, hs⟩
        | exact ⟨hl, q_vv_d, hs⟩
        | exact ⟨hl, q_vv_n, hs⟩
        | exact ⟨hl, q_vv_i, hs.2⟩
        | exact ⟨hl, q_vv_l, hs.2⟩
        | exact ⟨hl, q_vv_f, hs.2⟩
        | exact ⟨hl, q_vv_d, hs.2⟩
        | exact ⟨hl, q_vv_i, hs.2.2⟩
        | exact ⟨hl, q_vv_l, hs.2.2⟩
        | exact ⟨hl, q_vv_f, hs.2.2⟩
        | exact ⟨hl, q_vv_d, hs.2.2⟩
        | exact ⟨q_vl_s1 hl hs.1, hs.2⟩
        | exact ⟨q_vl_s2 hl hs.1, hs.2⟩
        | exact ⟨hl, hs.1, hs.1, hs.2⟩
        | exact ⟨hl, hs.1, hs.2.1, hs.1, hs.2.1, hs.2.2⟩
        | exact ⟨hl, hs⟩
        | exact ⟨hl, hs.2⟩
        | exact ⟨hl, hs.2.2⟩
        | exact ⟨q_vl_s1 hl q_vv_i, hs⟩)
    | (obtain ⟨t, -, hz⟩ := Option.map_eq_some_iff.mp h; cases hz; exact ⟨hl, (q_vs_c.mp hs).2⟩)
theorem q_pk_v {n : Nat} {i : Instr} {a b pc pc' : Nat} {st st' : List Value} (h : q_pk i a b pc st = some (pc', st')) (hs : q_vs n st) : q_vs n st' := by
  unfold q_pk at h
  (repeat' split at h) <;> first
    | (cases h; done)
    | (cases h; exact q_vs_c.mpr ⟨q_vv_i, hs⟩)
    | (cases h; exact q_vs_c.mpr ⟨q_vv_l, hs⟩)
    | (cases h; exact q_vs_c.mpr ⟨fun j hj => by cases hj; exact Or.inr (by omega), hs⟩)
theorem q_at_mem {M : List va_E} {id : Nat} {e : va_E} (h : q_at M id = some e) : e ∈ M := by
  unfold q_at at h
  split at h
  · exact List.mem_of_getElem? h
  · cases h
theorem q_p2_v {X : q_X} {M : List va_E} {i : Instr} {a b pc pc' : Nat} {st st' : List Value} (h : q_p2 X M i a b pc st = some (pc', st')) (hM : q_vM M) (hs : q_vs M.length st) : q_vs M.length st' := by
  unfold q_p2 at h
  split at h
  · split at h
    · split at h
      · rename_i hat
        split at h
        · split at h
          · rename_i v hv
            cases h
            have h1 : ∀ v ∈ _, q_vv M.length v := hM _ (q_at_mem hat)
            exact q_vs_c.mpr ⟨h1 v (List.mem_of_getElem? hv), (q_vs_c.mp hs).2⟩
          · cases h
        · cases h
      · cases h
    · cases h
  · (repeat' split at h) <;> first | (cases h; done) | (cases h; exact q_vs_c.mpr ⟨q_vv_i, (q_vs_c.mp (q_vs_c.mp hs).2).2⟩)
  · (repeat' split at h) <;> first | (cases h; done) | (cases h; exact q_vs_c.mpr ⟨q_vv_i, (q_vs_c.mp (q_vs_c.mp hs).2).2⟩)
  · (repeat' split at h) <;> first | (cases h; done) | (cases h; exact q_vs_c.mpr ⟨q_vv_l, (q_vs_c.mp (q_vs_c.mp hs).2).2⟩)
  · split at h
    · rename_i j id r
      split at h
      · rename_i t n f hat
        split at h
        · cases h
          refine q_vs_c.mpr ⟨fun i hi => ?_, (q_vs_c.mp (q_vs_c.mp hs).2).2⟩
          have h1 : ∀ (j i : Nat), f j = some i → i < M.length ∨ q_big ≤ i := hM _ (q_at_mem hat)
          cases hf : f j.toNatClampNeg with
          | none => rw [hf] at hi; cases hi
          | some z => rw [hf] at hi; cases hi; exact h1 _ _ hf
        · cases h
      · cases h
    · cases h
  · (repeat' split at h) <;> first | (cases h; done) | (cases h; exact q_vs_c.mpr ⟨q_vv_i, (q_vs_c.mp hs).2⟩)
  · cases h
theorem q_vM_set {M : List va_E} {id : Nat} {e : va_E} (hM : q_vM M) (he : q_ve M.length e) : q_vM (M.set id e) := by
  intro x hx
  rw [List.length_set]
  rcases List.mem_or_eq_of_mem_set hx with h | h
  · exact hM x h
  · rw [h]; exact he
theorem q_p3_v {o : Nat} {init : Bool} {M M' : List va_E} {i : Instr} {a b pc pc' : Nat} {st st' : List Value} (h : q_p3 o init M i a b pc st = some (pc', st', M')) (hM : q_vM M) (hs : q_vs M.length st) : q_vM M' ∧ M'.length = M.length ∧ q_vs M.length st' := by
  unfold q_p3 at h
  split at h
  · split at h
    · rename_i v id r
      split at h
      · rename_i ci fs hat
        split at h
        · cases h
          have h1 : ∀ v ∈ fs, q_vv M.length v := hM _ (q_at_mem hat)
          refine ⟨q_vM_set hM (fun z hz => ?_), List.length_set, (q_vs_c.mp (q_vs_c.mp hs).2).2⟩
          rcases List.mem_or_eq_of_mem_set hz with h | h
          · exact h1 z h
          · rw [h]; exact (q_vs_c.mp hs).1
        · cases h
      · cases h
    · cases h
  · (repeat' split at h) <;> first | (cases h; done) | (cases h; exact ⟨q_vM_set hM trivial, List.length_set, (q_vs_c.mp (q_vs_c.mp (q_vs_c.mp hs).2).2).2⟩)
  · (repeat' split at h) <;> first | (cases h; done) | (cases h; exact ⟨q_vM_set hM trivial, List.length_set, (q_vs_c.mp (q_vs_c.mp (q_vs_c.mp hs).2).2).2⟩)
  · (repeat' split at h) <;> first | (cases h; done) | (cases h; exact ⟨q_vM_set hM trivial, List.length_set, (q_vs_c.mp (q_vs_c.mp (q_vs_c.mp hs).2).2).2⟩)
  · split at h
    · rename_i v j id r
      split at h
      · rename_i t n f ci fs hat hatv
        split at h
        · cases h
          have h1 : ∀ (j i : Nat), f j = some i → i < M.length ∨ q_big ≤ i := hM _ (q_at_mem hat)
          refine ⟨q_vM_set hM (fun z w hw => ?_), List.length_set, (q_vs_c.mp (q_vs_c.mp (q_vs_c.mp hs).2).2).2⟩
          unfold va_up at hw
          split at hw
          · cases hw; exact (q_vs_c.mp hs).1 _ rfl
          · exact h1 z w hw
        · cases h
      · cases h
    · cases h
  · cases h
theorem q_p4_v {n : Nat} {i : Instr} {a pc pc' : Nat} {st st' : List Value} {e : va_E} {k : Nat} (h : q_p4 i a pc st = some (pc', st', e, k)) (hs : q_vs n st) : q_vs n st' := by
  unfold q_p4 at h
  split at h
  · split at h
    · cases h; exact hs
    · cases h
  · split at h
    · split at h
      · cases h
      · obtain ⟨e0, -, hz⟩ := Option.map_eq_some_iff.mp h
        cases hz
        exact (q_vs_c.mp hs).2
    · cases h
  · split at h
    · split at h
      · cases h
      · split at h
        · cases h; exact (q_vs_c.mp hs).2
        · cases h
    · cases h
  · cases h
theorem q_p4_e {n : Nat} {i : Instr} {a pc pc' : Nat} {st st' : List Value} {e : va_E} {k : Nat} (h : q_p4 i a pc st = some (pc', st', e, k)) : q_ve n e := by
  unfold q_p4 at h
  split at h
  · split at h
    · cases h
      intro v hv0 i hi
      obtain ⟨j, -, hj⟩ := List.mem_map.mp hv0
      rw [← hj] at hi
      cases hq : q_y a j <;> rw [hq] at hi <;> cases hi
    · cases h
  · rename_i t
    split at h
    · split at h
      · cases h
      · obtain ⟨e0, h0, hz⟩ := Option.map_eq_some_iff.mp h
        cases hz
        cases t <;> cases h0 <;> trivial
    · cases h
  · split at h
    · split at h
      · cases h
      · split at h
        · cases h; exact fun j i hi => by cases hi
        · cases h
    · cases h
  · cases h
theorem q_vM_push {M : List va_E} {e : va_E} (hM : q_vM M) (he : q_ve M.length e) : q_vM (M ++ [e]) := by
  intro x hx
  have hl : M.length ≤ (M ++ [e]).length := by rw [List.length_append]; omega
  rcases List.mem_append.mp hx with h | h
  · exact (hM x h).mono hl
  · rw [List.mem_singleton.mp h]; exact he.mono hl
/-- the state is a state of places -/
def q_V (lv : q_L) (st : List Value) (M : q_M) : Prop := q_vl M.1.length lv ∧ q_vs M.1.length st ∧ q_vM M.1
/-- the later state has at least as much -/
def q_le (M M' : q_M) : Prop := M.1.length ≤ M'.1.length ∧ M.2.1 ≤ M'.2.1 ∧ M.2.2 ≤ M'.2.2
theorem q_le.rf {M : q_M} : q_le M M := ⟨Nat.le_refl _, Nat.le_refl _, Nat.le_refl _⟩
theorem q_le.tr {a b c : q_M} (h1 : q_le a b) (h2 : q_le b c) : q_le a c := ⟨Nat.le_trans h1.1 h2.1, Nat.le_trans h1.2.1 h2.2.1, Nat.le_trans h1.2.2 h2.2.2⟩
theorem q_stp_v {X : q_X} {o nL : Nat} {init : Bool} {i : Instr} {a b pc pc' : Nat} {lv lv' : q_L} {st st' : List Value} {M M' : q_M} (h : q_stp X o init nL i a b pc lv st M = some (pc', lv', st', M')) (hV : q_V lv st M) : q_V lv' st' M' ∧ q_le M M' := by
  obtain ⟨hl, hs, hM⟩ := hV
  unfold q_stp at h
  split at h
  · rename_i hq
    cases h
    obtain ⟨h1, h2⟩ := q_p1_v hq hl hs
    exact ⟨⟨h1, h2, hM⟩, q_le.rf⟩
  · split at h
    · rename_i hq
      cases h
      exact ⟨⟨hl, q_pk_v hq hs, hM⟩, q_le.rf⟩
    · split at h
      · rename_i hq
        cases h
        exact ⟨⟨hl, q_p2_v hq hM hs, hM⟩, q_le.rf⟩
      · split at h
        · rename_i hq
          cases h
          obtain ⟨h1, h2, h3⟩ := q_p3_v hq hM hs
          exact ⟨⟨fun q hq => by dsimp only; rw [h2]; exact hl q hq, fun v hv => by dsimp only; rw [h2]; exact h3 v hv, h1⟩, ⟨by dsimp only; rw [h2]; exact Nat.le_refl _, Nat.le_refl _, Nat.le_refl _⟩⟩
        · split at h
          · rename_i e n hq
            split at h
            · rename_i hM2
              cases h
              have hl9 : M.1.length ≤ (M.1 ++ [e]).length := by rw [List.length_append]; omega
              refine ⟨⟨hl.mono hl9, q_vs_c.mpr ⟨fun i hi => ?_, (q_p4_v hq hs).mono hl9⟩, q_vM_push hM (q_p4_e hq)⟩, ⟨hl9, Nat.le_succ _, Nat.le_add_right _ _⟩⟩
              cases hi
              exact Or.inl (by dsimp only; rw [List.length_append]; simp)
            · cases h
          · cases h
