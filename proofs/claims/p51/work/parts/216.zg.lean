/-! the constructors' heap: what the runs of its two halves say together -/
theorem bt_len : ∀ (es : List va_E) (ks : List zt_K), bt_cs es ks = true → es.length = ks.length
  | [], [], _ => rfl
  | [], _ :: _, h => by simp [bt_cs] at h
  | _ :: _, [], h => by simp [bt_cs] at h
  | e :: es, k :: ks, h => by
    rw [bt_cs, Bool.and_eq_true] at h
    rw [List.length_cons, List.length_cons, bt_len es ks h.2]
theorem bt_at : ∀ (es : List va_E) (ks : List zt_K), bt_cs es ks = true → ∀ (c : Nat) (e : va_E) (k : zt_K), es[c]? = some e → ks[c]? = some k → bt_c e k = true
  | [], _, _, c, e, k, h1, _ => by simp at h1
  | _ :: _, [], h, _, _, _, _, _ => by simp [bt_cs] at h
  | e0 :: es, k0 :: ks, h, c, e, k, h1, h2 => by
    rw [bt_cs, Bool.and_eq_true] at h
    cases c with
    | zero =>
      rw [List.getElem?_cons_zero] at h1 h2
      cases h1; cases h2
      exact h.1
    | succ c =>
      rw [List.getElem?_cons_succ] at h1 h2
      exact bt_at es ks h.2 c e k h1 h2
theorem bt_A1 : ∃ (N2 : List va_E) (n1 : Nat × Nat), bt_e1 = some (none, (N2, n1)) ∧ N2.length = 163 ∧ n1 = (165, 21386) ∧ bt_cs (N2.map zt_une) zt_sh = true ∧ bt_inA (N2.map zt_une) = true := by
  have h := bt_yesA
  unfold bt_okA at h
  generalize bt_e1 = e at h ⊢
  unfold bt_fA at h
  split at h
  · rename_i M
    obtain ⟨N1, n1⟩ := M
    simp only [Bool.and_eq_true, decide_eq_true_eq] at h
    exact ⟨N1, n1, rfl, h.1.1, h.1.2, h.2.1, h.2.2⟩
  · cases h
theorem bt_A4 {N1 : List va_E} {n1 : Nat × Nat} (he : bt_e1 = some (none, (N1, n1))) (X : q_X) : q_ex X zt_fu 100 116 0 [(0, .ref 2)] [] (zt_A2 ++ [zt_ob 10], 3, 615) = some (.inl none, (zt_A2 ++ N1, n1)) := by
  unfold bt_e1 at he
  exact oq_ok (X := X) (k := 2) (A := zt_A2) rfl _ _ _ _ _ _ _ _ _ _ _ he
theorem bt_A5 {N1 : List va_E} {n1 : Nat × Nat} (he : bt_e1 = some (none, (N1, n1))) : zt_M1 = (zt_A2 ++ N1, n1) := by
  unfold zt_M1
  unfold zt_b1
  rw [bt_A4 he]
  rfl
theorem bt_A6 {N1 : List va_E} {n1 : Nat × Nat} (he : bt_e1 = some (none, (N1, n1))) : zt_N1 = N1.map zt_une := by
  unfold zt_N1
  rw [bt_A5 he]
  rfl
/-- the class' constructor behind the law's two cells; its cells told first -/
theorem bt_A : (∀ X : q_X, q_ex X zt_fu 100 116 0 [(0, .ref 2)] [] (zt_A2 ++ [zt_ob 10], 3, 615) = some (.inl none, zt_M1)) ∧ (∃ N2 : List va_E, zt_M1 = (zt_A2 ++ N2, (165, 21386)) ∧ N2.length = 163 ∧ zt_N1 = N2.map zt_une) ∧ zt_N1.length = 163 ∧ bt_cs zt_N1 zt_sh = true ∧ bt_inA zt_N1 = true := by
  obtain ⟨N1, n1, he, h1, h2, h3, h4⟩ := bt_A1
  rw [bt_A6 he]
  refine ⟨fun X => by rw [bt_A5 he]; exact bt_A4 he X, ⟨N1, by rw [bt_A5 he, h2], h1, rfl⟩, by rw [List.length_map, h1], h3, h4⟩
theorem bt_gz (c k : Nat) : zt_g c k = bt_g zt_N1 c k := by
  unfold zt_g
  unfold bt_g zt_fg
  generalize zt_N1[c]? = x
  cases x with
  | none => rfl
  | some e => rcases e with ⟨t, n, f | f | f | f | f⟩ | ⟨ci, fs⟩ <;> rfl
theorem bt_zg145 : ∀ k < 13, zt_g 145 k = some (148 + k) := fun k hk => by
  have h := bt_A.2.2.2.2
  unfold bt_inA at h
  simp only [Bool.and_eq_true] at h
  rw [bt_gz]
  exact of_decide_eq_true (bt_al_ok 13 h.2.2.2.2.2.2.1 k hk)
theorem bt_zg17 : ∀ k < 10, zt_g 17 k = some (18 + 10 * k) := fun k hk => by
  have h := bt_A.2.2.2.2
  unfold bt_inA at h
  simp only [Bool.and_eq_true] at h
  rw [bt_gz]
  exact of_decide_eq_true (bt_al_ok 10 h.2.2.2.2.2.2.2 k hk)
