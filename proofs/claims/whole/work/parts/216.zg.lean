/-! the constructors' heap: what the runs of its two halves say together -/
theorem bt_len : ∀ (es : List va_E) (ks : List zt_K), bt_cs es ks = true → es.length = ks.length
  | [], [], _ => rfl
  | [], _ :: _, h => by simp [bt_cs] at h
  | _ :: _, [], h => by simp [bt_cs] at h
  | e :: es, k :: ks, h => by
    rw [bt_cs, Bool.and_eq_true] at h
    rw [List.length_cons, List.length_cons, bt_len es ks h.2]
theorem bt_at : ∀ (es : List va_E) (ks : List zt_K), bt_cs es ks = true → ∀ (c : Nat) (e : va_E) (k : zt_K), es[c]? = some e → ks[c]? = some k → bt_c e k = true
  | [], _, _, c, e, k, h1, _ => by simp at h1
  | _ :: _, [], h, _, _, _, _, _ => by simp [bt_cs] at h
  | e0 :: es, k0 :: ks, h, c, e, k, h1, h2 => by
    rw [bt_cs, Bool.and_eq_true] at h
    cases c with
    | zero =>
      rw [List.getElem?_cons_zero] at h1 h2
      cases h1; cases h2
      exact h.1
    | succ c =>
      rw [List.getElem?_cons_succ] at h1 h2
      exact bt_at es ks h.2 c e k h1 h2
theorem bt_A1 : ∃ (N1 : List va_E) (n1 : Nat × Nat), bt_e1 = some (none, (N1, n1)) ∧ N1.length = 163 ∧ n1 = (163, 20784) ∧ bt_cs N1 (zt_sh.take 163) = true ∧ bt_inA N1 = true := by
  have h := bt_yesA
  unfold bt_okA at h
  generalize bt_e1 = e at h ⊢
  unfold bt_fA at h
  split at h
  · rename_i M
    obtain ⟨N1, n1⟩ := M
    simp only [Bool.and_eq_true, decide_eq_true_eq] at h
    exact ⟨N1, n1, rfl, h.1.1, h.1.2, h.2.1, h.2.2⟩
  · cases h
theorem bt_B1 : ∃ (N9 : List va_E), bt_e9 = some (none, (N9, (184, 25726))) ∧ bt_cs N9 ((zt_sh.take 184).drop 163) = true ∧ bt_inB N9 = true := by
  have h := bt_yesB
  unfold bt_okB at h
  generalize bt_e9 = e at h ⊢
  unfold bt_fB at h
  split at h
  · rename_i M
    obtain ⟨N1, n1⟩ := M
    simp only [Bool.and_eq_true, decide_eq_true_eq] at h
    have h0 : n1 = (184, 25726) := h.1
    subst h0
    exact ⟨N1, rfl, h.2.1, h.2.2⟩
  · cases h
theorem bt_A3 : ([] ++ [zt_ob 10], (1, 13)) = (([zt_ob 10], 1, q_N 10) : q_M) := rfl
theorem bt_A4 {N1 : List va_E} {n1 : Nat × Nat} (he : bt_e1 = some (none, (N1, n1))) (X : q_X) : q_ex X zt_fu 100 116 0 [(0, .ref 0)] [] ([zt_ob 10], 1, q_N 10) = some (.inl none, (N1, n1)) := by
  unfold bt_e1 at he
  have h := oq_ok (X := X) (k := 0) (A := []) rfl _ _ _ _ _ _ _ _ _ _ _ he
  rw [bt_A3, List.nil_append] at h
  exact h
theorem bt_A5 {N1 : List va_E} {n1 : Nat × Nat} (he : bt_e1 = some (none, (N1, n1))) : zt_M1 = (N1, n1) := by
  unfold zt_M1
  unfold zt_b1
  rw [bt_A4 he]
  rfl
theorem bt_A : (∀ X : q_X, q_ex X zt_fu 100 116 0 [(0, .ref 0)] [] ([zt_ob 10], 1, q_N 10) = some (.inl none, zt_M1)) ∧ zt_M1.1.length = 163 ∧ zt_M1.2 = (163, 20784) ∧ bt_cs zt_M1.1 (zt_sh.take 163) = true ∧ bt_inA zt_M1.1 = true := by
  obtain ⟨N1, n1, he, h1, h2, h3, h4⟩ := bt_A1
  rw [bt_A5 he]
  exact ⟨bt_A4 he, h1, h2, h3, h4⟩
theorem bt_B4 {N9 : List va_E} (he : bt_e9 = some (none, (N9, (184, 25726)))) (X : q_X) : q_ex X zt_fu 100 175 0 [(0, .ref 163)] [] (zt_M1.1 ++ [zt_ob 11], zt_M1.2.1 + 1, zt_M1.2.2 + q_N 11) = some (.inl none, (zt_M1.1 ++ N9, (184, 25726))) := by
  unfold bt_e9 at he
  have h := oq_ok (X := X) (k := 163) (A := zt_M1.1) bt_A.2.1 _ _ _ _ _ _ _ _ _ _ _ he
  have e : (164, 20822) = (zt_M1.2.1 + 1, zt_M1.2.2 + q_N 11) := by
    rw [bt_A.2.2.1]
    rfl
  rw [e] at h
  exact h
theorem bt_2 : ∃ N9 : List va_E, (∀ X : q_X, q_ex X zt_fu 100 175 0 [(0, .ref 163)] [] (zt_M1.1 ++ [zt_ob 11], zt_M1.2.1 + 1, zt_M1.2.2 + q_N 11) = some (.inl none, zt_M2)) ∧ zt_M2 = (zt_M1.1 ++ N9, (184, 25726)) ∧ bt_cs N9 ((zt_sh.take 184).drop 163) = true ∧ bt_inB N9 = true := by
  obtain ⟨N9, he, h2, h3⟩ := bt_B1
  have hM : zt_M2 = (zt_M1.1 ++ N9, (184, 25726)) := by
    unfold zt_M2
    unfold zt_b2
    rw [bt_B4 he]
    rfl
  exact ⟨N9, fun X => by rw [bt_B4 he, hM], hM, h2, h3⟩
theorem bt_21 {N9 : List va_E} (h : zt_M2 = (zt_M1.1 ++ N9, (184, 25726))) : zt_M2.1 = zt_M1.1 ++ N9 := by rw [h]
theorem bt_l2 : zt_M2.1.length = 184 := by
  obtain ⟨N9, -, h1, h2, -⟩ := bt_2
  have h := bt_len _ _ h2
  rw [List.length_drop, List.length_take, zt_sh_len] at h
  have : min 184 zt_c0 - 163 = 21 := rfl
  rw [bt_21 h1, List.length_append, bt_A.2.1]
  omega
theorem bt_g3 {c : Nat} (hc : c < 184) : zt_M3.1[c]? = zt_M2.1[c]? := by
  have l2 := bt_l2
  unfold zt_M3
  dsimp only
  rw [List.getElem?_append_left (by rw [List.length_append, l2]; exact Nat.lt_of_lt_of_le hc (Nat.le_add_right _ _)), List.getElem?_append_left (by omega)]
theorem bt_gz {c k : Nat} (hc : c < 163) : zt_g c k = bt_g zt_M1.1 c k := by
  have e : zt_M2.1[c]? = zt_M1.1[c]? := by
    obtain ⟨N9, -, h1, -, -⟩ := bt_2
    rw [bt_21 h1, List.getElem?_append_left (by rw [bt_A.2.1]; exact hc)]
  unfold zt_g
  rw [bt_g3 (by omega), e]
  unfold bt_g zt_fg
  generalize zt_M1.1[c]? = x
  cases x with
  | none => rfl
  | some e => rcases e with ⟨t, n, f | f | f | f | f⟩ | ⟨ci, fs⟩ <;> rfl
theorem bt_zg145 : ∀ k < 13, zt_g 145 k = some (148 + k) := fun k hk => by
  have h := bt_A.2.2.2.2
  unfold bt_inA at h
  simp only [Bool.and_eq_true] at h
  rw [bt_gz (by decide)]
  exact of_decide_eq_true (bt_al_ok 13 h.2.2.2.2.2.2.1 k hk)
theorem bt_zg17 : ∀ k < 10, zt_g 17 k = some (18 + 10 * k) := fun k hk => by
  have h := bt_A.2.2.2.2
  unfold bt_inA at h
  simp only [Bool.and_eq_true] at h
  rw [bt_gz (by decide)]
  exact of_decide_eq_true (bt_al_ok 10 h.2.2.2.2.2.2.2 k hk)
