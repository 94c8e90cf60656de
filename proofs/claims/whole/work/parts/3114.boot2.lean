/-! THE LAW FROM ITS ENTRY: the invariant behind the constructors, and what follows -/
section BU
variable {X : q_X}
set_option maxRecDepth 10000 in
theorem bt_r40 : ∀ n, n < 52 → -1 ≤ bt_row.getD (40 + n) 0 ∧ bt_row.getD (40 + n) 0 < 2 ∧ (36 ≤ n → bt_row.getD (40 + n) 0 = -1) := by decide +kernel
theorem bt_r24 : ∀ n, n < 16 → bt_row.getD (24 + n) 0 = 0 := by decide +kernel
theorem bt_r16 : ∀ n, n < 4 → bt_row.getD (16 + n) 0 = -1 ∧ bt_row.getD (20 + n) 0 = 0 := by decide +kernel
theorem bt_cnt : ∀ p : Nat, p < 2 → cn (fun c => decide (bt_row.getD (40 + c.toNat) 0 = (p : Int))) 0 52 = 5 := by decide +kernel
theorem bt_bits : ∀ p : Nat, p < 4 → ∀ c : Nat, c < 64 → hb (bt_hand.getD p 0) (c : Int) = decide ((c : Int) < 36 ∧ bt_row.getD (40 + c) 0 = (p : Int)) := by decide +kernel
set_option maxHeartbeats 1000000 in
theorem bt_Inv {M M1 N9 : List va_E} (hA : bt_inA M1 = true) (hB : bt_inB N9 = true) (f1 : ∀ c, c < 163 → M[c]? = M1[c]?) (f9 : ∀ c, M[163 + c]? = N9[c]?) : Inv 0 (bt_S M) := by
  have i1 : ∀ c j, c < 163 → bt_i M c j = bt_i M1 c j := fun c j hc => by unfold bt_i; rw [f1 c hc]
  have i9 : ∀ c j, bt_i M (163 + c) j = bt_i N9 c j := fun c j => by unfold bt_i; rw [f9 c]
  have k1 : ∀ c j, c < 163 → bt_l M c j = bt_l M1 c j := fun c j hc => by unfold bt_l; rw [f1 c hc]
  unfold bt_inA at hA
  unfold bt_inB at hB
  simp only [Bool.and_eq_true, decide_eq_true_eq] at hA hB
  obtain ⟨r2, r3, r4, ⟨r5, r5'⟩, r6, r7, -, -⟩ := hA
  obtain ⟨r8, r1⟩ := hB
  have ew : ∀ i : Int, 0 ≤ i → i < 92 → (bt_S M).1 164 i = bt_row.getD i.toNat 0 := fun i h0 h1 => (i9 1 i.toNat).trans (of_decide_eq_true (bt_al_ok 92 r1 i.toNat (by omega)))
  have et : ∀ j : Nat, j < 9 → bt_i M 7 j = bt_trick.getD j 0 := fun j hj => (i1 7 j (by decide)).trans (of_decide_eq_true (bt_al_ok 9 r3 j hj))
  have eb : ∀ j : Nat, j < 8 → bt_i M 6 (11 + j) = bt_tab.getD j 0 := fun j hj => (i1 6 _ (by decide)).trans (of_decide_eq_true (bt_al_ok 8 r4 j hj))
  have ep : ∀ p : Nat, p < 4 → bt_l M 8 p = bt_hand.getD p 0 ∧ bt_i M 9 p = -1 ∧ bt_i M 10 p = 0 ∧ bt_i M 11 p = 0 ∧ bt_i M 12 p = 0 := fun j hj => by
    rw [k1 8 j (by decide), i1 9 j (by decide), i1 10 j (by decide), i1 11 j (by decide), i1 12 j (by decide)]
    exact of_decide_eq_true (bt_al_ok 4 r2 j hj)
  have em : ∀ p : Nat, p < 16384 → bt_l M 147 p = 0 := fun j hj => (k1 147 j (by decide)).trans (of_decide_eq_true (bt_al_ok 16384 r7 j hj))
  have sa : ∀ z ∈ bt_sA, z.1 < 163 → bt_i M z.1 z.2.1 = z.2.2 := fun z hz hc => (i1 _ _ hc).trans (of_decide_eq_true (List.all_eq_true.mp r6 z hz))
  have sb : ∀ z ∈ bt_sB, bt_i M (163 + z.1) z.2.1 = z.2.2 := fun z hz => (i9 _ _).trans (of_decide_eq_true (List.all_eq_true.mp r8 z hz))
  have r5 : bt_l M 6 10 = 0 := (k1 6 10 (by decide)).trans r5
  have r5' : bt_l M 144 5 = 0 := (k1 144 5 (by decide)).trans r5'
  obtain ⟨w, hw⟩ : ∃ w, w = (bt_S M).1 164 := ⟨_, rfl⟩
  rw [← hw] at ew
  have e0 : w 0 = 9 := ew 0 (by omega) (by omega)
  have e1 : w 1 = 2 := ew 1 (by omega) (by omega)
  have e2 : w 2 = 5 := ew 2 (by omega) (by omega)
  have e3 : w 3 = 1 := ew 3 (by omega) (by omega)
  have e4 : w 4 = -1 := ew 4 (by omega) (by omega)
  have e5 : w 5 = 10 := ew 5 (by omega) (by omega)
  have e6 : w 6 = 2 := ew 6 (by omega) (by omega)
  have e7 : w 7 = 0 := ew 7 (by omega) (by omega)
  have e8 : w 8 = 0 := ew 8 (by omega) (by omega)
  have e9 : w 9 = 0 := ew 9 (by omega) (by omega)
  have e10 : w 10 = -1 := ew 10 (by omega) (by omega)
  have e11 : w 11 = 0 := ew 11 (by omega) (by omega)
  have e12 : w 12 = 0 := ew 12 (by omega) (by omega)
  have e13 : w 13 = 0 := ew 13 (by omega) (by omega)
  have e14 : w 14 = 0 := ew 14 (by omega) (by omega)
  have e16 : ∀ p : Int, 0 ≤ p → p < 4 → w (16 + p) = -1 ∧ w (20 + p) = 0 := fun p h0 h1 => by
    have g := bt_r16 p.toNat (by omega)
    rw [ew _ (by omega) (by omega), ew _ (by omega) (by omega), show (16 + p).toNat = 16 + p.toNat by omega, show (20 + p).toNat = 20 + p.toNat by omega]
    exact g
  have e24 : ∀ k : Int, 0 ≤ k → k < 16 → w (24 + k) = 0 := fun k h0 h1 => by
    rw [ew _ (by omega) (by omega), show (24 + k).toNat = 24 + k.toNat by omega]
    exact bt_r24 k.toNat (by omega)
  have e40 : ∀ c : Int, 0 ≤ c → c < 52 → -1 ≤ w (40 + c) ∧ w (40 + c) < 2 ∧ (36 ≤ c → w (40 + c) = -1) := fun c h0 h1 => by
    have g := bt_r40 c.toNat (by omega)
    rw [ew _ (by omega) (by omega), show (40 + c).toNat = 40 + c.toNat by omega]
    exact ⟨g.1, g.2.1, fun z => g.2.2 (by omega)⟩
  have ri : RI w := RI.of0 (by rw [e0, e1, e2, e3, e4, e5, e6, e7, e8, e9, e10, e11]; decide) e12 e13 (by omega) (fun p h0 h1 => by have := e16 p h0 h1; omega) (fun p h0 h1 => by have := e16 p h0 h1; omega) (fun k h0 h1 => by have := e24 k h0 h1; omega) (fun c h0 h1 => by rw [e1, e0]; exact e40 c h0 h1) (fun p h0 h1 => by
    rw [e2]
    rw [e1] at h1
    unfold wHc
    have g := bt_cnt p.toNat (by omega)
    rw [show ((p.toNat : Nat) : Int) = p by omega] at g
    rw [← g]
    exact cn_congr 52 0 (fun c c0 c1 => by
      unfold wHd
      rw [ew _ (by omega) (by omega), show (40 + c).toNat = 40 + c.toNat by omega]))
  have tb : TB (bt_S M) 6 w := by
    refine TB.of0 e12 e13 (by omega) ?_ (fun p c h0 h1 c0 c1 => ?_) (fun p h0 h1 => ?_) r5 ?_
    · rw [e9, e10, e11]
      exact ⟨et 0 (by omega), et 1 (by omega), et 2 (by omega), et 3 (by omega), et 4 (by omega), et 5 (by omega), et 6 (by omega), et 7 (by omega), et 8 (by omega)⟩
    · show hb (bt_l M 8 p.toNat) c = _
      have g := bt_bits p.toNat (by omega) c.toNat (by omega)
      rw [show ((p.toNat : Nat) : Int) = p by omega, show ((c.toNat : Nat) : Int) = c by omega] at g
      rw [(ep p.toNat (by omega)).1, g, e0]
      by_cases c36 : c < 36
      · unfold wHd
        rw [ew _ (by omega) (by omega), show (40 + c).toNat = 40 + c.toNat by omega]
        rfl
      · rw [decide_eq_false (fun z => c36 z.1), decide_eq_false (fun z => c36 (by have := z.1; omega))]
    · have g := ep p.toNat (by omega)
      have g2 := e16 p h0 h1
      have lk : wLk w p = 0 := by
        unfold wLk
        rw [show 24 + 4 * p + 1 = 24 + (4 * p + 1) by omega, show 24 + 4 * p + 2 = 24 + (4 * p + 2) by omega, show 24 + 4 * p + 3 = 24 + (4 * p + 3) by omega, e24 _ (by omega) (by omega), e24 _ (by omega) (by omega), e24 _ (by omega) (by omega), e24 _ (by omega) (by omega)]
        rfl
      rw [g2.1, g2.2, lk]
      exact g.2
    · rw [e3, e6, e7, e4, e8, e14]
      exact ⟨eb 0 (by omega), eb 1 (by omega), eb 2 (by omega), eb 3 (by omega), eb 4 (by omega), eb 5 (by omega), eb 6 (by omega), eb 7 (by omega)⟩
  have su : SUw (bt_S M) 3 w := by
    unfold SUw
    rw [e0, e1, e2, e5]
    exact ⟨sa (3, 0, 9) (by decide) (by decide), sa (3, 1, 2) (by decide) (by decide), sa (3, 2, 5) (by decide) (by decide), sa (3, 3, 10) (by decide) (by decide)⟩
  have s5 : (bt_S M).1 163 5 = 0 := sb (0, 5, 0) (by decide)
  have s6 : (bt_S M).1 163 6 = 0 := sb (0, 6, 0) (by decide)
  have s9 : (bt_S M).1 163 9 = 0 := sb (0, 9, 0) (by decide)
  have s17 : (bt_S M).1 163 17 = -1 := sb (0, 17, -1) (by decide)
  have s31 : (bt_S M).1 163 31 = 0 := sb (0, 31, 0) (by decide)
  have t1 : (bt_S M).1 16 1 = 0 := sa (16, 1, 0) (by decide) (by decide)
  have t2 : (bt_S M).1 16 2 = 0 := sa (16, 2, 0) (by decide) (by decide)
  have u1 : (bt_S M).1 0 1 = 0 := sa (0, 1, 0) (by decide) (by decide)
  have u8 : (bt_S M).1 0 8 = 0 := sa (0, 8, 0) (by decide) (by decide)
  have u7 : (bt_S M).1 2 7 = -1 := sa (2, 7, -1) (by decide) (by decide)
  have u161 : (bt_S M).1 161 1 = 0 := sa (161, 1, 0) (by decide) (by decide)
  have l5 : (bt_S M).2.1 144 5 = 0 := r5'
  refine ⟨⟨by rw [← hw]; exact ri, by rw [← hw]; exact tb, by rw [← hw]; exact su⟩, ?_, ⟨by omega, by omega, by omega, fun i h0 h1 => by omega⟩, ⟨by omega, Or.inl s6⟩, ⟨by omega, by omega, fun j h0 h1 => by omega⟩, ⟨by omega, by rw [s17]; decide⟩, ⟨by omega, by omega, fun j h0 h1 => by omega⟩, ⟨by rw [l5]; decide, fun p h0 h1 => ?_⟩, Int.le_refl 0⟩
  · rw [← hw]
    exact ⟨by omega, fun p h0 h1 => by have := e16 p h0 h1; omega⟩
  · show (zt_rs (bt_l M 147 p.toNat) 20).toInt ≤ _
    rw [em p.toNat (by omega), l5]
    decide
theorem bt_M3 : zt_M (bt_S zt_M2.1) = zt_M3 ∧ Inv 0 (bt_S zt_M2.1) := by
  have l2 := bt_l2
  obtain ⟨N9, -, h1, hB, hC⟩ := bt_2
  have hA := bt_A.2.2.2.1
  have l1 := bt_A.2.1
  have e2 : zt_M2.2 = (184, 25726) := by rw [h1]
  have f1 : ∀ c, c < 163 → zt_M2.1[c]? = zt_M1.1[c]? := fun c hc => by
    rw [bt_21 h1, List.getElem?_append_left (by rw [l1]; exact hc)]
  have f9 : ∀ c, zt_M2.1[163 + c]? = N9[c]? := fun c => by
    rw [bt_21 h1, List.getElem?_append_right (by rw [l1]; exact Nat.le_add_right _ _), l1, Nat.add_sub_cancel_left]
  refine ⟨?_, bt_Inv bt_A.2.2.2.2 hC f1 f9⟩
  have hH := bt_H (M := zt_M2.1) l2 (fun c e k hc he hk => by
    by_cases h : c < 163
    · rw [f1 c h] at he
      exact bt_at _ _ hA c e k he (by rw [List.getElem?_take, if_pos h]; exact hk)
    · obtain ⟨c', rfl⟩ : ∃ c', c = 163 + c' := ⟨c - 163, by omega⟩
      rw [f9] at he
      refine bt_at _ _ hB c' e k he ?_
      rw [List.getElem?_drop, List.getElem?_take, if_pos hc]
      exact hk) (fun c t n f hf => by
    have hc : c < 184 := by
      have := (List.getElem?_eq_some_iff.mp hf).1
      omega
    unfold zt_g
    rw [bt_g3 hc, hf]
    rfl)
  unfold zt_M
  rw [hH]
  unfold zt_M3
  rw [e2]
  rfl
theorem zy_116 : (q_row 116).2.2 = (1, none, [], 2, 10, q_k116) := rfl
theorem zy_175 : (q_row 175).2.2 = (1, none, [], 2, 11, q_k175) := rfl
theorem bt_head0 {fu : Nat} {M1 M2 : q_M} {o : q_O × q_M} (l1 : M1.1.length = 163) (l2 : M2.1.length = 184) (h1 : q_ex X fu 100 116 0 [(0, .ref 0)] [] ([zt_ob 10], 1, q_N 10) = some (.inl none, M1)) (h2 : q_ex X fu 100 175 0 [(0, .ref 163)] [] (M1.1 ++ [zt_ob 11], M1.2.1 + 1, M1.2.2 + q_N 11) = some (.inl none, M2)) (h : zt_Ex X 101 351 28 [(0, .ref q_big), (1, .ref 0), (2, .ref 163), (3, .ref 184), (4, .ref 185), (5, .int (Int32.ofInt 0))] [] ((M2.1 ++ [.inl (1, 1, .inr (.inl (fun _ => 0)))]) ++ [.inl (4, 1, .inr (.inr (.inr (.inl (fun _ => 0)))))], M2.2.1 + 1 + 1, M2.2.2 + 1 + 1) o) : zt_Ex X 101 351 0 [(0, .ref q_big)] [] ([], 0, 0) o := by
  refine bt_new zy_351 (show q_ins q_k351 0 = some (.new 8, 10, 0) from rfl) (by decide) (by decide) (r := 0) rfl (M' := ([zt_ob 10], 1, q_N 10)) rfl ?_
  refine zt_dup zy_351 (show q_ins q_k351 3 = some (.dup, 0, 0) from rfl) rfl ?_
  refine bt_call (as := [.ref 0]) (rest := [.ref 0]) (v := none) (M' := M1) zy_351 (show q_ins q_k351 4 = some (.invokespecial 121, 116, 0) from rfl) rfl (fun _ => rfl) rfl rfl zy_116 (by decide) ⟨by rw [q_mt_len]; decide, by decide⟩ rfl (by decide) (by decide) rfl h1 (by decide) ?_
  refine zt_astore_n zy_351 (show q_ins q_k351 7 = some (.astore_n 1, 0, 0) from rfl) (by decide) ?_
  refine bt_new zy_351 (show q_ins q_k351 8 = some (.new 122, 11, 0) from rfl) (by decide) (by rw [l1]; decide) (r := 163) l1.symm rfl ?_
  refine zt_dup zy_351 (show q_ins q_k351 11 = some (.dup, 0, 0) from rfl) rfl ?_
  refine bt_call (as := [.ref 163]) (rest := [.ref 163]) (v := none) (M' := M2) zy_351 (show q_ins q_k351 12 = some (.invokespecial 124, 175, 0) from rfl) rfl (fun _ => rfl) rfl rfl zy_175 (by decide) ⟨by rw [q_mt_len]; decide, by decide⟩ rfl (by decide) (by decide) rfl h2 (by decide) ?_
  refine zt_astore_n zy_351 (show q_ins q_k351 15 = some (.astore_n 2, 0, 0) from rfl) (by decide) ?_
  refine zt_iconst zy_351 (show q_ins q_k351 16 = some (.iconst 1, 0, 0) from rfl) ?_
  refine bt_na zy_351 (show q_ins q_k351 17 = some (.newarray .long, 0, 0) from rfl) rfl (by rw [l2]; decide) (r := 184) l2.symm rfl ?_
  refine zt_astore_n zy_351 (show q_ins q_k351 19 = some (.astore_n 3, 0, 0) from rfl) (by decide) ?_
  refine zt_iconst zy_351 (show q_ins q_k351 20 = some (.iconst 1, 0, 0) from rfl) ?_
  refine bt_na zy_351 (show q_ins q_k351 21 = some (.newarray .double, 0, 0) from rfl) rfl (by dsimp only; rw [List.length_append, l2]; decide) (r := 185) (by dsimp only; rw [List.length_append, l2]; rfl) rfl ?_
  refine zt_astore zy_351 (show q_ins q_k351 23 = some (.astore 4, 0, 0) from rfl) (by decide) ?_
  refine zt_iconst zy_351 (show q_ins q_k351 25 = some (.iconst 0, 0, 0) from rfl) ?_
  refine zt_istore zy_351 (show q_ins q_k351 26 = some (.istore 5, 0, 0) from rfl) (by decide) ?_
  refine zt_wk ?_ h
  intro q hq
  simp only [List.mem_cons, List.not_mem_nil, or_false] at hq
  rcases hq with rfl | rfl | rfl | rfl | rfl | rfl <;> rfl
theorem bt_head {o : q_O × q_M} (h : zt_Ex X 101 351 28 [(0, .ref q_big), (1, .ref 0), (2, .ref 163), (3, .ref 184), (4, .ref 185), (5, .int (Int32.ofInt 0))] [] zt_M3 o) : zt_Ex X 101 351 0 [(0, .ref q_big)] [] ([], 0, 0) o := by
  obtain ⟨N9, h2, -⟩ := bt_2
  unfold zt_M3 at h
  exact bt_head0 bt_A.2.1 bt_l2 (bt_A.1 X) (h2 X) h
/-- the law, on every script: it answers 1, and what it made is bounded -/
theorem bt_all (hX : X.1 ≤ 3072) : ∃ (F : Nat) (τ : zt_S), q_ex X F 101 351 0 [(0, .ref q_big)] [] ([], 0, 0) = some (.inl (some (.int 1)), zt_M τ) ∧ τ.2.2.2 ≤ 1001 := by
  have xl : (X.1 : Int) ≤ 3072 := by omega
  obtain ⟨τ, k, g1, g2, g3⟩ := law_28i (X := X) (by omega) 600 1000 0 0 (bt_S zt_M2.1) (by omega) (by omega) (by omega) (by omega) (by omega) (by omega) bt_M3.2
  have h := S_L_law_28 (X := X) (by omega) 1000 0 _ _ g3
  rw [bt_M3.1] at h
  obtain ⟨f, hf⟩ := bt_head (zt_dm (by decide) h)
  refine ⟨f, τ, hf f 101 _ (Nat.le_refl _) (Nat.le_refl _) (zt_cov_cons rfl zt_cov_nil), ?_⟩
  have := g1.2.2.2.2.2.2.2.2
  omega
end BU
