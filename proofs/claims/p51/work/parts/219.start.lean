/-! WHAT THE START HOLDS: the mini-machine's context from the claim's premises -/
/-- a row of words that stands, in its order, in a longer row -/
def sb : List Cond → List Cond → Bool
  | [], _ => true
  | _ :: _, [] => false
  | w :: ws, c :: cs => if w = c then sb ws cs else sb (w :: ws) cs
theorem sb_mem : ∀ (cs ws : List Cond), sb ws cs = true → ∀ w ∈ ws, w ∈ cs
  | _, [], _, w, hw => absurd hw List.not_mem_nil
  | [], v :: ws, h, _, _ => by simp [sb] at h
  | c :: cs, v :: ws, h, w, hw => by
    rw [sb] at h
    split at h
    · rename_i e
      rcases List.mem_cons.mp hw with rfl | hw
      · rw [e]; exact List.mem_cons_self
      · exact List.mem_cons_of_mem _ (sb_mem cs ws h w hw)
    · exact List.mem_cons_of_mem _ (sb_mem cs (v :: ws) h w hw)
def sb_t (z : String × Nat × String × List Int32) : Term := .string z.1 z.2.1
/-- what the start says of a String constant -/
def sb_c (z : String × Nat × String × List Int32) : List Cond := [Cond.exactly (sb_t z) "java/lang/String", Cond.eq (.field (sb_t z) "java/lang/String" "coder" "B") (.int 0), Cond.arrayOf (.field (sb_t z) "java/lang/String" "value" "[B") .byte, Cond.eq (.length (.field (sb_t z) "java/lang/String" "value" "[B")) (.int (Int32.ofNat z.2.2.2.length))] ++ (List.range z.2.2.2.length).map (fun j => Cond.eq (.elem (.field (sb_t z) "java/lang/String" "value" "[B") (.int (Int32.ofNat j))) (.int (z.2.2.2.getD j 0)))
def sb_n : List Cond := [Cond.eq (.static "java/lang/String" "COMPACT_STRINGS" "Z") (.int 1), Cond.isRef (.static "jdk/internal/util/Preconditions" "SIOOBE_FORMATTER" "Ljava/util/function/BiFunction;")]
set_option maxRecDepth 100000 in
theorem sb_okn : sb sb_n (flatC (Jvm.Cond.and given_1 narrow_1)) = true := by decide +kernel
set_option maxRecDepth 100000 in
theorem sb_oka : sb ((q_sc.take 10).flatMap sb_c) (flatC (Jvm.Cond.and given_1 narrow_1)) = true := by decide +kernel
set_option maxRecDepth 100000 in
theorem sb_okb : sb ((q_sc.drop 10).flatMap sb_c) (flatC (Jvm.Cond.and given_1 narrow_1)) = true := by decide +kernel
theorem sb_ok {z : String × Nat × String × List Int32} (hz : z ∈ q_sc) : ∀ w ∈ sb_c z, w ∈ flatC (Jvm.Cond.and given_1 narrow_1) := by
  intro w hw
  rw [← List.take_append_drop 10 q_sc] at hz
  rcases List.mem_append.mp hz with h | h
  · exact sb_mem _ _ sb_oka w (List.mem_flatMap.mpr ⟨_, h, hw⟩)
  · exact sb_mem _ _ sb_okb w (List.mem_flatMap.mpr ⟨_, h, hw⟩)
def sb_1 : List Cond := [Cond.initialized "java/lang/String", Cond.initialized "jdk/internal/util/Preconditions", Cond.arrayClass .byte, Cond.arrayClass .int, Cond.arrayClass .long, Cond.arrayOver (.object "FadingTrumps$Table"), Cond.arrayOver (.object "FadingTrumps$Trick"), Cond.laysStatic "java/lang/String" "COMPACT_STRINGS" "Z", Cond.laysStatic "jdk/internal/util/Preconditions" "SIOOBE_FORMATTER" "Ljava/util/function/BiFunction;"]
set_option maxRecDepth 100000 in
theorem sb_ok1 : sb sb_1 lw_tbl = true := by decide +kernel
set_option maxRecDepth 100000 in
theorem sb_ok3a : sb ((q_sc.take 10).map (fun z => Cond.stringRef z.1 z.2.1 z.2.2.1)) lw_tbl = true := by decide +kernel
set_option maxRecDepth 100000 in
theorem sb_ok3b : sb ((q_sc.drop 10).map (fun z => Cond.stringRef z.1 z.2.1 z.2.2.1)) lw_tbl = true := by decide +kernel
theorem sb_ok3 {z : String × Nat × String × List Int32} (hz : z ∈ q_sc) : Cond.stringRef z.1 z.2.1 z.2.2.1 ∈ lw_tbl := by
  rw [← List.take_append_drop 10 q_sc] at hz
  rcases List.mem_append.mp hz with h | h
  · exact sb_mem _ _ sb_ok3a _ (List.mem_map.mpr ⟨_, h, rfl⟩)
  · exact sb_mem _ _ sb_ok3b _ (List.mem_map.mpr ⟨_, h, rfl⟩)
section SB
variable {args : Array Value} {s : State} {A : Nat → Prop}
theorem sb_one {z : String × Nat × String × List Int32} (hN : z.2.2.2.length < 2147483648) (h : ∀ w ∈ sb_c z, w.before args s = true) (hA : ∀ a : Nat, a < s.heap.size → ¬ A a) : ∃ a : Nat, (sb_t z).eval args s none [] s = some (.ref a) ∧ ∃ av : Nat, va_O "java/lang/String" a A s s.heap ∧ va_OF "java/lang/String" "coder" "B" (.int 0) a A s s.heap ∧ va_OF "java/lang/String" "value" "[B" (.ref av) a A s s.heap ∧ va_T .byte av z.2.2.2.length (fun j => .int (z.2.2.2.getD j 0)) A s s.heap := by
  have h1 := h (Cond.exactly (sb_t z) "java/lang/String") (by simp [sb_c])
  have h2 := h (Cond.eq (.field (sb_t z) "java/lang/String" "coder" "B") (.int 0)) (by simp [sb_c])
  have h3 := h (Cond.arrayOf (.field (sb_t z) "java/lang/String" "value" "[B") .byte) (by simp [sb_c])
  have h4 := h (Cond.eq (.length (.field (sb_t z) "java/lang/String" "value" "[B")) (.int (Int32.ofNat z.2.2.2.length))) (by simp [sb_c])
  have h5 : ∀ j : Nat, j < z.2.2.2.length → (Cond.eq (.elem (.field (sb_t z) "java/lang/String" "value" "[B") (.int (Int32.ofNat j))) (.int (z.2.2.2.getD j 0))).before args s = true := fun j hj => h _ (List.mem_append_right _ (List.mem_map.mpr ⟨j, List.mem_range.mpr hj, rfl⟩))
  obtain ⟨a, c, cA, kA, q1, q2, q3, q4, q5, q6, -⟩ := Cond.exactly_spec (args := args) (first := s) (o := none) (s := s) (idx := []) (t := sb_t z) (cls := "java/lang/String") h1
  obtain ⟨t, ht, hT⟩ := va_Tof (f := fun j => .int (z.2.2.2.getD j 0)) (A := A) hN h3 (va_eqt h4) (fun j hj => va_eqt (h5 j hj)) hA
  exact ⟨a, q1, t, ⟨cA, q3, q5, by rw [q6]; exact q2, hA a (Array.getElem?_eq_some_iff.mp q3).1⟩, vk_OFof q1 (va_eqt h2) hA, vk_OFof q1 ht hA, hT⟩
theorem sb_all (h : (Jvm.Cond.and given_1 narrow_1).before args s = true) (hA : ∀ a : Nat, a < s.heap.size → ¬ A a) : ∃ ak : Nat → Nat, ∀ j : Nat, j < q_sc.length → (sb_t (q_sc.getD j default)).eval args s none [] s = some (.ref (ak j)) ∧ ∃ av : Nat, va_O "java/lang/String" (ak j) A s s.heap ∧ va_OF "java/lang/String" "coder" "B" (.int 0) (ak j) A s s.heap ∧ va_OF "java/lang/String" "value" "[B" (.ref av) (ak j) A s s.heap ∧ va_T .byte av (q_sc.getD j default).2.2.2.length (fun k => .int ((q_sc.getD j default).2.2.2.getD k 0)) A s s.heap := by
  have hf := flat_of_before _ h
  have key : ∀ j : Nat, ∃ a : Nat, j < q_sc.length → (sb_t (q_sc.getD j default)).eval args s none [] s = some (.ref a) ∧ ∃ av : Nat, va_O "java/lang/String" a A s s.heap ∧ va_OF "java/lang/String" "coder" "B" (.int 0) a A s s.heap ∧ va_OF "java/lang/String" "value" "[B" (.ref av) a A s s.heap ∧ va_T .byte av (q_sc.getD j default).2.2.2.length (fun k => .int ((q_sc.getD j default).2.2.2.getD k 0)) A s s.heap := by
    intro j
    by_cases hj : j < q_sc.length
    · have hz := st_at hj
      obtain ⟨a, h1, h2⟩ := sb_one (st_by _ hz).1 (fun w hw => hf w (sb_ok hz w hw)) hA
      exact ⟨a, fun _ => ⟨h1, h2⟩⟩
    · exact ⟨0, fun z => absurd z hj⟩
  obtain ⟨ak, hak⟩ := Classical.axiomOfChoice key
  exact ⟨ak, fun j hj => hak j hj⟩
theorem sb_arr {ty : FieldType} (h : (Cond.arrayClass ty).before args s = true) : ∃ cA : ClassId, ArrOfT s cA ty ∧ s.vm.findClass ("[" ++ ty.toString) = some cA := by
  obtain ⟨cA, kA, comp, h1, h2, h3⟩ := Cond.arrayClass_spec h
  exact ⟨cA, fun n z => ⟨fun k h => (by cases h), kA, h2, comp, h3⟩, h1⟩
theorem sb_ovr {C : String} (h : (Cond.arrayOver (.object C)).before args s = true) : ∃ cA : ClassId, ArrOfT s cA (.object C) ∧ va_RA s cA (.object C) := by
  obtain ⟨comp, cA, kA, h1, h2, h3, h4, h5⟩ := Cond.arrayOver_spec h
  exact ⟨cA, fun n z => ⟨fun k h => (by cases h), kA, h3, comp, h4⟩, kA, comp, h3, h4, h1, h5⟩
/-- the classes and the array classes are known -/
theorem sb_K (hts : ∀ w ∈ lw_tbl, w.before args s = true) : ∃ (D : va_G) (tc : Nat → ClassId), va_K D q_cl (q_tys tc) s := by
  have hts' : ∀ w ∈ q_Tw, w.before args s = true := fun w hw => hts w (q_Tw_tbl hw)
  have key : ∀ k : Nat, ∃ q : ClassId × (Nat → Nat), k < 12 → u_Kn s (q_cn k) (q_T k) (q_N k) q.1 q.2 := by
    intro k
    by_cases hk : k < 12
    · obtain ⟨cC, iS, h⟩ := u_known hts' (q_in_ok k hk) (hts' _ (q_ins_ok k hk).1)
      exact ⟨(cC, iS), fun _ => h⟩
    · exact ⟨(0, fun _ => 0), fun z => absurd z hk⟩
  obtain ⟨Dq, hD⟩ := Classical.axiomOfChoice key
  have w1 := sb_mem _ _ sb_ok1
  obtain ⟨c0, a0, n0⟩ := sb_arr (ty := .int) (hts _ (w1 _ (by simp [sb_1])))
  obtain ⟨c1, a1, n1⟩ := sb_arr (ty := .long) (hts _ (w1 _ (by simp [sb_1])))
  obtain ⟨c2, a2, n2⟩ := sb_arr (ty := .byte) (hts _ (w1 _ (by simp [sb_1])))
  obtain ⟨c5, a5, n5⟩ := sb_ovr (C := "FadingTrumps$Table") (hts _ (w1 _ (by simp [sb_1])))
  obtain ⟨c6, a6, n6⟩ := sb_ovr (C := "FadingTrumps$Trick") (hts _ (w1 _ (by simp [sb_1])))
  refine ⟨(fun k => (Dq k).1, fun k => (Dq k).2), fun t => match t with | 0 => c0 | 1 => c1 | 2 => c2 | 3 => c2 | 4 => c2 | 5 => c5 | _ => c6, fun c q hq => ?_, fun k q hq => ?_⟩
  · have hc : c < 12 := by
      have := (List.getElem?_eq_some_iff.mp hq).1
      exact Nat.lt_of_lt_of_le this (by decide)
    rw [q_cl_get hc] at hq
    cases hq
    exact hD c hc
  · have hk : k < 7 := by
      have := (List.getElem?_eq_some_iff.mp hq).1
      simpa [q_tys] using this
    rw [q_tys_get hk] at hq
    cases hq
    match k, hk with
    | 0, _ => exact ⟨a0, n0⟩
    | 1, _ => exact ⟨a1, n1⟩
    | 2, _ => exact ⟨a2, n2⟩
    | 3, _ => exact ⟨a2, n2⟩
    | 4, _ => exact ⟨a2, n2⟩
    | 5, _ => exact ⟨a5, n5⟩
    | 6, _ => exact ⟨a6, n6⟩
    | n + 7, h => exact absurd h (by omega)
set_option maxHeartbeats 1000000 in
theorem sb_Cx {b L : Nat} {xs : Nat → Int32} (hts : ∀ w ∈ lw_tbl, w.before args s = true) (hX : va_X b L xs s s.heap) (hbl : b < s.heap.size) (h : (Jvm.Cond.and given_1 narrow_1).before args s = true) : ∃ (D : va_G) (tc : Nat → ClassId) (ad : Nat → Nat), q_Cx D tc (fun q : Nat => s.heap.size ≤ q) ad (L, xs) s ∧ ad q_big = b := by
  have hA : ∀ a : Nat, a < s.heap.size → ¬ (fun q : Nat => s.heap.size ≤ q) a := fun a ha => Nat.not_le.mpr ha
  obtain ⟨D, tc, hK⟩ := sb_K hts
  obtain ⟨ak, hak⟩ := sb_all h hA
  have hf := flat_of_before _ h
  have wn : ∀ w ∈ sb_n, w.before args s = true := fun w hw => hf w (sb_mem _ _ sb_okn w hw)
  have w1 : ∀ w ∈ sb_1, w.before args s = true := fun w hw => hts w (sb_mem _ _ sb_ok1 w hw)
  have w3 : ∀ z ∈ q_sc, (Cond.stringRef z.1 z.2.1 z.2.2.1).before args s = true := fun z hz => hts _ (sb_ok3 hz)
  have adb : (fun i : Nat => if i = q_big then b else ak (i - q_big - 1)) q_big = b := if_pos rfl
  have adj : ∀ j : Nat, (fun i : Nat => if i = q_big then b else ak (i - q_big - 1)) (q_big + 1 + j) = ak j := fun j => by
    dsimp only
    rw [if_neg (by omega), show q_big + 1 + j - q_big - 1 = j by omega]
  refine ⟨D, tc, fun i => if i = q_big then b else ak (i - q_big - 1), ⟨hK, fun j hj => ?_, ?_, ⟨?_, ?_⟩, fun q hq => hq, ⟨fun j hj => ?_, ?_, ?_⟩⟩, adb⟩
  · rw [adj]
    exact vk_R.of (w3 _ (st_at hj)) (hak j hj).1
  · rw [adb]
    exact ⟨hX, hbl, hA b hbl⟩
  · exact va_AO.of (w1 _ (by simp [sb_1]))
  · exact va_AO.of (w1 _ (by simp [sb_1]))
  · rw [adj]
    exact (hak j hj).2
  · exact va_Zof (w1 _ (by simp [sb_1])) (w1 _ (by simp [sb_1])) (va_eqt (wn _ (by simp [sb_n]))) hA
  · exact va_Zqof (w1 _ (by simp [sb_1])) (w1 _ (by simp [sb_1])) (wn _ (by simp [sb_n])) hA
end SB
