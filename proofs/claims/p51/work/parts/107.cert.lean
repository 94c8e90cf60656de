theorem q_all_split {bytes : ByteArray} {o : Nat} {L : List (Nat × Instr × Nat × Nat)} {n : Nat} (h1 : (L.take n).all (q_xe bytes o) = true) (h2 : (L.drop n).all (q_xe bytes o) = true) : L.all (q_xe bytes o) = true := by
  rw [← List.take_append_drop n L, List.all_append, h1, h2]
  rfl
theorem q_xk181 : q_k181.all (q_xe method_13_code 11) = true := by
  refine q_all_split (n := 50) ?_ ?_
  · exact q_xp181_0
  refine q_all_split (n := 50) ?_ ?_
  · exact q_xp181_1
  rw [List.drop_drop]
  refine q_all_split (n := 50) ?_ ?_
  · exact q_xp181_2
  rw [List.drop_drop]
  refine q_all_split (n := 50) ?_ ?_
  · exact q_xp181_3
  rw [List.drop_drop]
  refine q_all_split (n := 50) ?_ ?_
  · exact q_xp181_4
  rw [List.drop_drop]
  have h := q_xp181_5
  rwa [List.take_of_length_le (by decide +kernel)] at h
theorem q_xk182 : q_k182.all (q_xe method_14_code 11) = true := by
  refine q_all_split (n := 50) ?_ ?_
  · exact q_xp182_0
  refine q_all_split (n := 50) ?_ ?_
  · exact q_xp182_1
  rw [List.drop_drop]
  refine q_all_split (n := 50) ?_ ?_
  · exact q_xp182_2
  rw [List.drop_drop]
  refine q_all_split (n := 50) ?_ ?_
  · exact q_xp182_3
  rw [List.drop_drop]
  have h := q_xp182_4
  rwa [List.take_of_length_le (by decide +kernel)] at h
theorem q_xk183 : q_k183.all (q_xe method_15_code 11) = true := by
  refine q_all_split (n := 50) ?_ ?_
  · exact q_xp183_0
  refine q_all_split (n := 50) ?_ ?_
  · exact q_xp183_1
  rw [List.drop_drop]
  refine q_all_split (n := 50) ?_ ?_
  · exact q_xp183_2
  rw [List.drop_drop]
  refine q_all_split (n := 50) ?_ ?_
  · exact q_xp183_3
  rw [List.drop_drop]
  refine q_all_split (n := 50) ?_ ?_
  · exact q_xp183_4
  rw [List.drop_drop]
  have h := q_xp183_5
  rwa [List.take_of_length_le (by decide +kernel)] at h
theorem q_xok9 : ∀ (j : Nat) (z : q_MT), q_m9[j]? = some z → q_xok z = true := by
  intro j z hz
  by_cases h0 : j < 1
  · exact List.all_eq_true.mp q_xok9a z (List.mem_of_getElem? (i := j) (by rw [List.getElem?_take, if_pos h0]; exact hz))
  · by_cases h4 : 4 ≤ j
    · exact List.all_eq_true.mp q_xok9b z (List.mem_of_getElem? (i := j - 4) (by rw [List.getElem?_drop, show 4 + (j - 4) = j by omega]; exact hz))
    · obtain h | h | h : j = 1 ∨ j = 2 ∨ j = 3 := by omega
      · subst h
        cases hz
        exact q_xk181
      · subst h
        cases hz
        exact q_xk182
      · subst h
        cases hz
        exact q_xk183
theorem q_xlaw : q_k351.all (q_xe code 11) = true := by
  exact (by have h := q_xl0; rw [List.drop_zero] at h; rwa [List.take_of_length_le (by decide +kernel)] at h)
theorem q_xok17 : ∀ (j : Nat) (z : q_MT), q_m17[j]? = some z → q_xok z = true := by
  intro j z hz
  rcases Nat.lt_trichotomy j 11 with h | h | h
  · exact List.all_eq_true.mp q_xok17a z (List.mem_of_getElem? (i := j) (by rw [List.getElem?_take, if_pos h]; exact hz))
  · subst h
    cases hz
    exact q_xlaw
  · exact List.all_eq_true.mp q_xok17b z (List.mem_of_getElem? (i := j - 12) (by rw [List.getElem?_drop, show 12 + (j - 12) = j by omega]; exact hz))
theorem q_xok_all : ∀ (j : Nat) (z : q_MT), q_mt[j]? = some z → q_xok z = true := q_rows (P := fun _ z => q_xok z = true) (fun j z hz => List.all_eq_true.mp q_xok0 z (List.mem_of_getElem? hz)) (fun j z hz => List.all_eq_true.mp q_xok1 z (List.mem_of_getElem? hz)) (fun j z hz => List.all_eq_true.mp q_xok2 z (List.mem_of_getElem? hz)) (fun j z hz => List.all_eq_true.mp q_xok3 z (List.mem_of_getElem? hz)) (fun j z hz => List.all_eq_true.mp q_xok4 z (List.mem_of_getElem? hz)) (fun j z hz => List.all_eq_true.mp q_xok5 z (List.mem_of_getElem? hz)) (fun j z hz => List.all_eq_true.mp q_xok6 z (List.mem_of_getElem? hz)) (fun j z hz => List.all_eq_true.mp q_xok7 z (List.mem_of_getElem? hz)) (fun j z hz => List.all_eq_true.mp q_xok8 z (List.mem_of_getElem? hz)) q_xok9 (fun j z hz => List.all_eq_true.mp q_xok10 z (List.mem_of_getElem? hz)) (fun j z hz => List.all_eq_true.mp q_xok11 z (List.mem_of_getElem? hz)) (fun j z hz => List.all_eq_true.mp q_xok12 z (List.mem_of_getElem? hz)) (fun j z hz => List.all_eq_true.mp q_xok13 z (List.mem_of_getElem? hz)) (fun j z hz => List.all_eq_true.mp q_xok14 z (List.mem_of_getElem? hz)) (fun j z hz => List.all_eq_true.mp q_xok15 z (List.mem_of_getElem? hz)) (fun j z hz => List.all_eq_true.mp q_xok16 z (List.mem_of_getElem? hz)) q_xok17
