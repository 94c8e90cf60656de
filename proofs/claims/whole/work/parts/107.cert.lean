theorem q_all_split {bytes : ByteArray} {o : Nat} {L : List (Nat × Instr × Nat × Nat)} {n : Nat} (h1 : (L.take n).all (q_xe bytes o) = true) (h2 : (L.drop n).all (q_xe bytes o) = true) : L.all (q_xe bytes o) = true := by
  rw [← List.take_append_drop n L, List.all_append, h1, h2]
  rfl
theorem q_xl14 : ((q_k351.drop 1400).take 100).all (q_xe code 13) = true := q_all_split q_xl14a (q_all_split q_xl14b (q_all_split q_xl14c q_xl14d))
theorem q_xl15 : ((q_k351.drop 1500).take 100).all (q_xe code 13) = true := q_all_split q_xl15a (q_all_split q_xl15b (q_all_split q_xl15c q_xl15d))
theorem q_xlaw : q_k351.all (q_xe code 13) = true := by
  refine q_all_split (n := 100) ?_ ?_
  · exact q_xl0
  skip
  refine q_all_split (n := 100) ?_ ?_
  · exact q_xl1
  rw [List.drop_drop]
  refine q_all_split (n := 100) ?_ ?_
  · exact q_xl2
  rw [List.drop_drop]
  refine q_all_split (n := 100) ?_ ?_
  · exact q_xl3
  rw [List.drop_drop]
  refine q_all_split (n := 100) ?_ ?_
  · exact q_xl4
  rw [List.drop_drop]
  refine q_all_split (n := 100) ?_ ?_
  · exact q_xl5
  rw [List.drop_drop]
  refine q_all_split (n := 100) ?_ ?_
  · exact q_xl6
  rw [List.drop_drop]
  refine q_all_split (n := 100) ?_ ?_
  · exact q_xl7
  rw [List.drop_drop]
  refine q_all_split (n := 100) ?_ ?_
  · exact q_xl8
  rw [List.drop_drop]
  refine q_all_split (n := 100) ?_ ?_
  · exact q_xl9
  rw [List.drop_drop]
  refine q_all_split (n := 100) ?_ ?_
  · exact q_xl10
  rw [List.drop_drop]
  refine q_all_split (n := 100) ?_ ?_
  · exact q_xl11
  rw [List.drop_drop]
  refine q_all_split (n := 100) ?_ ?_
  · exact q_xl12
  rw [List.drop_drop]
  refine q_all_split (n := 100) ?_ ?_
  · exact q_xl13
  rw [List.drop_drop]
  refine q_all_split (n := 100) ?_ ?_
  · exact q_xl14
  rw [List.drop_drop]
  exact (by have h := q_xl15; rwa [List.take_of_length_le (by decide +kernel)] at h)
theorem q_xok17 : ∀ (j : Nat) (z : q_MT), q_m17[j]? = some z → q_xok z = true := by
  intro j z hz
  rcases Nat.lt_trichotomy j 11 with h | h | h
  · exact List.all_eq_true.mp q_xok17a z (List.mem_of_getElem? (i := j) (by rw [List.getElem?_take, if_pos h]; exact hz))
  · subst h
    cases hz
    exact q_xlaw
  · exact List.all_eq_true.mp q_xok17b z (List.mem_of_getElem? (i := j - 12) (by rw [List.getElem?_drop, show 12 + (j - 12) = j by omega]; exact hz))
theorem q_xok_all : ∀ (j : Nat) (z : q_MT), q_mt[j]? = some z → q_xok z = true := q_rows (P := fun _ z => q_xok z = true) (fun j z hz => List.all_eq_true.mp q_xok0 z (List.mem_of_getElem? hz)) (fun j z hz => List.all_eq_true.mp q_xok1 z (List.mem_of_getElem? hz)) (fun j z hz => List.all_eq_true.mp q_xok2 z (List.mem_of_getElem? hz)) (fun j z hz => List.all_eq_true.mp q_xok3 z (List.mem_of_getElem? hz)) (fun j z hz => List.all_eq_true.mp q_xok4 z (List.mem_of_getElem? hz)) (fun j z hz => List.all_eq_true.mp q_xok5 z (List.mem_of_getElem? hz)) (fun j z hz => List.all_eq_true.mp q_xok6 z (List.mem_of_getElem? hz)) (fun j z hz => List.all_eq_true.mp q_xok7 z (List.mem_of_getElem? hz)) (fun j z hz => List.all_eq_true.mp q_xok8 z (List.mem_of_getElem? hz)) (fun j z hz => List.all_eq_true.mp q_xok9 z (List.mem_of_getElem? hz)) (fun j z hz => List.all_eq_true.mp q_xok10 z (List.mem_of_getElem? hz)) (fun j z hz => List.all_eq_true.mp q_xok11 z (List.mem_of_getElem? hz)) (fun j z hz => List.all_eq_true.mp q_xok12 z (List.mem_of_getElem? hz)) (fun j z hz => List.all_eq_true.mp q_xok13 z (List.mem_of_getElem? hz)) (fun j z hz => List.all_eq_true.mp q_xok14 z (List.mem_of_getElem? hz)) (fun j z hz => List.all_eq_true.mp q_xok15 z (List.mem_of_getElem? hz)) (fun j z hz => List.all_eq_true.mp q_xok16 z (List.mem_of_getElem? hz)) q_xok17
