theorem q_all_split {bytes : ByteArray} {o : Nat} {L : List (Nat × Instr × Nat × Nat)} {n : Nat} (h1 : (L.take n).all (q_xe bytes o) = true) (h2 : (L.drop n).all (q_xe bytes o) = true) : L.all (q_xe bytes o) = true := by
  rw [← List.take_append_drop n L, List.all_append, h1, h2]
  rfl
theorem q_xlaw : q_k351.all (q_xe code 11) = true := by
  exact (by have h := q_xl0; rw [List.drop_zero] at h; rwa [List.take_of_length_le (by decide +kernel)] at h)
theorem q_xok17 : ∀ (j : Nat) (z : q_MT), q_m17[j]? = some z → q_xok z = true := by
  intro j z hz
  rcases Nat.lt_trichotomy j 11 with h | h | h
  · exact List.all_eq_true.mp q_xok17a z (List.mem_of_getElem? (i := j) (by rw [List.getElem?_take, if_pos h]; exact hz))
  · subst h
    cases hz
    exact q_xlaw
  · exact List.all_eq_true.mp q_xok17b z (List.mem_of_getElem? (i := j - 12) (by rw [List.getElem?_drop, show 12 + (j - 12) = j by omega]; exact hz))
theorem q_xok_all : ∀ (j : Nat) (z : q_MT), q_mt[j]? = some z → q_xok z = true := q_rows (P := fun _ z => q_xok z = true) (fun j z hz => List.all_eq_true.mp q_xok0 z (List.mem_of_getElem? hz)) (fun j z hz => List.all_eq_true.mp q_xok1 z (List.mem_of_getElem? hz)) (fun j z hz => List.all_eq_true.mp q_xok2 z (List.mem_of_getElem? hz)) (fun j z hz => List.all_eq_true.mp q_xok3 z (List.mem_of_getElem? hz)) (fun j z hz => List.all_eq_true.mp q_xok4 z (List.mem_of_getElem? hz)) (fun j z hz => List.all_eq_true.mp q_xok5 z (List.mem_of_getElem? hz)) (fun j z hz => List.all_eq_true.mp q_xok6 z (List.mem_of_getElem? hz)) (fun j z hz => List.all_eq_true.mp q_xok7 z (List.mem_of_getElem? hz)) (fun j z hz => List.all_eq_true.mp q_xok8 z (List.mem_of_getElem? hz)) (fun j z hz => List.all_eq_true.mp q_xok9 z (List.mem_of_getElem? hz)) (fun j z hz => List.all_eq_true.mp q_xok10 z (List.mem_of_getElem? hz)) (fun j z hz => List.all_eq_true.mp q_xok11 z (List.mem_of_getElem? hz)) (fun j z hz => List.all_eq_true.mp q_xok12 z (List.mem_of_getElem? hz)) (fun j z hz => List.all_eq_true.mp q_xok13 z (List.mem_of_getElem? hz)) (fun j z hz => List.all_eq_true.mp q_xok14 z (List.mem_of_getElem? hz)) (fun j z hz => List.all_eq_true.mp q_xok15 z (List.mem_of_getElem? hz)) (fun j z hz => List.all_eq_true.mp q_xok16 z (List.mem_of_getElem? hz)) q_xok17
