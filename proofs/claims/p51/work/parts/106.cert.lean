theorem q_app {P : Nat → q_MT → Prop} {L1 L2 : List q_MT} {n k : Nat} (hn : L1.length = n) (h1 : ∀ (j : Nat) (z : q_MT), L1[j]? = some z → P (k + j) z) (h2 : ∀ (j : Nat) (z : q_MT), L2[j]? = some z → P (k + n + j) z) : ∀ (j : Nat) (z : q_MT), (L1 ++ L2)[j]? = some z → P (k + j) z := by
  intro j z hz
  by_cases hj : j < L1.length
  · rw [List.getElem?_append_left hj] at hz
    exact h1 j z hz
  · rw [List.getElem?_append_right (Nat.not_lt.mp hj)] at hz
    have := h2 _ z hz
    rw [hn] at this hj
    rwa [show k + n + (j - n) = k + j by omega] at this
theorem q_mokL_get : ∀ (L : List q_MT) (k : Nat), q_mokL k L = true → ∀ (j : Nat) (z : q_MT), L[j]? = some z → k + j = q_law ∨ q_mok (k + j) z = true
  | [], k, _, j, z, hz => by simp at hz
  | w :: L, k, h, j, z, hz => by
    simp only [q_mokL, Bool.and_eq_true, Bool.or_eq_true, decide_eq_true_eq] at h
    cases j with
    | zero =>
      simp only [List.getElem?_cons_zero, Option.some.injEq] at hz
      subst hz
      exact h.1
    | succ j =>
      rw [List.getElem?_cons_succ] at hz
      have := q_mokL_get L (k + 1) h.2 j z hz
      rwa [show k + 1 + j = k + (j + 1) by omega] at this
theorem q_take_get {P : q_MT → Prop} {L : List q_MT} {n k : Nat} (h1 : ∀ z ∈ L.take n, P z) (h2 : ∀ z ∈ L.drop (n + 1), P z) (hk : k + n = q_law) : ∀ (j : Nat) (z : q_MT), L[j]? = some z → k + j = q_law ∨ P z := by
  intro j z hz
  rcases Nat.lt_trichotomy j n with h | h | h
  · exact Or.inr (h1 z (List.mem_of_getElem? (i := j) (by rw [List.getElem?_take, if_pos h]; exact hz)))
  · exact Or.inl (by omega)
  · exact Or.inr (h2 z (List.mem_of_getElem? (i := j - (n + 1)) (by rw [List.getElem?_drop, show n + 1 + (j - (n + 1)) = j by omega]; exact hz)))
theorem q_rows {P : Nat → q_MT → Prop} (h0 : ∀ (j : Nat) (z : q_MT), q_m0[j]? = some z → P (0 + j) z) (h1 : ∀ (j : Nat) (z : q_MT), q_m1[j]? = some z → P (20 + j) z) (h2 : ∀ (j : Nat) (z : q_MT), q_m2[j]? = some z → P (40 + j) z) (h3 : ∀ (j : Nat) (z : q_MT), q_m3[j]? = some z → P (60 + j) z) (h4 : ∀ (j : Nat) (z : q_MT), q_m4[j]? = some z → P (80 + j) z) (h5 : ∀ (j : Nat) (z : q_MT), q_m5[j]? = some z → P (100 + j) z) (h6 : ∀ (j : Nat) (z : q_MT), q_m6[j]? = some z → P (120 + j) z) (h7 : ∀ (j : Nat) (z : q_MT), q_m7[j]? = some z → P (140 + j) z) (h8 : ∀ (j : Nat) (z : q_MT), q_m8[j]? = some z → P (160 + j) z) (h9 : ∀ (j : Nat) (z : q_MT), q_m9[j]? = some z → P (180 + j) z) (h10 : ∀ (j : Nat) (z : q_MT), q_m10[j]? = some z → P (200 + j) z) (h11 : ∀ (j : Nat) (z : q_MT), q_m11[j]? = some z → P (220 + j) z) (h12 : ∀ (j : Nat) (z : q_MT), q_m12[j]? = some z → P (240 + j) z) (h13 : ∀ (j : Nat) (z : q_MT), q_m13[j]? = some z → P (260 + j) z) (h14 : ∀ (j : Nat) (z : q_MT), q_m14[j]? = some z → P (280 + j) z) (h15 : ∀ (j : Nat) (z : q_MT), q_m15[j]? = some z → P (300 + j) z) (h16 : ∀ (j : Nat) (z : q_MT), q_m16[j]? = some z → P (320 + j) z) (h17 : ∀ (j : Nat) (z : q_MT), q_m17[j]? = some z → P (340 + j) z) : ∀ (j : Nat) (z : q_MT), q_mt[j]? = some z → P j z := by
  have e17 := h17
  have e16 := q_app (P := P) (n := 20) (k := 320) rfl h16 e17
  have e15 := q_app (P := P) (n := 20) (k := 300) rfl h15 e16
  have e14 := q_app (P := P) (n := 20) (k := 280) rfl h14 e15
  have e13 := q_app (P := P) (n := 20) (k := 260) rfl h13 e14
  have e12 := q_app (P := P) (n := 20) (k := 240) rfl h12 e13
  have e11 := q_app (P := P) (n := 20) (k := 220) rfl h11 e12
  have e10 := q_app (P := P) (n := 20) (k := 200) rfl h10 e11
  have e9 := q_app (P := P) (n := 20) (k := 180) rfl h9 e10
  have e8 := q_app (P := P) (n := 20) (k := 160) rfl h8 e9
  have e7 := q_app (P := P) (n := 20) (k := 140) rfl h7 e8
  have e6 := q_app (P := P) (n := 20) (k := 120) rfl h6 e7
  have e5 := q_app (P := P) (n := 20) (k := 100) rfl h5 e6
  have e4 := q_app (P := P) (n := 20) (k := 80) rfl h4 e5
  have e3 := q_app (P := P) (n := 20) (k := 60) rfl h3 e4
  have e2 := q_app (P := P) (n := 20) (k := 40) rfl h2 e3
  have e1 := q_app (P := P) (n := 20) (k := 20) rfl h1 e2
  have e0 := q_app (P := P) (n := 20) (k := 0) rfl h0 e1
  intro j z hz
  have := e0 j z hz
  rwa [Nat.zero_add] at this
theorem q_mt_len : q_mt.length = 353 := by decide +kernel
theorem q_mok_all : ∀ (j : Nat) (z : q_MT), q_mt[j]? = some z → j = q_law ∨ q_mok j z = true := q_rows (P := fun j z => j = q_law ∨ q_mok j z = true) (q_mokL_get q_m0 0 q_mok0) (q_mokL_get q_m1 20 q_mok1) (q_mokL_get q_m2 40 q_mok2) (q_mokL_get q_m3 60 q_mok3) (q_mokL_get q_m4 80 q_mok4) (q_mokL_get q_m5 100 q_mok5) (q_mokL_get q_m6 120 q_mok6) (q_mokL_get q_m7 140 q_mok7) (q_mokL_get q_m8 160 q_mok8) (q_mokL_get q_m9 180 q_mok9) (q_mokL_get q_m10 200 q_mok10) (q_mokL_get q_m11 220 q_mok11) (q_mokL_get q_m12 240 q_mok12) (q_mokL_get q_m13 260 q_mok13) (q_mokL_get q_m14 280 q_mok14) (q_mokL_get q_m15 300 q_mok15) (q_mokL_get q_m16 320 q_mok16) (q_mokL_get q_m17 340 q_mok17)
theorem q_mP_all : ∀ (j : Nat) (z : q_MT), q_mt[j]? = some z → j = q_law ∨ q_mP z := q_rows (P := fun j z => j = q_law ∨ q_mP z) (fun j z hz => Or.inr (q_mw0 z (List.mem_of_getElem? hz))) (fun j z hz => Or.inr (q_mw1 z (List.mem_of_getElem? hz))) (fun j z hz => Or.inr (q_mw2 z (List.mem_of_getElem? hz))) (fun j z hz => Or.inr (q_mw3 z (List.mem_of_getElem? hz))) (fun j z hz => Or.inr (q_mw4 z (List.mem_of_getElem? hz))) (fun j z hz => Or.inr (q_mw5 z (List.mem_of_getElem? hz))) (fun j z hz => Or.inr (q_mw6 z (List.mem_of_getElem? hz))) (fun j z hz => Or.inr (q_mw7 z (List.mem_of_getElem? hz))) (fun j z hz => Or.inr (q_mw8 z (List.mem_of_getElem? hz))) (fun j z hz => Or.inr (q_mw9 z (List.mem_of_getElem? hz))) (fun j z hz => Or.inr (q_mw10 z (List.mem_of_getElem? hz))) (fun j z hz => Or.inr (q_mw11 z (List.mem_of_getElem? hz))) (fun j z hz => Or.inr (q_mw12 z (List.mem_of_getElem? hz))) (fun j z hz => Or.inr (q_mw13 z (List.mem_of_getElem? hz))) (fun j z hz => Or.inr (q_mw14 z (List.mem_of_getElem? hz))) (fun j z hz => Or.inr (q_mw15 z (List.mem_of_getElem? hz))) (fun j z hz => Or.inr (q_mw16 z (List.mem_of_getElem? hz))) (q_take_get (n := 11) q_mw17a q_mw17b rfl)
