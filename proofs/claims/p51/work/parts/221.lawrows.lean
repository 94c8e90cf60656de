/-! THE LAW'S OWN CELLS: rows that read, write and make them -/
abbrev zl_V (o : Unit × zt_S × zt_T) : q_O × q_M := (.inl none, zt_M o.2.2 o.2.1)
abbrev zl_I (o : Int × zt_S × zt_T) : q_O × q_M := (.inl (some (.int (Int32.ofInt o.1))), zt_M o.2.2 o.2.1)
/-- a call of the class that may throw: none where it does -/
def zt_by {α β : Type} (x : Option ((α ⊕ Nat) × zt_S)) (k : α → zt_S → Option β) : Option β := match x with
  | some (.inl r, s) => k r s
  | _ => none
theorem zt_byE {α β : Type} {x : Option ((α ⊕ Nat) × zt_S)} {k : α → zt_S → Option β} {o : β} (h : zt_by x k = some o) : ∃ r s, x = some (.inl r, s) ∧ k r s = some o := by
  unfold zt_by at h
  split at h
  · exact ⟨_, _, rfl, h⟩
  · cases h
theorem zt_byI {α β : Type} {k : α → zt_S → Option β} {r : α} {s : zt_S} : zt_by (some (.inl r, s)) k = k r s := rfl
/-- a call of a method of the law -/
def zt_bt {α β : Type} (x : Option (α × zt_S × zt_T)) (k : α → zt_S → zt_T → Option β) : Option β := match x with
  | some (r, s, t) => k r s t
  | none => none
theorem zt_btE {α β : Type} {x : Option (α × zt_S × zt_T)} {k : α → zt_S → zt_T → Option β} {o : β} (h : zt_bt x k = some o) : ∃ r s t, x = some (r, s, t) ∧ k r s t = some o := by
  unfold zt_bt at h
  split at h
  · exact ⟨_, _, _, rfl, h⟩
  · cases h
theorem zt_btI {α β : Type} {k : α → zt_S → zt_T → Option β} {r : α} {s : zt_S} {t : zt_T} : zt_bt (some (r, s, t)) k = k r s t := rfl
def zt_lT {β : Type} (k : Nat) (t : zt_T) (f : Nat → zt_T → Option β) : Option β := f k t
theorem zt_lTE {β : Type} {k : Nat} {t : zt_T} {f : Nat → zt_T → Option β} {o : β} (h : zt_lT k t f = some o) : ∃ k' t', k' = k ∧ t' = t ∧ f k' t' = some o := ⟨k, t, rfl, rfl, h⟩
/-- a row more, of l zeros -/
def zt_tn (T : zt_T) (l : Nat) : zt_T := (T.1 + 1, fun i => if i = T.1 then l else T.2.1 i, fun i j => if i = T.1 then 0 else T.2.2 i j)
/-- v at the place j of the cell k -/
def zt_tu (T : zt_T) (k : Nat) (j v : Int) : zt_T := (T.1, T.2.1, fun i j' => if i = k ∧ j' = j then v else T.2.2 i j')
/-- j is a place of the row k -/
abbrev zt_tk (T : zt_T) (k : Nat) (j : Int) : Prop := (1 ≤ k ∧ k < T.1 ∧ k < 100000) ∧ T.2.1 k ≤ 1000000 ∧ 0 ≤ j ∧ j < (T.2.1 k : Int)
theorem zt_Hl (T : zt_T) (σ : zt_S) : (zt_H T σ).length = 163 + T.1 := by
  unfold zt_H zt_Tl
  rw [List.length_append, zt_bl, List.length_map, List.length_range]
theorem zt_tat {T : zt_T} {σ : zt_S} {i : Nat} (hi : i < T.1) (hb : i < 100000) : q_at (zt_M T σ).1 (163 + i) = some (zt_Tc T i) := by
  unfold q_at
  rw [if_pos (show 163 + i < q_big by unfold q_big; omega)]
  show (zt_H T σ)[163 + i]? = _
  unfold zt_H
  rw [List.getElem?_append_right (by rw [zt_bl]; omega), zt_bl, Nat.add_sub_cancel_left]
  unfold zt_Tl
  rw [List.getElem?_map, List.getElem?_range hi]
  rfl
theorem zt_tset {T T' : zt_T} {σ : zt_S} {i : Nat} (hi : i < T.1) (h1 : T'.1 = T.1) (h2 : ∀ j, j ≠ i → zt_Tc T' j = zt_Tc T j) : (zt_H T σ).set (163 + i) (zt_Tc T' i) = zt_H T' σ := by
  unfold zt_H
  rw [List.set_append, if_neg (by rw [zt_bl]; omega), zt_bl, Nat.add_sub_cancel_left]
  refine congrArg (fun z => _ ++ z) ?_
  unfold zt_Tl
  apply List.ext_getElem?
  intro j
  rw [List.getElem?_set, List.getElem?_map, List.getElem?_map, List.length_map, List.length_range, h1]
  by_cases hj : i = j
  · subst hj
    rw [if_pos rfl, if_pos hi, List.getElem?_range hi]
    rfl
  · rw [if_neg hj]
    by_cases hj2 : j < T.1
    · rw [List.getElem?_range hj2]
      exact congrArg some (h2 j (Ne.symm hj)).symm
    · rw [List.getElem?_eq_none (by rw [List.length_range]; omega)]
      rfl
theorem zt_Mc {T T' : zt_T} (σ : zt_S) (h1 : T'.1 = T.1) (h2 : T'.2.1 = T.2.1) : (zt_H T' σ, (zt_M T σ).2) = zt_M T' σ := by
  unfold zt_M
  rw [h1, h2]
theorem zt_Tr {T : zt_T} {k : Nat} (h : 1 ≤ k) : zt_Tc T k = .inl (0, T.2.1 k, .inl (fun j => Int32.ofInt (T.2.2 k (j : Int)))) := by
  unfold zt_Tc
  rw [if_neg (by omega)]
theorem zt_T0c (T : zt_T) : zt_Tc T 0 = .inr (11, [.ref 164, .int (Int32.ofInt (T.2.2 0 1))]) := rfl
theorem zt_tuc {T : zt_T} {k : Nat} {j v : Int} : ∀ i, i ≠ k → zt_Tc (zt_tu T k j v) i = zt_Tc T i := by
  intro i hi
  have e : ∀ j' : Int, (zt_tu T k j v).2.2 i j' = T.2.2 i j' := fun j' => if_neg (fun z => hi z.1)
  unfold zt_Tc
  by_cases h0 : i = 0
  · subst h0
    rw [if_pos rfl, if_pos rfl, e]
  · rw [if_neg h0, if_neg h0]
    refine congrArg (fun z => Sum.inl (0, T.2.1 i, Sum.inl z)) (funext fun j' => ?_)
    rw [e]
section TL
variable {T : zt_T} {σ : zt_S} {X : q_X} {d y pc : Nat} {lv : q_L} {st : List Value} {o : q_O × q_M} {nL : Nat} {rt : Option FieldType} {hh : List (Nat × Nat × Nat × Nat)} {kd ow : Nat} {code : List (Nat × Instr × Nat × Nat)} {a b : Nat}
theorem zt_tb {k : Nat} (h : k < 100000) : ¬ 163 + k = q_big := by unfold q_big; omega
theorem zt_tld {k : Nat} {j : Int} (hy : (q_row y).2.2 = (nL, rt, hh, kd, ow, code)) (hi : q_ins code pc = some (.iaload, a, b)) (hg : zt_tk T k j) (h : zt_Ex X d y (pc + 1) lv (.int (Int32.ofInt (T.2.2 k j)) :: st) (zt_M T σ) o) : zt_Ex X d y pc lv (.int (Int32.ofInt j) :: .ref (163 + k) :: st) (zt_M T σ) o := by
  obtain ⟨⟨g1, g2, g3⟩, g4, g5⟩ := hg
  refine zt_p2 (pc' := pc + 1) (st' := .int (Int32.ofInt (T.2.2 k j)) :: st) hy hi rfl (fun _ => rfl) rfl ?_ h
  have h4 := zt_tat (T := T) (σ := σ) g2 g3
  rw [zt_Tr g1] at h4
  rw [zt_qild h4 (zt_tb g3) (zt_ix g5 g4), zt_jj g5 g4]
theorem zt_tst {k : Nat} {j v : Int} (hy : (q_row y).2.2 = (nL, rt, hh, kd, ow, code)) (hi : q_ins code pc = some (.iastore, a, b)) (hg : zt_tk T k j) (h : zt_Ex X d y (pc + 1) lv st (zt_M (zt_tu T k j v) σ) o) : zt_Ex X d y pc lv (.int (Int32.ofInt v) :: .int (Int32.ofInt j) :: .ref (163 + k) :: st) (zt_M T σ) o := by
  obtain ⟨⟨g1, g2, g3⟩, g4, g5⟩ := hg
  refine zt_p3 (pc' := pc + 1) (st' := st) (M' := zt_H (zt_tu T k j v) σ) hy hi rfl (fun _ => rfl) rfl rfl ?_ (by rw [zt_Mc (T := T) (T' := zt_tu T k j v) σ rfl rfl]; exact h)
  have h4 := zt_tat (T := T) (σ := σ) g2 g3
  rw [zt_Tr g1] at h4
  rw [zt_qist h4 (zt_ix g5 g4), zt_cl g5.1 (by omega), zt_Ma]
  have e : (.inl (0, T.2.1 k, .inl (upd (fun j => Int32.ofInt (T.2.2 k (j : Int))) j.toNat (Int32.ofInt v))) : va_E) = zt_Tc (zt_tu T k j v) k := by
    rw [zt_Tr g1]
    refine congrArg (fun z => Sum.inl (0, T.2.1 k, Sum.inl z)) (funext fun i => ?_)
    show (if i = j.toNat then Int32.ofInt v else Int32.ofInt (T.2.2 k (i : Int))) = Int32.ofInt (if k = k ∧ (i : Int) = j then v else T.2.2 k (i : Int))
    by_cases hj : i = j.toNat
    · rw [if_pos hj, if_pos (show k = k ∧ (i : Int) = j from ⟨rfl, by omega⟩)]
    · rw [if_neg hj, if_neg (show ¬ (k = k ∧ (i : Int) = j) by rintro ⟨-, h9⟩; omega)]
  rw [e, zt_tset (T' := zt_tu T k j v) g2 rfl zt_tuc]
theorem zt_tgR {n : Nat} (hy : (q_row y).2.2 = (nL, rt, hh, kd, ow, code)) (hi : q_ins code pc = some (.getfield n, 11, 0)) (hg : 0 < T.1) (h : zt_Ex X d y (pc + 3) lv (.ref (163 + 1) :: st) (zt_M T σ) o) : zt_Ex X d y pc lv (.ref 163 :: st) (zt_M T σ) o := by
  refine zt_p2 (pc' := pc + 3) (st' := .ref (163 + 1) :: st) hy hi rfl (fun _ => rfl) rfl ?_ h
  have h4 := zt_tat (T := T) (σ := σ) (i := 0) hg (by decide)
  rw [zt_T0c] at h4
  exact zt_qget h4 (by decide) rfl
theorem zt_tgI {n : Nat} (hy : (q_row y).2.2 = (nL, rt, hh, kd, ow, code)) (hi : q_ins code pc = some (.getfield n, 11, 1)) (hg : 0 < T.1) (h : zt_Ex X d y (pc + 3) lv (.int (Int32.ofInt (T.2.2 0 1)) :: st) (zt_M T σ) o) : zt_Ex X d y pc lv (.ref 163 :: st) (zt_M T σ) o := by
  refine zt_p2 (pc' := pc + 3) (st' := .int (Int32.ofInt (T.2.2 0 1)) :: st) hy hi rfl (fun _ => rfl) rfl ?_ h
  have h4 := zt_tat (T := T) (σ := σ) (i := 0) hg (by decide)
  rw [zt_T0c] at h4
  exact zt_qget h4 (by decide) rfl
theorem zt_tpI {n : Nat} {v : Int} (hy : (q_row y).2.2 = (nL, rt, hh, kd, ow, code)) (hi : q_ins code pc = some (.putfield n, 11, 1)) (hg : 0 < T.1) (h : zt_Ex X d y (pc + 3) lv st (zt_M (zt_tu T 0 1 v) σ) o) : zt_Ex X d y pc lv (.int (Int32.ofInt v) :: .ref 163 :: st) (zt_M T σ) o := by
  refine zt_p3 (pc' := pc + 3) (st' := st) (M' := zt_H (zt_tu T 0 1 v) σ) hy hi rfl (fun _ => rfl) rfl rfl ?_ (by rw [zt_Mc (T := T) (T' := zt_tu T 0 1 v) σ rfl rfl]; exact h)
  have h4 := zt_tat (T := T) (σ := σ) (i := 0) hg (by decide)
  rw [zt_T0c] at h4
  rw [zt_qput h4 (by decide) (Nat.le_of_ble_eq_true rfl) rfl rfl (by show (!false || _) = true; rfl), zt_Ma]
  have e : (.inr (11, [Value.ref 164, .int (Int32.ofInt (T.2.2 0 1))].set 1 (.int (Int32.ofInt v))) : va_E) = zt_Tc (zt_tu T 0 1 v) 0 := rfl
  rw [e]
  exact congrArg (fun z => some (pc + 3, st, z)) (zt_tset (T' := zt_tu T 0 1 v) (i := 0) hg rfl zt_tuc)
theorem zt_tnH (l : Nat) : zt_H T σ ++ [.inl (0, l, .inl (fun _ => 0))] = zt_H (zt_tn T l) σ ∨ T.1 = 0 := by
  by_cases h0 : T.1 = 0
  · exact Or.inr h0
  · refine Or.inl ?_
    unfold zt_H
    rw [List.append_assoc]
    refine congrArg (fun z => _ ++ z) ?_
    unfold zt_Tl
    show _ = (List.range (T.1 + 1)).map _
    rw [List.range_succ, List.map_append]
    refine congr (congrArg _ (List.map_congr_left fun i hi => ?_)) ?_
    · have hi := List.mem_range.mp hi
      have e : ¬ i = T.1 := by omega
      have e1 : ∀ j' : Int, (zt_tn T l).2.2 i j' = T.2.2 i j' := fun j' => if_neg e
      have e2 : (zt_tn T l).2.1 i = T.2.1 i := if_neg e
      unfold zt_Tc
      by_cases hi0 : i = 0
      · subst hi0
        rw [if_pos rfl, if_pos rfl, e1]
      · rw [if_neg hi0, if_neg hi0, e2]
        refine congrArg (fun z => Sum.inl (0, T.2.1 i, Sum.inl z)) (funext fun j' => ?_)
        rw [e1]
    · show [_] = [_]
      refine congrArg (fun z => [z]) ?_
      rw [zt_Tr (T := zt_tn T l) (by omega)]
      have e1 : ∀ j' : Int, (zt_tn T l).2.2 T.1 j' = 0 := fun j' => if_pos rfl
      have e2 : (zt_tn T l).2.1 T.1 = l := if_pos rfl
      rw [e2]
      refine congrArg (fun z => Sum.inl (0, l, Sum.inl z)) (funext fun j' => ?_)
      rw [e1]
      rfl
theorem zt_tnS (l : Nat) : zt_sm (zt_tn T l).2.1 (T.1 + 1) = zt_sm T.2.1 T.1 + l := by
  have key : ∀ n, n ≤ T.1 → zt_sm (zt_tn T l).2.1 n = zt_sm T.2.1 n := by
    intro n
    induction n with
    | zero => intro _; rfl
    | succ n ih =>
      intro hn
      show zt_sm (zt_tn T l).2.1 n + (zt_tn T l).2.1 n = zt_sm T.2.1 n + T.2.1 n
      rw [ih (by omega)]
      unfold zt_tn
      dsimp only
      rw [if_neg (by omega)]
  show zt_sm (zt_tn T l).2.1 T.1 + (zt_tn T l).2.1 T.1 = _
  rw [key _ (Nat.le_refl _)]
  unfold zt_tn
  dsimp only
  rw [if_pos rfl]
theorem zt_tnw {l : Nat} (hy : (q_row y).2.2 = (nL, rt, hh, kd, ow, code)) (hi : q_ins code pc = some (.newarray .int, a, b)) (hl : l ≤ 20000) (hg : T.1 < 100000) (h0 : 0 < T.1) (h : zt_Ex X d y (pc + 2) lv (.ref (163 + T.1) :: st) (zt_M (zt_tn T l) σ) o) : zt_Ex X d y pc lv (.int (Int32.ofInt (l : Int)) :: st) (zt_M T σ) o := by
  refine zt_st (pc' := pc + 2) (lv2 := lv) (st' := .ref (163 + T.1) :: st) (M' := zt_M (zt_tn T l) σ) hy hi rfl (fun lv' hc => ⟨lv', hc, ?_⟩) h
  have e1 : (Int32.ofInt (l : Int)).toNatClampNeg = l := by rw [zt_cl (by omega) (by omega)]; omega
  have e2 : ¬ Int32.ofInt (l : Int) < 0 := zt_nn ⟨by omega, by omega⟩
  show (match (if (Int32.ofInt (l : Int)) < 0 ∨ 20000 < (Int32.ofInt (l : Int)).toNatClampNeg then none else (q_na .int (Int32.ofInt (l : Int)).toNatClampNeg).map (fun e => (pc + 2, st, e, (Int32.ofInt (l : Int)).toNatClampNeg))) with | some (pc', st', e, n) => if (zt_M T σ).1.length < q_big then some (pc', lv', Value.ref (zt_M T σ).1.length :: st', ((zt_M T σ).1 ++ [e], (zt_M T σ).2.1 + 1, (zt_M T σ).2.2 + n)) else none | none => none) = _
  rw [if_neg (by rintro (z | z); exact e2 z; rw [e1] at z; omega), e1]
  rw [show q_na .int l = some (.inl (0, l, .inl (fun _ => 0))) from rfl]
  dsimp only [Option.map]
  rw [zt_Ma, zt_Hl, if_pos (show 163 + T.1 < q_big by unfold q_big; omega), (zt_tnH l).resolve_right (by omega)]
  have e3 : (zt_H (zt_tn T l) σ, (zt_M T σ).2.1 + 1, (zt_M T σ).2.2 + l) = zt_M (zt_tn T l) σ := by
    unfold zt_M
    dsimp only
    rw [show (zt_tn T l).1 = T.1 + 1 from rfl, zt_tnS]
    refine congrArg (fun z => (zt_H (zt_tn T l) σ, z)) ?_
    rw [Nat.add_assoc, Nat.add_assoc (zt_s0 + 6 * σ.2.2.2)]
  rw [e3]
theorem zt_rcvT {as : List Value} (h : 0 < T.1) : q_rcv 1 11 (.ref 163 :: as) (zt_M T σ).1 = true := by
  have h4 := zt_tat (T := T) (σ := σ) (i := 0) h (by decide)
  rw [zt_T0c] at h4
  exact zt_qrcv h4
end TL
