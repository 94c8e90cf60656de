/-! places into addresses -/
def q_tv (ad : Nat → Nat) (v : Value) : Value := match v with
  | .ref i => .ref (ad i)
  | v => v
abbrev q_tl (ad : Nat → Nat) (lv : q_L) : q_L := lv.map (fun q => (q.1, q_tv ad q.2))
abbrev q_ts (ad : Nat → Nat) (st : List Value) : List Value := st.map (q_tv ad)
def q_te (ad : Nat → Nat) (tc : Nat → ClassId) (e : va_E) : va_E := match e with
  | .inl (t, n, .inr (.inr (.inr (.inr g)))) => .inl (tc t, n, .inr (.inr (.inr (.inr (fun j => (g j).map ad)))))
  | .inl (t, n, .inr (.inr (.inr (.inl g)))) => .inl (tc t, n, .inr (.inr (.inr (.inl g))))
  | .inl (t, n, .inr (.inr (.inl g))) => .inl (tc t, n, .inr (.inr (.inl g)))
  | .inl (t, n, .inr (.inl g)) => .inl (tc t, n, .inr (.inl g))
  | .inl (t, n, .inl g) => .inl (tc t, n, .inl g)
  | .inr (ci, fs) => .inr (ci, fs.map (q_tv ad))
def q_rz (ad : Nat → Nat) (tc : Nat → ClassId) (M : List va_E) : va_W := M.mapIdx (fun i e => (ad i, q_te ad tc e))
theorem q_tv_int (ad : Nat → Nat) (x : Int32) : q_tv ad (.int x) = .int x := rfl
theorem q_tv_cat (ad : Nat → Nat) (v : Value) : (q_tv ad v).category = v.category := by cases v <;> rfl
theorem q_ts_cat (ad : Nat → Nat) (st : List Value) : ((q_ts ad st).map fun v => v.category) = st.map fun v => v.category := by
  simp only [q_ts, List.map_map]
  exact List.map_congr_left (fun v _ => q_tv_cat ad v)
theorem q_tv_narrow {ad : Nat → Nat} {ty : FieldType} {v : Value} (h : narrow ty v = v) : narrow ty (q_tv ad v) = q_tv ad v := by
  cases v <;> first | exact h | (cases ty <;> rfl)
theorem q_tv_fits {ad : Nat → Nat} {ty : FieldType} {v : Value} (h : fits ty v = true) : fits ty (q_tv ad v) = true := by
  cases v <;> first | exact h | (cases ty <;> first | exact h | rfl | simp_all [fits, q_tv])
theorem q_tl_s1 (ad : Nat → Nat) (lv : q_L) (i : Nat) (v : Value) : (i, q_tv ad v) :: (q_tl ad lv).filter (fun q => !(q.1 == i) && !(q.1 + 1 == i && q.2.category == 2)) = q_tl ad (q_s1 lv i v) := by
  simp only [q_s1, q_tl, List.map_cons, List.filter_map]
  congr 2
  apply List.filter_congr
  intro q _
  simp only [Function.comp, q_tv_cat]
theorem q_tl_s2 (ad : Nat → Nat) (lv : q_L) (i : Nat) (v : Value) : (i, q_tv ad v) :: (q_tl ad lv).filter (fun q => !(q.1 == i) && (!(q.1 == i + 1) && !(q.1 + 1 == i && q.2.category == 2))) = q_tl ad (q_s2 lv i v) := by
  simp only [q_s2, q_tl, List.map_cons, List.filter_map]
  congr 2
  apply List.filter_congr
  intro q _
  simp only [Function.comp, q_tv_cat]
theorem q_ld_mem {lv : q_L} {i : Nat} {v : Value} (h : q_ld lv i = some v) : (i, v) ∈ lv := by
  unfold q_ld at h
  obtain ⟨q, h1, h2⟩ := Option.map_eq_some_iff.mp h
  have h3 := List.find?_some h1
  have h4 := List.mem_of_find?_eq_some h1
  simp only [beq_iff_eq] at h3
  subst h2; subst h3
  exact h4
theorem q_ld_at {ad : Nat → Nat} {ls : Array Slot} {nL : Nat} {lv : q_L} {i : Nat} {v : Value} (hl : lv_has ls nL (q_tl ad lv)) (h : q_ld lv i = some v) : ls[i]? = some (.val (q_tv ad v)) :=
  hl.2.2 (i, q_tv ad v) (List.mem_map.mpr ⟨(i, v), q_ld_mem h, rfl⟩)
theorem q_ld_k {ad : Nat → Nat} {lv : q_L} {i : Nat} {v : Value} (h : q_ld lv i = some v) : ∃ k : Nat, (q_tl ad lv)[k]? = some (i, q_tv ad v) := List.getElem?_of_mem (List.mem_map.mpr ⟨(i, v), q_ld_mem h, rfl⟩)
theorem q_rz_get (ad : Nat → Nat) (tc : Nat → ClassId) (M : List va_E) (k : Nat) : (q_rz ad tc M)[k]? = M[k]?.map (fun e => (ad k, q_te ad tc e)) := by
  unfold q_rz
  rw [List.getElem?_mapIdx]
theorem q_rz_at {ad : Nat → Nat} {tc : Nat → ClassId} {M : List va_E} {k : Nat} {e : va_E} (h : q_at M k = some e) : (q_rz ad tc M)[k]? = some (ad k, q_te ad tc e) := by
  unfold q_at at h
  split at h
  · rw [q_rz_get, h]; rfl
  · cases h
theorem q_rz_set (ad : Nat → Nat) (tc : Nat → ClassId) (M : List va_E) (k : Nat) (e : va_E) : (q_rz ad tc M).set k (ad k, q_te ad tc e) = q_rz ad tc (M.set k e) := by
  apply List.ext_getElem?
  intro j
  rw [q_rz_get, List.getElem?_set, List.getElem?_set, q_rz_get]
  have hlen : (q_rz ad tc M).length = M.length := by unfold q_rz; simp
  by_cases hj : k = j
  · subst hj
    rw [if_pos rfl, if_pos rfl, hlen]
    by_cases hk : k < M.length
    · rw [if_pos hk, if_pos hk]; rfl
    · rw [if_neg hk, if_neg hk]; rfl
  · rw [if_neg hj, if_neg hj]
/-- a value that names a place that is there -/
def q_vv (n : Nat) (v : Value) : Prop := ∀ i : Nat, v = .ref i → i < n ∨ q_big ≤ i
def q_ve (n : Nat) (e : va_E) : Prop := match e with
  | .inr (_, fs) => ∀ v ∈ fs, q_vv n v
  | .inl (_, _, .inr (.inr (.inr (.inr g)))) => ∀ (j i : Nat), g j = some i → i < n ∨ q_big ≤ i
  | _ => True
def q_vM (M : List va_E) : Prop := ∀ e ∈ M, q_ve M.length e
def q_vs (n : Nat) (st : List Value) : Prop := ∀ v ∈ st, q_vv n v
def q_vl (n : Nat) (lv : q_L) : Prop := ∀ q ∈ lv, q_vv n q.2
theorem q_vv.mono {n n' : Nat} {v : Value} (h : q_vv n v) (hn : n ≤ n') : q_vv n' v := fun i hi => (h i hi).imp (fun z => Nat.lt_of_lt_of_le z hn) id
theorem q_ve.mono {n n' : Nat} {e : va_E} (h : q_ve n e) (hn : n ≤ n') : q_ve n' e := by
  unfold q_ve at h ⊢
  split
  · exact fun v hv => (h v hv).mono hn
  · exact fun j i hi => (h j i hi).imp (fun z => Nat.lt_of_lt_of_le z hn) id
  · trivial
theorem q_vs.mono {n n' : Nat} {st : List Value} (h : q_vs n st) (hn : n ≤ n') : q_vs n' st := fun v hv => (h v hv).mono hn
theorem q_vl.mono {n n' : Nat} {lv : q_L} (h : q_vl n lv) (hn : n ≤ n') : q_vl n' lv := fun v hv => (h v hv).mono hn
/-- one more place -/
def q_ag (n : Nat) (ad ad' : Nat → Nat) : Prop := ∀ i : Nat, i < n ∨ q_big ≤ i → ad' i = ad i
theorem q_ag.rf {n : Nat} {ad : Nat → Nat} : q_ag n ad ad := fun _ _ => rfl
theorem q_ag.trans {n n' : Nat} {a b c : Nat → Nat} (h1 : q_ag n a b) (h2 : q_ag n' b c) (hn : n ≤ n') : q_ag n a c := fun i hi => (h2 i (hi.imp (fun z => Nat.lt_of_lt_of_le z hn) id)).trans (h1 i hi)
theorem q_tv_ag {n : Nat} {ad ad' : Nat → Nat} (h : q_ag n ad ad') {v : Value} (hv : q_vv n v) : q_tv ad' v = q_tv ad v := by
  cases v with
  | ref i => show Value.ref _ = Value.ref _; rw [h i (hv i rfl)]
  | _ => rfl
theorem q_ts_ag {n : Nat} {ad ad' : Nat → Nat} (h : q_ag n ad ad') {st : List Value} (hv : q_vs n st) : q_ts ad' st = q_ts ad st := List.map_congr_left (fun v hm => q_tv_ag h (hv v hm))
theorem q_tl_ag {n : Nat} {ad ad' : Nat → Nat} (h : q_ag n ad ad') {lv : q_L} (hv : q_vl n lv) : q_tl ad' lv = q_tl ad lv := List.map_congr_left (fun q hm => by rw [q_tv_ag h (hv q hm)])
theorem q_te_ag {n : Nat} {ad ad' : Nat → Nat} (h : q_ag n ad ad') {tc : Nat → ClassId} {e : va_E} (hv : q_ve n e) : q_te ad' tc e = q_te ad tc e := by
  unfold q_ve at hv
  match e, hv with
  | .inr (ci, fs), hv =>
    show Sum.inr (ci, _) = Sum.inr (ci, _)
    rw [List.map_congr_left (fun v hm => q_tv_ag h (hv v hm))]
  | .inl (t, n, .inr (.inr (.inr (.inr g)))), hv =>
    show Sum.inl (_, _, Sum.inr (Sum.inr (Sum.inr (Sum.inr _)))) = Sum.inl (_, _, Sum.inr (Sum.inr (Sum.inr (Sum.inr _))))
    have : (fun j => (g j).map ad') = (fun j => (g j).map ad) := by
      funext j
      cases hg : g j with
      | none => rfl
      | some i => show some (ad' i) = some (ad i); rw [h i (hv j i hg)]
    rw [this]
  | .inl (t, n, .inr (.inr (.inr (.inl g)))), hv => rfl
  | .inl (t, n, .inr (.inr (.inl g))), hv => rfl
  | .inl (t, n, .inr (.inl g)), hv => rfl
  | .inl (t, n, .inl g), hv => rfl
theorem q_rz_ag {n : Nat} {ad ad' : Nat → Nat} (h : q_ag n ad ad') {tc : Nat → ClassId} {M : List va_E} (hn : M.length ≤ n) (hv : ∀ e ∈ M, q_ve n e) : q_rz ad' tc M = q_rz ad tc M := by
  apply List.ext_getElem?
  intro j
  rw [q_rz_get, q_rz_get]
  cases hj : M[j]? with
  | none => rfl
  | some e =>
    have hl : j < M.length := (List.getElem?_eq_some_iff.mp hj).1
    show some (ad' j, q_te ad' tc e) = some (ad j, q_te ad tc e)
    rw [h j (Or.inl (Nat.lt_of_lt_of_le hl hn)), q_te_ag h (hv e (List.mem_of_getElem? hj))]
def q_ext (ad : Nat → Nat) (n q : Nat) : Nat → Nat := fun i => if i = n then q else ad i
theorem q_ext_ag {ad : Nat → Nat} {n q : Nat} (hn : n < q_big) : q_ag n ad (q_ext ad n q) := by
  intro i hi
  unfold q_ext
  rw [if_neg]
  rcases hi with h | h
  · exact Nat.ne_of_lt h
  · exact Nat.ne_of_gt (Nat.lt_of_lt_of_le hn h)
theorem q_rz_push {ad : Nat → Nat} {tc : Nat → ClassId} {M : List va_E} {e : va_E} {q : Nat} (hv : q_vM M) (he : q_ve M.length e) (hn : M.length < q_big) : q_rz ad tc M ++ [(q, q_te ad tc e)] = q_rz (q_ext ad M.length q) tc (M ++ [e]) := by
  have h1 : q_rz (q_ext ad M.length q) tc M = q_rz ad tc M := q_rz_ag (q_ext_ag hn) (Nat.le_refl _) hv
  apply List.ext_getElem?
  intro j
  have hlen : (q_rz ad tc M).length = M.length := by unfold q_rz; simp
  rw [q_rz_get]
  by_cases hj : j < M.length
  · rw [List.getElem?_append_left (by rw [hlen]; exact hj), List.getElem?_append_left hj, ← h1, q_rz_get]
  · by_cases hj2 : j = M.length
    · subst hj2
      rw [List.getElem?_append_right (by rw [hlen]; exact Nat.le_refl _), List.getElem?_append_right (Nat.le_refl _), hlen, Nat.sub_self]
      show some (q, q_te ad tc e) = some (q_ext ad M.length q M.length, q_te (q_ext ad M.length q) tc e)
      rw [q_te_ag (q_ext_ag hn) he]
      unfold q_ext
      rw [if_pos rfl]
    · rw [List.getElem?_eq_none (by rw [List.length_append, hlen]; simp; omega), List.getElem?_eq_none (by rw [List.length_append]; simp; omega)]
      rfl
